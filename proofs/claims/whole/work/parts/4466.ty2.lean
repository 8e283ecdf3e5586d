/-! several EXPRS one behind another -/
def px_TS (B nf : Nat) (ins : List Nat) (ts : List (pt_T × Nat)) (P Q : Nat → Prop) (T : Nat) (up : Nat → Nat) (ar : pu_A) (cl : Bool) (T' : Nat) (up' : Nat → Nat) (ar' : pu_A) (cl' : Bool) : Prop :=
  T ≤ T' ∧ (∀ j, j < T → ar' j = ar j) ∧ (∀ p ∈ ts, p.2 < T' ∧ pt_tw p.1 ∧ ∃ ka kb, pn_can B p.1 ka kb ∧ (∀ d, ka.2.2.2 ≤ d → d < kb.2.2.2 → P d) ∧ ∀ s, ka.2.2.1 ≤ s → s < kb.2.2.1 → Q s) ∧
  (∀ (r : pv_R) (val : Nat → pv_T), (∀ p ∈ ts, pv_S r p.1) → pu_0 T up ar val → pu_E T up ar val → px_cs ins nf r val → ∃ val', (∀ j, j < T → val' j = val j) ∧ pu_0 T' up' ar' val' ∧ pu_E T' up' ar' val' ∧ cl' = cl ∧ ∀ p ∈ ts, val' p.2 = pv_t r p.1) ∧
  (cl' = false → cl = false ∧ ∀ val, pu_0 T' up' ar' val → pu_0 T up ar val ∧ (pu_E T up ar val → pu_E T' up' ar' val ∧ ∀ r, px_cs ins nf r val → ∃ r', r'.1 = r.1 ∧ r'.2.1 = r.2.1 ∧ (∀ d, ¬ P d → r'.2.2.1 d = r.2.2.1 d) ∧ (∀ s, ¬ Q s → r'.2.2.2 s = r.2.2.2 s) ∧ ∀ p ∈ ts, pv_S r' p.1 ∧ pv_t r' p.1 = val p.2))
theorem px_TS_nil (B nf : Nat) (ins : List Nat) (P Q : Nat → Prop) (T : Nat) (up : Nat → Nat) (ar : pu_A) (cl : Bool) : px_TS B nf ins [] P Q T up ar cl T up ar cl :=
  ⟨Nat.le_refl _, fun _ _ => rfl, (fun p hp => by cases hp), fun r val _ h0 hE _ => ⟨val, fun _ _ => rfl, h0, hE, rfl, fun p hp => by cases hp⟩, fun c => ⟨c, fun val h0 => ⟨h0, fun hE => ⟨hE, fun r _ => ⟨r, rfl, rfl, fun _ _ => rfl, fun _ _ => rfl, fun p hp => by cases hp⟩⟩⟩⟩⟩
theorem px_TS_snoc {B nf : Nat} {ins : List Nat} {ts : List (pt_T × Nat)} {P Q P' Q' : Nat → Prop} {T : Nat} {up : Nat → Nat} {ar : pu_A} {cl : Bool} {T1 : Nat} {up1 : Nat → Nat} {ar1 : pu_A} {cl1 : Bool} {T2 : Nat} {up2 : Nat → Nat} {ar2 : pu_A} {cl2 : Bool} {t : pt_T} {k k' : pk_K} {q : Nat} (hT : 75 + 2 * nf ≤ T) (hi : ∀ v, px_xi ins v < 74) (h : px_TS B nf ins ts P Q T up ar cl T1 up1 ar1 cl1) (tt : pt_tw t) (hc : pn_can B t k k') (hb : px_TY nf ins t k k' T1 up1 ar1 cl1 T2 up2 ar2 cl2 q) (dP : ∀ d, k.2.2.2 ≤ d → d < k'.2.2.2 → ¬ P d) (dQ : ∀ s, k.2.2.1 ≤ s → s < k'.2.2.1 → ¬ Q s) (hP : ∀ d, P' d ↔ (P d ∨ (k.2.2.2 ≤ d ∧ d < k'.2.2.2))) (hQ : ∀ s, Q' s ↔ (Q s ∨ (k.2.2.1 ≤ s ∧ s < k'.2.2.1))) : px_TS B nf ins (ts ++ [(t, q)]) P' Q' T up ar cl T2 up2 ar2 cl2 := by
  obtain ⟨a1, a2, a3, a4, a5⟩ := h
  obtain ⟨b1, b2, b3, b4, b5⟩ := hb
  refine ⟨by omega, fun j hj => (b3 j (by omega)).trans (a2 j hj), fun p hp => ?_, fun r val hS h0 hE hcs => ?_, fun c => ?_⟩
  · rcases List.mem_append.mp hp with z | z
    · obtain ⟨x1, x2, ka, kb, x3, x4, x5⟩ := a3 p z
      exact ⟨by omega, x2, ka, kb, x3, fun d y1 y2 => (hP d).mpr (Or.inl (x4 d y1 y2)), fun s y1 y2 => (hQ s).mpr (Or.inl (x5 s y1 y2))⟩
    · rw [List.mem_singleton] at z
      rw [z]
      exact ⟨b2, tt, k, k', hc, fun d y1 y2 => (hP d).mpr (Or.inr ⟨y1, y2⟩), fun s y1 y2 => (hQ s).mpr (Or.inr ⟨y1, y2⟩)⟩
  · obtain ⟨val1, e1, e2, e3, e4, e5⟩ := a4 r val (fun p hp => hS p (List.mem_append_left _ hp)) h0 hE hcs
    obtain ⟨val2, f1, f2, f3, f4, f5⟩ := b4 r val1 (hS (t, q) (List.mem_append_right _ (by simp))) e2 e3 (px_cs_of hT hi hcs rfl rfl e1)
    refine ⟨val2, fun j hj => (f1 j (by omega)).trans (e1 j hj), f2, f3, f4.trans e4, fun p hp => ?_⟩
    rcases List.mem_append.mp hp with z | z
    · rw [f1 _ (a3 p z).1]
      exact e5 p z
    · rw [List.mem_singleton] at z
      rw [z]
      exact f5
  · obtain ⟨c1, b6⟩ := b5 c
    obtain ⟨c0, a6⟩ := a5 c1
    refine ⟨c0, fun val h2 => ?_⟩
    obtain ⟨h1, g2⟩ := b6 val h2
    obtain ⟨h0, g1⟩ := a6 val h1
    refine ⟨h0, fun hE => ?_⟩
    obtain ⟨hE1, r1⟩ := g1 hE
    obtain ⟨hE2, r2⟩ := g2 hE1
    refine ⟨hE2, fun r hcs => ?_⟩
    obtain ⟨r', x1, x2, x3, x4, x5⟩ := r1 r hcs
    obtain ⟨r'', y1, y2, y3⟩ := r2 r' (px_cs_of hT hi hcs x1 x2 (fun _ _ => rfl))
    refine ⟨r'', y1.1.trans x1, y1.2.1.trans x2, fun d z => ?_, fun s z => ?_, fun p hp => ?_⟩
    · rw [hP] at z
      rw [y1.2.2.1 d (fun w => z (Or.inr w)), x3 d (fun w => z (Or.inl w))]
    · rw [hQ] at z
      rw [y1.2.2.2 s (fun w => z (Or.inr w)), x4 s (fun w => z (Or.inl w))]
    · rcases List.mem_append.mp hp with z | z
      · obtain ⟨_, w2, ka, kb, w3, w4, w5⟩ := a3 p z
        have cg := pv_cong p.1 w2 ka kb r' r'' w3 y1.1 y1.2.1 (fun d u1 u2 => y1.2.2.1 d (fun w => dP d w.1 w.2 (w4 d u1 u2))) (fun s u1 u2 => y1.2.2.2 s (fun w => dQ s w.1 w.2 (w5 s u1 u2)))
        exact ⟨cg.2 (x5 p z).1, cg.1.trans (x5 p z).2⟩
      · rw [List.mem_singleton] at z
        rw [z]
        exact ⟨y2, y3⟩
def pv_iv (a b d : Nat) : Prop := a ≤ d ∧ d < b
/-- an EXPR whose own pairs are made behind its parts: ps the pairs, D what they say of the TYPES -/
theorem px_TY_node {B nf : Nat} {ins : List Nat} {ts : List (pt_T × Nat)} {P Q : Nat → Prop} {T : Nat} {up : Nat → Nat} {ar : pu_A} {cl : Bool} {T1 : Nat} {up1 : Nat → Nat} {ar1 : pu_A} {cl1 : Bool} {up2 : Nat → Nat} {cl2 : Bool} {t : pt_T} {k k' : pk_K} {q : Nat} {ps : List (Nat × Nat)} (hT : 75 + 2 * nf ≤ T) (hi : ∀ v, px_xi ins v < 74) (h : px_TS B nf ins ts P Q T up ar cl T1 up1 ar1 cl1) (u : pu_P T1 ar1 ps up1 cl1 up2 cl2) (hq : q < T1) (hP : ∀ d, P d → pv_iv k.2.2.2 k'.2.2.2 d) (hQ : ∀ s, Q s → pv_iv k.2.2.1 k'.2.2.1 s) (hS : ∀ r, pv_S r t → ∀ p ∈ ts, pv_S r p.1) (hD : ∀ (r : pv_R) (val : Nat → pv_T), val 0 = pv_int → px_cs ins nf r val → (∀ p ∈ ts, val p.2 = pv_t r p.1) → (∀ p ∈ ts, pv_S r p.1) → (pv_S r t ↔ ∀ p ∈ ps, val p.1 = val p.2) ∧ pv_t r t = val q) : px_TY nf ins t k k' T up ar cl T1 up2 ar1 cl2 q := by
  obtain ⟨a1, a2, a3, a4, a5⟩ := h
  refine ⟨a1, hq, a2, fun r val hSr h0 hE hcs => ?_, fun c => ?_⟩
  · obtain ⟨val1, e1, e2, e3, e4, e5⟩ := a4 r val (hS r hSr) h0 hE hcs
    have cs1 := px_cs_of (r' := r) hT hi hcs rfl rfl e1
    have d := hD r val1 e2.1 cs1 e5 (hS r hSr)
    have p := u.1 val1 e2 e3 (d.1.mp hSr)
    exact ⟨val1, e1, p.1, p.2.1, p.2.2.trans e4, d.2.symm⟩
  · obtain ⟨c1, u2⟩ := u.2 c
    obtain ⟨c0, a6⟩ := a5 c1
    refine ⟨c0, fun val h2 => ?_⟩
    obtain ⟨h1, v2, v3⟩ := u2 val h2
    obtain ⟨h0, g1⟩ := a6 val h1
    refine ⟨h0, fun hE => ?_⟩
    obtain ⟨hE1, r1⟩ := g1 hE
    refine ⟨v3 hE1, fun r hcs => ?_⟩
    obtain ⟨r', x1, x2, x3, x4, x5⟩ := r1 r hcs
    have d := hD r' val h2.1 (px_cs_of hT hi hcs x1 x2 (fun _ _ => rfl)) (fun p hp => (x5 p hp).2.symm) (fun p hp => (x5 p hp).1)
    exact ⟨r', ⟨x1, x2, fun d z => x3 d (fun w => z (hP d w)), fun s z => x4 s (fun w => z (hQ s w))⟩, d.1.mpr v2, d.2⟩
theorem px_TY_ife {B nf : Nat} {ins : List Nat} {a b c : pt_T} {P Q : Nat → Prop} {T : Nat} {up : Nat → Nat} {ar : pu_A} {cl : Bool} {T1 : Nat} {up1 : Nat → Nat} {ar1 : pu_A} {cl1 : Bool} {up2 : Nat → Nat} {cl2 : Bool} {k k' : pk_K} {qa qb qc : Nat} (hT : 75 + 2 * nf ≤ T) (hi : ∀ v, px_xi ins v < 74) (h : px_TS B nf ins [(a, qa), (b, qb), (c, qc)] P Q T up ar cl T1 up1 ar1 cl1) (u : pu_P T1 ar1 [(qa, 0), (qb, qc)] up1 cl1 up2 cl2) (hP : ∀ d, P d → pv_iv k.2.2.2 k'.2.2.2 d) (hQ : ∀ s, Q s → pv_iv k.2.2.1 k'.2.2.1 s) : px_TY nf ins (pt_ife a b c) k k' T up ar cl T1 up2 ar1 cl2 qb := by
  refine px_TY_node hT hi h u (h.2.2.1 (b, qb) (by simp)).1 hP hQ (fun r hS p hp => ?_) (fun r val v0 hc hv hs => ?_)
  · simp only [List.mem_cons, List.not_mem_nil, or_false] at hp
    rcases hp with rfl | rfl | rfl
    · exact hS.1
    · exact hS.2.1
    · exact hS.2.2.1
  · have ea := hv (a, qa) (by simp)
    have eb := hv (b, qb) (by simp)
    have ec := hv (c, qc) (by simp)
    dsimp only at ea eb ec
    refine ⟨⟨fun hS p hp => ?_, fun hp => ⟨hs (a, qa) (by simp), hs (b, qb) (by simp), hs (c, qc) (by simp), ?_, ?_⟩⟩, eb.symm⟩
    · simp only [List.mem_cons, List.not_mem_nil, or_false] at hp
      rcases hp with rfl | rfl
      · dsimp only; rw [ea, v0]; exact hS.2.2.2.1
      · dsimp only; rw [eb, ec]; exact hS.2.2.2.2
    · have := hp (qa, 0) (by simp)
      dsimp only at this
      rw [← ea, this, v0]
    · have := hp (qb, qc) (by simp)
      dsimp only at this
      rw [← eb, ← ec, this]
theorem px_TY_let {B nf : Nat} {ins : List Nat} {v x : Nat} {a b : pt_T} {P Q : Nat → Prop} {T : Nat} {up : Nat → Nat} {ar : pu_A} {cl : Bool} {T1 : Nat} {up1 : Nat → Nat} {ar1 : pu_A} {cl1 : Bool} {up2 : Nat → Nat} {cl2 : Bool} {k k' : pk_K} {qa qb : Nat} (hT : 75 + 2 * nf ≤ T) (hi : ∀ v, px_xi ins v < 74) (hv : v < 24 + ins.length) (h : px_TS B nf ins [(a, qa), (b, qb)] P Q T up ar cl T1 up1 ar1 cl1) (u : pu_P T1 ar1 [(1 + px_xi ins v, qa)] up1 cl1 up2 cl2) (hP : ∀ d, P d → pv_iv k.2.2.2 k'.2.2.2 d) (hQ : ∀ s, Q s → pv_iv k.2.2.1 k'.2.2.1 s) : px_TY nf ins (pt_let v x a b) k k' T up ar cl T1 up2 ar1 cl2 qb := by
  refine px_TY_node hT hi h u (h.2.2.1 (b, qb) (by simp)).1 hP hQ (fun r hS p hp => ?_) (fun r val v0 hc hv' hs => ?_)
  · simp only [List.mem_cons, List.not_mem_nil, or_false] at hp
    rcases hp with rfl | rfl
    · exact hS.1
    · exact hS.2.1
  · have ea := hv' (a, qa) (by simp)
    have eb := hv' (b, qb) (by simp)
    dsimp only at ea eb
    have ev := hc.1 v hv
    refine ⟨⟨fun hS p hp => ?_, fun hp => ⟨hs (a, qa) (by simp), hs (b, qb) (by simp), ?_⟩⟩, eb.symm⟩
    · rw [List.mem_singleton] at hp
      rw [hp]
      dsimp only
      rw [ev, ea]
      exact hS.2.2
    · have := hp (1 + px_xi ins v, qa) (by simp)
      dsimp only at this
      rw [← ev, this, ea]
theorem px_TY_op {B nf : Nat} {ins : List Nat} {s : Nat} {a b : pt_T} {P Q : Nat → Prop} {T : Nat} {up : Nat → Nat} {ar : pu_A} {cl : Bool} {T1 : Nat} {up1 : Nat → Nat} {ar1 : pu_A} {cl1 : Bool} {up2 : Nat → Nat} {cl2 : Bool} {k k' : pk_K} {qa qb : Nat} (hT : 75 + 2 * nf ≤ T) (hi : ∀ v, px_xi ins v < 74) (h : px_TS B nf ins [(a, qa), (b, qb)] P Q T up ar cl T1 up1 ar1 cl1) (u : pu_P T1 ar1 [(qa, 0), (qb, 0)] up1 cl1 up2 cl2) (hP : ∀ d, P d → pv_iv k.2.2.2 k'.2.2.2 d) (hQ : ∀ s, Q s → pv_iv k.2.2.1 k'.2.2.1 s) : px_TY nf ins (pt_op s a b) k k' T up ar cl T1 up2 ar1 cl2 0 := by
  refine px_TY_node hT hi h u (by have := h.1; omega) hP hQ (fun r hS p hp => ?_) (fun r val v0 hc hv' hs => ?_)
  · simp only [List.mem_cons, List.not_mem_nil, or_false] at hp
    rcases hp with rfl | rfl
    · exact hS.1
    · exact hS.2.1
  · have ea := hv' (a, qa) (by simp)
    have eb := hv' (b, qb) (by simp)
    dsimp only at ea eb
    refine ⟨⟨fun hS p hp => ?_, fun hp => ⟨hs (a, qa) (by simp), hs (b, qb) (by simp), ?_, ?_⟩⟩, v0.symm⟩
    · simp only [List.mem_cons, List.not_mem_nil, or_false] at hp
      rcases hp with rfl | rfl
      · dsimp only; rw [ea, v0]; exact hS.2.2.1
      · dsimp only; rw [eb, v0]; exact hS.2.2.2
    · have := hp (qa, 0) (by simp)
      dsimp only at this
      rw [← ea, this, v0]
    · have := hp (qb, 0) (by simp)
      dsimp only at this
      rw [← eb, this, v0]
