/-! the class's typing of an EXPR, as it is told: numbers T, links up, arrows ar, clash cl before and behind; q the EXPR's number -/
def px_cs (ins : List Nat) (nf : Nat) (r : pv_R) (val : Nat → pv_T) : Prop := (∀ v, v < 24 + ins.length → val (1 + px_xi ins v) = r.1 v) ∧ ∀ f, f < nf → val (76 + 2 * f) = r.2.1 f
def pv_out (k k' : pk_K) (r r' : pv_R) : Prop := r'.1 = r.1 ∧ r'.2.1 = r.2.1 ∧ (∀ d, ¬ (k.2.2.2 ≤ d ∧ d < k'.2.2.2) → r'.2.2.1 d = r.2.2.1 d) ∧ ∀ s, ¬ (k.2.2.1 ≤ s ∧ s < k'.2.2.1) → r'.2.2.2 s = r.2.2.2 s
theorem pv_out_refl (k k' : pk_K) (r : pv_R) : pv_out k k' r r := ⟨rfl, rfl, fun _ _ => rfl, fun _ _ => rfl⟩
theorem pv_out_tr {k k' k1 k1' k2 k2' : pk_K} {r r1 r2 : pv_R} (h1 : pv_out k1 k1' r r1) (h2 : pv_out k2 k2' r1 r2) (a1 : k.2.2.2 ≤ k1.2.2.2) (a2 : k1'.2.2.2 ≤ k'.2.2.2) (a3 : k.2.2.1 ≤ k1.2.2.1) (a4 : k1'.2.2.1 ≤ k'.2.2.1) (b1 : k.2.2.2 ≤ k2.2.2.2) (b2 : k2'.2.2.2 ≤ k'.2.2.2) (b3 : k.2.2.1 ≤ k2.2.2.1) (b4 : k2'.2.2.1 ≤ k'.2.2.1) : pv_out k k' r r2 := ⟨h2.1.trans h1.1, h2.2.1.trans h1.2.1, fun d q => (h2.2.2.1 d (by omega)).trans (h1.2.2.1 d (by omega)), fun s q => (h2.2.2.2 s (by omega)).trans (h1.2.2.2 s (by omega))⟩
theorem px_cs_of {ins : List Nat} {nf T : Nat} {r r' : pv_R} {val val' : Nat → pv_T} (hT : 75 + 2 * nf ≤ T) (hi : ∀ v, px_xi ins v < 74) (h : px_cs ins nf r val) (e1 : r'.1 = r.1) (e2 : r'.2.1 = r.2.1) (e : ∀ j, j < T → val' j = val j) : px_cs ins nf r' val' := by
  refine ⟨fun v hv => ?_, fun f hf => ?_⟩
  · rw [e1, e _ (by have := hi v; omega)]
    exact h.1 v hv
  · rw [e2, e _ (by omega)]
    exact h.2 f hf
def px_TY (nf : Nat) (ins : List Nat) (t : pt_T) (k k' : pk_K) (T : Nat) (up : Nat → Nat) (ar : pu_A) (cl : Bool) (T' : Nat) (up' : Nat → Nat) (ar' : pu_A) (cl' : Bool) (q : Nat) : Prop :=
  T ≤ T' ∧ q < T' ∧ (∀ j, j < T → ar' j = ar j) ∧
  (∀ (r : pv_R) (val : Nat → pv_T), pv_S r t → pu_0 T up ar val → pu_E T up ar val → px_cs ins nf r val → ∃ val', (∀ j, j < T → val' j = val j) ∧ pu_0 T' up' ar' val' ∧ pu_E T' up' ar' val' ∧ cl' = cl ∧ val' q = pv_t r t) ∧
  (cl' = false → cl = false ∧ ∀ val, pu_0 T' up' ar' val → pu_0 T up ar val ∧ (pu_E T up ar val → pu_E T' up' ar' val ∧ ∀ r, px_cs ins nf r val → ∃ r', pv_out k k' r r' ∧ pv_S r' t ∧ pv_t r' t = val q))
/-- one that asks nothing -/
theorem px_TY_leaf {nf : Nat} {ins : List Nat} {t : pt_T} {k k' : pk_K} {T : Nat} {up : Nat → Nat} {ar : pu_A} {cl : Bool} {q : Nat} (hq : q < T) (hS : ∀ r, pv_S r t) (ht : ∀ (r : pv_R) (val : Nat → pv_T), val 0 = pv_int → px_cs ins nf r val → val q = pv_t r t) : px_TY nf ins t k k' T up ar cl T up ar cl q :=
  ⟨Nat.le_refl _, hq, fun _ _ => rfl, fun r val _ h0 hE hc => ⟨val, fun _ _ => rfl, h0, hE, rfl, ht r val h0.1 hc⟩, fun c => ⟨c, fun val h0 => ⟨h0, fun hE => ⟨hE, fun r hc => ⟨r, pv_out_refl k k' r, hS r, (ht r val h0.1 hc).symm⟩⟩⟩⟩⟩
/-- a number more, open or an arrow -/
theorem pu_al_0 {T : Nat} {up : Nat → Nat} {ar : pu_A} {R : Nat → Nat} {l : List Nat} {N : Nat} (hI : pu_I T up ar R l N) (x : Option (Nat × Nat)) {val : Nat → pv_T} : pu_0 (T + 1) (pu_set up T T) (pu_set ar T x) val ↔ (pu_0 T up ar val ∧ ∀ a b, x = some (a, b) → val T = pv_ar (val a) (val b)) := by
  obtain ⟨d, hd⟩ := pu_walk hI
  constructor
  · intro h
    refine ⟨⟨h.1, fun k hk => ?_, fun k hk z a b e => ?_⟩, fun a b e => ?_⟩
    · have := h.2.1 k (by omega)
      rw [pu_set_ne _ _ (by omega)] at this
      exact this
    · exact h.2.2 k (by omega) (by rw [pu_set_ne _ _ (by omega)]; exact z) a b (by rw [pu_set_ne _ _ (by omega)]; exact e)
    · exact h.2.2 T (by omega) (pu_set_eq _ _ _) a b (by rw [pu_set_eq]; exact e)
  · intro h
    refine ⟨h.1.1, fun k hk => ?_, fun k hk z a b e => ?_⟩
    · by_cases q : k = T
      · rw [q, pu_set_eq]
      · rw [pu_set_ne _ _ q]; exact h.1.2.1 k (by omega)
    · by_cases q : k = T
      · rw [q, pu_set_eq] at e
        rw [q]
        exact h.2 a b e
      · rw [pu_set_ne _ _ q] at z e
        exact h.1.2.2 k (by omega) z a b e
theorem pu_al_E {T : Nat} {up : Nat → Nat} {ar : pu_A} (x : Option (Nat × Nat)) {val : Nat → pv_T} : pu_E (T + 1) (pu_set up T T) (pu_set ar T x) val ↔ pu_E T up ar val := by
  constructor
  · intro h k hk z a b e
    exact h k (by omega) (by rw [pu_set_ne _ _ (by omega)]; exact z) a b (by rw [pu_set_ne _ _ (by omega)]; exact e)
  · intro h k hk z a b e
    by_cases q : k = T
    · rw [q, pu_set_eq] at z
      exact absurd rfl z
    · rw [pu_set_ne _ _ q] at z e
      exact h k (by omega) z a b e
/-- numbers below T alone count -/
theorem pu_0_cong {T : Nat} {up : Nat → Nat} {ar : pu_A} {R : Nat → Nat} {l : List Nat} {N : Nat} (hI : pu_I T up ar R l N) {val val' : Nat → pv_T} (e : ∀ j, j < T → val' j = val j) (h : pu_0 T up ar val) : pu_0 T up ar val' := by
  obtain ⟨d, hd⟩ := pu_walk hI
  have hab := hI.2.2.2.2.2.2.1
  refine ⟨by rw [e 0 hI.2.2.2.1]; exact h.1, fun k hk => by rw [e _ (hd k hk).2.2.2.1, e _ hk]; exact h.2.1 k hk, fun k hk z a b q => ?_⟩
  have := hab k hk a b q
  rw [e k hk, e a this.1, e b this.2]
  exact h.2.2 k hk z a b q
theorem pu_E_cong {T : Nat} {up : Nat → Nat} {ar : pu_A} {R : Nat → Nat} {l : List Nat} {N : Nat} (hI : pu_I T up ar R l N) {val val' : Nat → pv_T} (e : ∀ j, j < T → val' j = val j) (h : pu_E T up ar val) : pu_E T up ar val' := by
  have hab := hI.2.2.2.2.2.2.1
  intro k hk z a b q
  have := hab k hk a b q
  rw [e k hk, e a this.1, e b this.2]
  exact h k hk z a b q
theorem px_TY_dead {nf : Nat} {ins : List Nat} {d : Nat} {k : pk_K} {T : Nat} {up : Nat → Nat} {ar : pu_A} {cl : Bool} {R : Nat → Nat} {l : List Nat} {N : Nat} (hI : pu_I T up ar R l N) (hd : d = k.2.2.2) : px_TY nf ins (pt_dead d) k (k.1, k.2.1, k.2.2.1, k.2.2.2 + 1) T up ar cl (T + 1) (pu_set up T T) (pu_set ar T none) cl T := by
  refine ⟨by omega, by omega, fun j hj => pu_set_ne _ _ (by omega), fun r val _ h0 hE hc => ?_, fun c => ⟨c, fun val h0 => ?_⟩⟩
  · refine ⟨pu_set val T (r.2.2.1 d), fun j hj => pu_set_ne _ _ (by omega), (pu_al_0 hI none).mpr ⟨pu_0_cong hI (fun j hj => pu_set_ne _ _ (by omega)) h0, fun a b e => (nomatch e)⟩, (pu_al_E none).mpr (pu_E_cong hI (fun j hj => pu_set_ne _ _ (by omega)) hE), rfl, ?_⟩
    rw [pu_set_eq]
    rfl
  · refine ⟨((pu_al_0 hI none).mp h0).1, fun hE => ⟨(pu_al_E none).mpr hE, fun r hc => ⟨(r.1, r.2.1, pu_set r.2.2.1 d (val T), r.2.2.2), ⟨rfl, rfl, fun d' q => ?_, fun _ _ => rfl⟩, trivial, ?_⟩⟩⟩
    · exact pu_set_ne _ _ (by dsimp only at q; omega)
    · show pu_set r.2.2.1 d (val T) d = val T
      exact pu_set_eq _ _ _
/-- pairs made one behind an EXPR -/
theorem px_TY_lam {B nf : Nat} {ins : List Nat} {f x : Nat} {b : pt_T} (tb : pt_tw b) {k k1 : pk_K} {T : Nat} {up : Nat → Nat} {ar : pu_A} {cl : Bool} {T1 : Nat} {up1 : Nat → Nat} {ar1 : pu_A} {cl1 : Bool} {up2 : Nat → Nat} {cl2 : Bool} {q : Nat} (hT : 75 + 2 * nf ≤ T) (hi : ∀ v, px_xi ins v < 74) (hf : f < nf) (h24 : f < 24) (har : ar (76 + 2 * f) = some (1 + f, 75 + 2 * f)) (hb : px_TY nf ins b (k.1 + 1, k.2) k1 T up ar cl T1 up1 ar1 cl1 q) (u : pu_P T1 ar1 [(75 + 2 * f, q)] up1 cl1 up2 cl2) : px_TY nf ins (pt_lam f x b) k (k1.1, k1.2.1, k1.2.2.1, k1.2.2.2 + 1) T up ar cl T1 up2 ar1 cl2 (76 + 2 * f) := by
  obtain ⟨b1, b2, b3, b4, b5⟩ := hb
  have ar1f : ar1 (76 + 2 * f) = some (1 + f, 75 + 2 * f) := by rw [b3 _ (by omega)]; exact har
  have arr : ∀ val, pu_0 T1 up1 ar1 val → pu_E T1 up1 ar1 val → val (76 + 2 * f) = pv_ar (val (1 + f)) (val (75 + 2 * f)) := by
    intro val h0 hE
    by_cases z : up1 (76 + 2 * f) = 76 + 2 * f
    · exact h0.2.2 _ (by omega) z _ _ ar1f
    · exact hE _ (by omega) z _ _ ar1f
  refine ⟨b1, by omega, b3, fun r val hS h0 hE hc => ?_, fun c => ?_⟩
  · obtain ⟨val', e1, e2, e3, e4, e5⟩ := b4 r val hS.1 h0 hE hc
    have c' := px_cs_of hT hi hc rfl rfl e1
    have g := arr val' e2 e3
    have e6 : val' (75 + 2 * f) = val' q := by
      rw [c'.2 f hf, hS.2] at g
      rw [e5]
      exact (pv_ar_inj g).2.symm
    have p := u.1 val' e2 e3 (fun p hp => by rw [List.mem_singleton] at hp; rw [hp]; exact e6)
    exact ⟨val', e1, p.1, p.2.1, p.2.2.trans e4, c'.2 f hf⟩
  · obtain ⟨c1, u2⟩ := u.2 c
    obtain ⟨c0, b6⟩ := b5 c1
    refine ⟨c0, fun val h0 => ?_⟩
    obtain ⟨v1, v2, v3⟩ := u2 val h0
    obtain ⟨v4, v5⟩ := b6 val v1
    refine ⟨v4, fun hE => ?_⟩
    obtain ⟨v6, v7⟩ := v5 hE
    refine ⟨v3 v6, fun r hc => ?_⟩
    obtain ⟨r', o1, o2, o3⟩ := v7 r hc
    refine ⟨r', ⟨o1.1, o1.2.1, fun d z => o1.2.2.1 d (by dsimp only at z ⊢; omega), fun s z => o1.2.2.2 s (by dsimp only at z ⊢; omega)⟩, ⟨o2, ?_⟩, ?_⟩
    · have g := arr val v1 v6
      have e6 := v2 (75 + 2 * f, q) (by simp)
      dsimp only at e6
      have x0 : px_xi ins f = f := by unfold px_xi; rw [if_pos h24]
      have eB := hc.1 f (by omega)
      rw [x0] at eB
      rw [o1.2.1, o1.1, ← hc.2 f hf, o3, g, eB, e6]
    · show r'.2.1 f = _
      rw [o1.2.1]
      exact (hc.2 f hf).symm
