/-! the reference's typing of an EXPR, as it is told: the node n has the number 125 + n -/
def pm_cs (nf nd : Nat) (r : pv_R) (val : Nat → pv_T) : Prop := (∀ v, v < 124 → val (1 + v) = r.1 v) ∧ ∀ f, f < nf → val (125 + nd + f) = r.2.1 f
def pm_nv (r : pv_R) : pt_T → Nat → (Nat → pv_T) → Prop := pt_rec
  (fun _ a val => val (125 + a) = pv_int)
  (fun v _ a val => val (125 + a) = r.1 v)
  (fun g _ a val => val (125 + a) = r.2.1 g)
  (fun d a val => val (125 + a) = r.2.2.1 d)
  (fun f _ b q a val => q a val ∧ val (125 + (a + pt_sz b)) = r.2.1 f)
  (fun ta tb tc qa qb qc a val => qa a val ∧ qb (a + pt_sz ta) val ∧ qc (a + pt_sz ta + pt_sz tb) val ∧ val (125 + (a + pt_sz ta + pt_sz tb + pt_sz tc)) = pv_t r tb)
  (fun _ _ ta tb qa qb a val => qa a val ∧ qb (a + pt_sz ta) val ∧ val (125 + (a + pt_sz ta + pt_sz tb)) = pv_t r tb)
  (fun _ ta tb qa qb a val => qa a val ∧ qb (a + pt_sz ta) val ∧ val (125 + (a + pt_sz ta + pt_sz tb)) = pv_int)
  (fun s ta tb qa qb a val => qa a val ∧ qb (a + pt_sz ta) val ∧ val (125 + (a + pt_sz ta + pt_sz tb)) = r.2.2.2 s)
  (fun _ _ => True)
theorem pm_nv_cong {r : pv_R} (t : pt_T) (tt : pt_tw t) : ∀ (a T : Nat) (val val' : Nat → pv_T), 125 + a + pt_sz t ≤ T → (∀ j, j < T → val' j = val j) → pm_nv r t a val → pm_nv r t a val' := by
  induction t, tt using pt_indh with
  | num v => intro a T val val' h e q; exact (e _ (by have : pt_sz (pt_num v) = 1 := rfl; omega)).trans q
  | var v x => intro a T val val' h e q; exact (e _ (by have : pt_sz (pt_var v x) = 1 := rfl; omega)).trans q
  | glo g x => intro a T val val' h e q; exact (e _ (by have : pt_sz (pt_glo g x) = 1 := rfl; omega)).trans q
  | dead d => intro a T val val' h e q; exact (e _ (by have : pt_sz (pt_dead d) = 1 := rfl; omega)).trans q
  | lam f x b tb ih =>
    intro a T val val' h e q
    have sz : pt_sz (pt_lam f x b) = pt_sz b + 1 := rfl
    exact ⟨ih a T val val' (by omega) e q.1, (e _ (by omega)).trans q.2⟩
  | ife ta tb tc wa wb wc iha ihb ihc =>
    intro a T val val' h e q
    have sz : pt_sz (pt_ife ta tb tc) = pt_sz ta + pt_sz tb + pt_sz tc + 1 := rfl
    exact ⟨iha _ T _ _ (by omega) e q.1, ihb _ T _ _ (by omega) e q.2.1, ihc _ T _ _ (by omega) e q.2.2.1, (e _ (by omega)).trans q.2.2.2⟩
  | lt v x ta tb wa wb iha ihb =>
    intro a T val val' h e q
    have sz : pt_sz (pt_let v x ta tb) = pt_sz ta + pt_sz tb + 1 := rfl
    exact ⟨iha _ T _ _ (by omega) e q.1, ihb _ T _ _ (by omega) e q.2.1, (e _ (by omega)).trans q.2.2⟩
  | op s ta tb wa wb iha ihb =>
    intro a T val val' h e q
    have sz : pt_sz (pt_op s ta tb) = pt_sz ta + pt_sz tb + 1 := rfl
    exact ⟨iha _ T _ _ (by omega) e q.1, ihb _ T _ _ (by omega) e q.2.1, (e _ (by omega)).trans q.2.2⟩
  | site s ta tb wa wb iha ihb =>
    intro a T val val' h e q
    have sz : pt_sz (pt_site s ta tb) = pt_sz ta + pt_sz tb + 1 := rfl
    exact ⟨iha _ T _ _ (by omega) e q.1, ihb _ T _ _ (by omega) e q.2.1, (e _ (by omega)).trans q.2.2⟩
theorem pm_nv_root {r : pv_R} (t : pt_T) (tt : pt_tw t) : ∀ (a : Nat) (val : Nat → pv_T), pm_nv r t a val → val (125 + (a + pt_sz t - 1)) = pv_t r t := by
  induction t, tt using pt_indh with
  | num v => intro a val q; exact q
  | var v x => intro a val q; exact q
  | glo g x => intro a val q; exact q
  | dead d => intro a val q; exact q
  | lam f x b tb ih => intro a val q; exact q.2
  | ife ta tb tc wa wb wc iha ihb ihc =>
    intro a val q
    have sz : pt_sz (pt_ife ta tb tc) = pt_sz ta + pt_sz tb + pt_sz tc + 1 := rfl
    rw [sz, show a + (pt_sz ta + pt_sz tb + pt_sz tc + 1) - 1 = a + pt_sz ta + pt_sz tb + pt_sz tc by omega]
    exact q.2.2.2
  | lt v x ta tb wa wb iha ihb =>
    intro a val q
    have sz : pt_sz (pt_let v x ta tb) = pt_sz ta + pt_sz tb + 1 := rfl
    rw [sz, show a + (pt_sz ta + pt_sz tb + 1) - 1 = a + pt_sz ta + pt_sz tb by omega]
    exact q.2.2
  | op s ta tb wa wb iha ihb =>
    intro a val q
    have sz : pt_sz (pt_op s ta tb) = pt_sz ta + pt_sz tb + 1 := rfl
    rw [sz, show a + (pt_sz ta + pt_sz tb + 1) - 1 = a + pt_sz ta + pt_sz tb by omega]
    exact q.2.2
  | site s ta tb wa wb iha ihb =>
    intro a val q
    have sz : pt_sz (pt_site s ta tb) = pt_sz ta + pt_sz tb + 1 := rfl
    rw [sz, show a + (pt_sz ta + pt_sz tb + 1) - 1 = a + pt_sz ta + pt_sz tb by omega]
    exact q.2.2
theorem pm_cs_of {nf nd T : Nat} {r r' : pv_R} {val val' : Nat → pv_T} (hT : 125 + nd + nf ≤ T) (h : pm_cs nf nd r val) (e1 : r'.1 = r.1) (e2 : r'.2.1 = r.2.1) (e : ∀ j, j < T → val' j = val j) : pm_cs nf nd r' val' :=
  ⟨fun v hv => by rw [e1, e _ (by omega)]; exact h.1 v hv, fun f hf => by rw [e2, e _ (by omega)]; exact h.2 f hf⟩
def pm_TY (nf nd : Nat) (t : pt_T) (a : Nat) (k k' : pk_K) (T : Nat) (up : Nat → Nat) (ar : pu_A) (cl : Bool) (T' : Nat) (up' : Nat → Nat) (ar' : pu_A) (cl' : Bool) : Prop :=
  T ≤ T' ∧ (∀ j, j < T → ar' j = ar j) ∧
  (∀ (r : pv_R) (val : Nat → pv_T), pv_S r t → pu_0 T up ar val → pu_E T up ar val → pm_cs nf nd r val → pm_nv r t a val → ∃ val', (∀ j, j < T → val' j = val j) ∧ pu_0 T' up' ar' val' ∧ pu_E T' up' ar' val' ∧ cl' = cl) ∧
  (cl' = false → cl = false ∧ ∀ val, pu_0 T' up' ar' val → pu_0 T up ar val ∧ (pu_E T up ar val → pu_E T' up' ar' val ∧ ∀ r, pm_cs nf nd r val → ∃ r', pv_out k k' r r' ∧ pv_S r' t ∧ pv_t r' t = val (125 + (a + pt_sz t - 1))))
def pm_TS (B nf nd : Nat) (ts : List (pt_T × Nat)) (P Q : Nat → Prop) (T : Nat) (up : Nat → Nat) (ar : pu_A) (cl : Bool) (T' : Nat) (up' : Nat → Nat) (ar' : pu_A) (cl' : Bool) : Prop :=
  T ≤ T' ∧ (∀ j, j < T → ar' j = ar j) ∧ (∀ p ∈ ts, p.2 + pt_sz p.1 ≤ nd ∧ pt_tw p.1 ∧ ∃ ka kb, pn_can B p.1 ka kb ∧ (∀ d, ka.2.2.2 ≤ d → d < kb.2.2.2 → P d) ∧ ∀ s, ka.2.2.1 ≤ s → s < kb.2.2.1 → Q s) ∧
  (∀ (r : pv_R) (val : Nat → pv_T), (∀ p ∈ ts, pv_S r p.1 ∧ pm_nv r p.1 p.2 val) → pu_0 T up ar val → pu_E T up ar val → pm_cs nf nd r val → ∃ val', (∀ j, j < T → val' j = val j) ∧ pu_0 T' up' ar' val' ∧ pu_E T' up' ar' val' ∧ cl' = cl) ∧
  (cl' = false → cl = false ∧ ∀ val, pu_0 T' up' ar' val → pu_0 T up ar val ∧ (pu_E T up ar val → pu_E T' up' ar' val ∧ ∀ r, pm_cs nf nd r val → ∃ r', r'.1 = r.1 ∧ r'.2.1 = r.2.1 ∧ (∀ d, ¬ P d → r'.2.2.1 d = r.2.2.1 d) ∧ (∀ s, ¬ Q s → r'.2.2.2 s = r.2.2.2 s) ∧ ∀ p ∈ ts, pv_S r' p.1 ∧ pv_t r' p.1 = val (125 + (p.2 + pt_sz p.1 - 1))))
theorem pm_TS_nil (B nf nd : Nat) (P Q : Nat → Prop) (T : Nat) (up : Nat → Nat) (ar : pu_A) (cl : Bool) : pm_TS B nf nd [] P Q T up ar cl T up ar cl :=
  ⟨Nat.le_refl _, fun _ _ => rfl, (fun p hp => by cases hp), fun r val _ h0 hE _ => ⟨val, fun _ _ => rfl, h0, hE, rfl⟩, fun c => ⟨c, fun val h0 => ⟨h0, fun hE => ⟨hE, fun r _ => ⟨r, rfl, rfl, fun _ _ => rfl, fun _ _ => rfl, fun p hp => by cases hp⟩⟩⟩⟩⟩
theorem pm_TS_snoc {B nf nd : Nat} {ts : List (pt_T × Nat)} {P Q P' Q' : Nat → Prop} {T : Nat} {up : Nat → Nat} {ar : pu_A} {cl : Bool} {T1 : Nat} {up1 : Nat → Nat} {ar1 : pu_A} {cl1 : Bool} {T2 : Nat} {up2 : Nat → Nat} {ar2 : pu_A} {cl2 : Bool} {t : pt_T} {a : Nat} {k k' : pk_K} (hT : 125 + nd + nf ≤ T) (ha : a + pt_sz t ≤ nd) (h : pm_TS B nf nd ts P Q T up ar cl T1 up1 ar1 cl1) (tt : pt_tw t) (hc : pn_can B t k k') (hb : pm_TY nf nd t a k k' T1 up1 ar1 cl1 T2 up2 ar2 cl2) (dP : ∀ d, k.2.2.2 ≤ d → d < k'.2.2.2 → ¬ P d) (dQ : ∀ s, k.2.2.1 ≤ s → s < k'.2.2.1 → ¬ Q s) (hP : ∀ d, P' d ↔ (P d ∨ (k.2.2.2 ≤ d ∧ d < k'.2.2.2))) (hQ : ∀ s, Q' s ↔ (Q s ∨ (k.2.2.1 ≤ s ∧ s < k'.2.2.1))) : pm_TS B nf nd (ts ++ [(t, a)]) P' Q' T up ar cl T2 up2 ar2 cl2 := by
  obtain ⟨a1, a2, a3, a4, a5⟩ := h
  obtain ⟨b1, b3, b4, b5⟩ := hb
  refine ⟨by omega, fun j hj => (b3 j (by omega)).trans (a2 j hj), fun p hp => ?_, fun r val hS h0 hE hcs => ?_, fun c => ?_⟩
  · rcases List.mem_append.mp hp with z | z
    · obtain ⟨x1, x2, ka, kb, x3, x4, x5⟩ := a3 p z
      exact ⟨x1, x2, ka, kb, x3, fun d y1 y2 => (hP d).mpr (Or.inl (x4 d y1 y2)), fun s y1 y2 => (hQ s).mpr (Or.inl (x5 s y1 y2))⟩
    · rw [List.mem_singleton] at z
      rw [z]
      exact ⟨ha, tt, k, k', hc, fun d y1 y2 => (hP d).mpr (Or.inr ⟨y1, y2⟩), fun s y1 y2 => (hQ s).mpr (Or.inr ⟨y1, y2⟩)⟩
  · obtain ⟨val1, e1, e2, e3, e4⟩ := a4 r val (fun p hp => hS p (List.mem_append_left _ hp)) h0 hE hcs
    have ht := hS (t, a) (List.mem_append_right _ (by simp))
    obtain ⟨val2, f1, f2, f3, f4⟩ := b4 r val1 ht.1 e2 e3 (pm_cs_of hT hcs rfl rfl e1) (pm_nv_cong t tt a T val val1 (by omega) e1 ht.2)
    exact ⟨val2, fun j hj => (f1 j (by omega)).trans (e1 j hj), f2, f3, f4.trans e4⟩
  · obtain ⟨c1, b6⟩ := b5 c
    obtain ⟨c0, a6⟩ := a5 c1
    refine ⟨c0, fun val h2 => ?_⟩
    obtain ⟨h1, g2⟩ := b6 val h2
    obtain ⟨h0, g1⟩ := a6 val h1
    refine ⟨h0, fun hE => ?_⟩
    obtain ⟨hE1, r1⟩ := g1 hE
    obtain ⟨hE2, r2⟩ := g2 hE1
    refine ⟨hE2, fun r hcs => ?_⟩
    obtain ⟨r', x1, x2, x3, x4, x5⟩ := r1 r hcs
    obtain ⟨r'', y1, y2, y3⟩ := r2 r' (pm_cs_of hT hcs x1 x2 (fun _ _ => rfl))
    refine ⟨r'', y1.1.trans x1, y1.2.1.trans x2, fun d z => ?_, fun s z => ?_, fun p hp => ?_⟩
    · rw [hP] at z
      rw [y1.2.2.1 d (fun w => z (Or.inr w)), x3 d (fun w => z (Or.inl w))]
    · rw [hQ] at z
      rw [y1.2.2.2 s (fun w => z (Or.inr w)), x4 s (fun w => z (Or.inl w))]
    · rcases List.mem_append.mp hp with z | z
      · obtain ⟨_, w2, ka, kb, w3, w4, w5⟩ := a3 p z
        have cg := pv_cong p.1 w2 ka kb r' r'' w3 y1.1 y1.2.1 (fun d u1 u2 => y1.2.2.1 d (fun w => dP d w.1 w.2 (w4 d u1 u2))) (fun s u1 u2 => y1.2.2.2 s (fun w => dQ s w.1 w.2 (w5 s u1 u2)))
        exact ⟨cg.2 (x5 p z).1, cg.1.trans (x5 p z).2⟩
      · rw [List.mem_singleton] at z
        rw [z]
        exact ⟨y2, y3⟩
theorem pm_TS2 {B nf nd : Nat} {ta tb : pt_T} {a b : Nat} {T : Nat} {up : Nat → Nat} {ar : pu_A} {cl : Bool} {T1 : Nat} {up1 : Nat → Nat} {ar1 : pu_A} {cl1 : Bool} {T2 : Nat} {up2 : Nat → Nat} {ar2 : pu_A} {cl2 : Bool} {k k1 k1' k2 : pk_K} (hT : 125 + nd + nf ≤ T) (wa : pt_tw ta) (wb : pt_tw tb) (la : a + pt_sz ta ≤ nd) (lb : b + pt_sz tb ≤ nd) (ca : pn_can B ta k k1) (cb : pn_can B tb k1' k2) (e1 : k1.2.2.2 ≤ k1'.2.2.2) (e2 : k1.2.2.1 ≤ k1'.2.2.1) (ha : pm_TY nf nd ta a k k1 T up ar cl T1 up1 ar1 cl1) (hb : pm_TY nf nd tb b k1' k2 T1 up1 ar1 cl1 T2 up2 ar2 cl2) : pm_TS B nf nd [(ta, a), (tb, b)] (fun d => pv_iv k.2.2.2 k1.2.2.2 d ∨ pv_iv k1'.2.2.2 k2.2.2.2 d) (fun s => pv_iv k.2.2.1 k1.2.2.1 s ∨ pv_iv k1'.2.2.1 k2.2.2.1 s) T up ar cl T2 up2 ar2 cl2 := by
  have s1 := pm_TS_snoc (P := fun _ => False) (Q := fun _ => False) (P' := fun d => pv_iv k.2.2.2 k1.2.2.2 d) (Q' := fun s => pv_iv k.2.2.1 k1.2.2.1 s) hT la (pm_TS_nil B nf nd _ _ T up ar cl) wa ca ha (fun _ _ _ z => z) (fun _ _ _ z => z) (fun d => ⟨Or.inr, fun z => z.elim False.elim id⟩) (fun d => ⟨Or.inr, fun z => z.elim False.elim id⟩)
  exact pm_TS_snoc hT lb s1 wb cb hb (fun d z1 z2 z => by unfold pv_iv at z; omega) (fun d z1 z2 z => by unfold pv_iv at z; omega) (fun d => Iff.rfl) (fun d => Iff.rfl)
theorem pm_TS1 {B nf nd : Nat} {ta : pt_T} {a : Nat} {T : Nat} {up : Nat → Nat} {ar : pu_A} {cl : Bool} {T1 : Nat} {up1 : Nat → Nat} {ar1 : pu_A} {cl1 : Bool} {k k1 : pk_K} (hT : 125 + nd + nf ≤ T) (wa : pt_tw ta) (la : a + pt_sz ta ≤ nd) (ca : pn_can B ta k k1) (ha : pm_TY nf nd ta a k k1 T up ar cl T1 up1 ar1 cl1) : pm_TS B nf nd [(ta, a)] (fun d => pv_iv k.2.2.2 k1.2.2.2 d) (fun s => pv_iv k.2.2.1 k1.2.2.1 s) T up ar cl T1 up1 ar1 cl1 :=
  pm_TS_snoc (P := fun _ => False) (Q := fun _ => False) hT la (pm_TS_nil B nf nd _ _ T up ar cl) wa ca ha (fun _ _ _ z => z) (fun _ _ _ z => z) (fun d => ⟨Or.inr, fun z => z.elim False.elim id⟩) (fun d => ⟨Or.inr, fun z => z.elim False.elim id⟩)
/-- an EXPR with its own pairs behind its parts; those of a SITE see a number more -/
theorem pm_TY_node {B nf nd : Nat} {ts : List (pt_T × Nat)} {P Q : Nat → Prop} {T : Nat} {up : Nat → Nat} {ar : pu_A} {cl : Bool} {T1 : Nat} {up1 : Nat → Nat} {ar1 : pu_A} {cl1 : Bool} {up2 : Nat → Nat} {cl2 : Bool} {t : pt_T} {a : Nat} {k k' : pk_K} {ps : List (Nat × Nat)} (hT : 125 + nd + nf ≤ T) (h : pm_TS B nf nd ts P Q T up ar cl T1 up1 ar1 cl1) (u : pu_P T1 ar1 ps up1 cl1 up2 cl2) (tt : pt_tw t) (ha : a + pt_sz t ≤ nd) (hP : ∀ d, P d → pv_iv k.2.2.2 k'.2.2.2 d) (hQ : ∀ s, Q s → pv_iv k.2.2.1 k'.2.2.1 s) (hf : ∀ val, pu_0 T1 up1 ar1 val → pu_E T1 up1 ar1 val → ∀ f, f < nf → ∃ b, ar1 (125 + nd + f) = some (1 + f, 125 + b) ∧ val (125 + nd + f) = pv_ar (val (1 + f)) (val (125 + b))) (hS : ∀ r val, pv_S r t → pm_nv r t a val → ∀ p ∈ ts, pv_S r p.1 ∧ pm_nv r p.1 p.2 val) (hD : ∀ (r : pv_R) (val : Nat → pv_T), val 0 = pv_int → pm_cs nf nd r val → pv_S r t → pm_nv r t a val → ∀ p ∈ ps, val p.1 = val p.2) (hD2 : ∀ (r : pv_R) (val : Nat → pv_T), val 0 = pv_int → (∀ f, f < nf → ∃ b, ar1 (125 + nd + f) = some (1 + f, 125 + b) ∧ val (125 + nd + f) = pv_ar (val (1 + f)) (val (125 + b))) → pm_cs nf nd r val → (∀ p ∈ ts, pv_S r p.1 ∧ pv_t r p.1 = val (125 + (p.2 + pt_sz p.1 - 1))) → (∀ p ∈ ps, val p.1 = val p.2) → ∃ r', pv_out k k' r r' ∧ pv_S r' t ∧ pv_t r' t = val (125 + (a + pt_sz t - 1))) : pm_TY nf nd t a k k' T up ar cl T1 up2 ar1 cl2 := by
  obtain ⟨a1, a2, a3, a4, a5⟩ := h
  refine ⟨a1, a2, fun r val hSr h0 hE hcs hnv => ?_, fun c => ?_⟩
  · obtain ⟨val1, e1, e2, e3, e4⟩ := a4 r val (hS r val hSr hnv) h0 hE hcs
    have cs1 := pm_cs_of (r' := r) hT hcs rfl rfl e1
    have nv1 := pm_nv_cong t tt a T val val1 (by omega) e1 hnv
    have p := u.1 val1 e2 e3 (hD r val1 e2.1 cs1 hSr nv1)
    exact ⟨val1, e1, p.1, p.2.1, p.2.2.trans e4⟩
  · obtain ⟨c1, u2⟩ := u.2 c
    obtain ⟨c0, a6⟩ := a5 c1
    refine ⟨c0, fun val h2 => ?_⟩
    obtain ⟨h1, v2, v3⟩ := u2 val h2
    obtain ⟨h0, g1⟩ := a6 val h1
    refine ⟨h0, fun hE => ?_⟩
    obtain ⟨hE1, r1⟩ := g1 hE
    refine ⟨v3 hE1, fun r hcs => ?_⟩
    obtain ⟨r', x1, x2, x3, x4, x5⟩ := r1 r hcs
    obtain ⟨r'', y1, y2, y3⟩ := hD2 r' val h2.1 (hf val h1 hE1) (pm_cs_of hT hcs x1 x2 (fun _ _ => rfl)) x5 v2
    exact ⟨r'', ⟨y1.1.trans x1, y1.2.1.trans x2, fun d z => (y1.2.2.1 d z).trans (x3 d (fun w => z (hP d w))), fun s z => (y1.2.2.2 s z).trans (x4 s (fun w => z (hQ s w)))⟩, y2, y3⟩
