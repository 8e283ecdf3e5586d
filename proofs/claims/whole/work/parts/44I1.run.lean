theorem rv_hm_lv {G : Nat} {hb ho : Nat → Int} (t : pt_T) (tt : pt_tw t) : ∀ h, rv_hm G hb ho t h → ∀ v, rv_lv t v → hb v = h := by
  induction t, tt using pt_indh with
  | num v => intro h _ v q; exact q.elim
  | var v x => intro h _ v q; exact q.elim
  | glo g x => intro h _ v q; exact q.elim
  | dead d => intro h _ v q; exact q.elim
  | lam f x b tb ih => intro h _ v q; exact q.elim
  | ife a b c ta tb tc iha ihb ihc =>
    intro h m v q
    rcases q with q | q | q
    · exact iha h m.1 v q
    · exact ihb h m.2.1 v q
    · exact ihc h m.2.2 v q
  | lt u x a b ta tb iha ihb =>
    intro h m v q
    rcases q with q | q | q
    · rw [q]; exact m.1
    · exact iha h m.2.1 v q
    · exact ihb h m.2.2 v q
  | op s a b ta tb iha ihb =>
    intro h m v q
    rcases q with q | q
    · exact iha h m.2.1 v q
    · exact ihb h m.2.2 v q
  | site s a b ta tb iha ihb =>
    intro h m v q
    rcases q with q | q
    · exact iha h m.1 v q
    · exact ihb h m.2 v q
/-! a let's VAR gets what it has -/
theorem rv_put_ST {G nf nv : Nat} {fb : Nat → pt_T} {r : pv_R} {hb ho : Nat → Int} {s : rv_S} (hs : rv_ST G nf nv fb r hb ho s) {j v : Nat} {a : rv_V} (hj : j ≤ s.1) (hv : v < nv) (ha : rv_TY G nf fb r ho s a (r.1 v)) (hh : hb v = s.2.2.1 j) (hf : s.2.1 j v = none) : rv_ST G nf nv fb r hb ho (rv_put s j v a) ∧ rv_gr s (rv_put s j v a) := by
  have gr : rv_gr s (rv_put s j v a) := by
    refine ⟨Nat.le_refl _, fun _ _ => ⟨rfl, rfl⟩, fun i u b q => ?_⟩
    show (if i = j ∧ u = v then some a else s.2.1 i u) = some b
    rw [if_neg (fun z => by rw [z.1, z.2, hf] at q; cases q)]
    exact q
  refine ⟨⟨hs.1, hs.2.1, fun i u b q => ?_⟩, gr⟩
  change (if i = j ∧ u = v then some a else s.2.1 i u) = some b at q
  by_cases c : i = j ∧ u = v
  · obtain ⟨rfl, rfl⟩ := c
    rw [if_pos ⟨rfl, rfl⟩] at q
    cases q
    refine ⟨hj, hv, rv_TY_gr gr ha, Int.le_of_eq hh, i, hj, ?_, hh.symm, ?_⟩
    · show (if s.2.2.1 i = hb u then some i else _) = some i
      rw [if_pos hh.symm]
    · show (if i = i ∧ u = u then some a else _) = some a
      rw [if_pos ⟨rfl, rfl⟩]
  · rw [if_neg c] at q
    obtain ⟨h1, h2, h3, h4, k, k1, k2, k3, k4⟩ := hs.2.2 i u b q
    exact ⟨h1, h2, rv_TY_gr gr h3, h4, k, k1, k2, k3, gr.2.2 k u b k4⟩
/-- a FUNCTION is entered -/
theorem rv_nw_ST {G nf nv ns : Nat} {fb : Nat → pt_T} {r : pv_R} {hb ho : Nat → Int} (hP : rv_PF G nf nv ns fb r hb ho) {s : rv_S} (hs : rv_ST G nf nv fb r hb ho s) (h100 : s.1 ≠ 100) {a b : rv_V} {T X : pv_T} {q : Nat} (hq : q ≤ s.1) (ha : rv_TY G nf fb r ho s a (pv_ar T X)) (hb' : rv_TY G nf fb r ho s b T) : ∃ f : Nat, f < nf ∧ a.2.1 = (f : Int) ∧ r.1 f = T ∧ pv_t r (fb f) = X ∧ rv_ST G nf nv fb r hb ho (rv_nw s f b a.2.2 q) ∧ rv_gr s (rv_nw s f b a.2.2 q) ∧ (∀ v, rv_fv (fb f) v → (rv_nw s f b a.2.2 q).2.1 (s.1 + 1) v ≠ none) ∧ (∀ v, rv_lv (fb f) v → (rv_nw s f b a.2.2 q).2.1 (s.1 + 1) v = none) ∧ (∀ i v, i ≤ s.1 → (rv_nw s f b a.2.2 q).2.1 i v = s.2.1 i v) ∧ (a.2.2 = -1 ∨ ∃ j : Nat, j ≤ s.1 ∧ a.2.2 = (j : Int)) := by
  rcases ha with ⟨_, e⟩ | ⟨f, hf, e1, e2, e3⟩
  · exact (pv_ar_int e).elim
  obtain ⟨p1, p2, p3, p4, p5, p6, p7, ⟨kk, kk', p8⟩, p9, p10, p11⟩ := hP f hf
  have e4 := pv_ar_inj (e2.trans p5)
  obtain ⟨⟨s1, s2, s3⟩, s4, s5⟩ := id hs
  have hup : a.2.2 = -1 ∨ ∃ j : Nat, j ≤ s.1 ∧ a.2.2 = (j : Int) := by
    rcases e3 with e | ⟨_, j, j1, j2, _⟩
    · exact Or.inl e.2
    · exact Or.inr ⟨j, j1, j2⟩
  have old : ∀ i v, i ≤ s.1 → (rv_nw s f b a.2.2 q).2.1 i v = s.2.1 i v := fun i v hi => by
    show (if i = s.1 + 1 then _ else s.2.1 i v) = _
    rw [if_neg (by omega)]
  have oldf : ∀ i, i ≤ s.1 → (rv_nw s f b a.2.2 q).2.2.1 i = s.2.2.1 i ∧ (rv_nw s f b a.2.2 q).2.2.2.1 i = s.2.2.2.1 i := fun i hi => by
    show (if i = s.1 + 1 then _ else s.2.2.1 i) = _ ∧ (if i = s.1 + 1 then _ else s.2.2.2.1 i) = _
    rw [if_neg (by omega), if_neg (by omega)]
    exact ⟨rfl, rfl⟩
  have newf : (rv_nw s f b a.2.2 q).2.2.1 (s.1 + 1) = (f : Int) ∧ (rv_nw s f b a.2.2 q).2.2.2.1 (s.1 + 1) = a.2.2 := by
    show (if s.1 + 1 = s.1 + 1 then _ else _) = _ ∧ (if s.1 + 1 = s.1 + 1 then _ else _) = _
    rw [if_pos rfl, if_pos rfl]
    exact ⟨rfl, rfl⟩
  have newv : ∀ v, (rv_nw s f b a.2.2 q).2.1 (s.1 + 1) v = if v = f then some b else if a.2.2 < 0 then none else s.2.1 a.2.2.toNat v := fun v => by
    show (if s.1 + 1 = s.1 + 1 then _ else _) = _
    rw [if_pos rfl]
  have gr : rv_gr s (rv_nw s f b a.2.2 q) := by
    refine ⟨Nat.le_succ _, oldf, fun i u c z => ?_⟩
    rw [old i u (s5 i u c z).1]
    exact z
  have wk : ∀ z i h, i ≤ s.1 → rv_wk (rv_nw s f b a.2.2 q).2.2.1 (rv_nw s f b a.2.2 q).2.2.2.1 z i h = rv_wk s.2.2.1 s.2.2.2.1 z i h := rv_wk_gr (fun i hi => (s4 i hi).2.2.2) oldf
  have enb : s.2.2.2.2.1 ||| 2 ^ f < 2 ^ 24 := Nat.or_lt_two_pow s3 (Nat.pow_lt_pow_right (by omega) p11)
  have mo : max s.2.2.2.2.2 (q + 1) ≤ s.1 + 1 := by omega
  refine ⟨f, hf, e1, e4.1.symm, e4.2.symm, ⟨⟨?_, mo, enb⟩, fun i hi => ?_, fun i v c z => ?_⟩, gr, fun v hv => ?_, fun v hv => ?_, old, hup⟩
  · exact Nat.lt_of_le_of_ne s1 h100
  · change i ≤ s.1 + 1 at hi
    by_cases c : i = s.1 + 1
    · subst c
      rw [newf.1, newf.2]
      clear e3
      rcases hup with u | ⟨j, j1, u⟩
      · exact ⟨by omega, by omega, by omega, by omega⟩
      · exact ⟨by omega, by omega, by omega, by omega⟩
    · rw [(oldf i (by omega)).1, (oldf i (by omega)).2]
      exact s4 i (by omega)
  · by_cases c' : i = s.1 + 1
    · subst c'
      rw [newv] at z
      by_cases c2 : v = f
      · subst c2
        rw [if_pos rfl] at z
        cases z
        refine ⟨Nat.le_refl _, p10, rv_TY_gr gr (by rw [← e4.1]; exact hb'), by rw [p7, newf.1]; exact Int.le_refl _, s.1 + 1, Nat.le_refl _, ?_, by rw [newf.1, p7], by rw [newv, if_pos rfl]⟩
        show (if (rv_nw s v b a.2.2 q).2.2.1 (s.1 + 1) = hb v then some (s.1 + 1) else _) = _
        rw [newf.1, p7, if_pos rfl]
      · rw [if_neg c2] at z
        by_cases c3 : a.2.2 < 0
        · rw [if_pos c3] at z; cases z
        · rw [if_neg c3] at z
          rcases e3 with e | ⟨fG, j, j1, j2, j3, j4, j5⟩
          · exact (c3 (by rw [e.2]; decide)).elim
          · have ej : a.2.2.toNat = j := by omega
            rw [ej] at z
            obtain ⟨z1, z2, z3, z4, k, k1, k2, k3, k4⟩ := s5 j v c z
            refine ⟨Nat.le_refl _, z2, rv_TY_gr gr z3, by rw [newf.1]; omega, k, Nat.le_succ_of_le k1, ?_, by rw [(oldf k k1).1]; exact k3, by rw [old k v k1]; exact k4⟩
            show (if (rv_nw s f b a.2.2 q).2.2.1 (s.1 + 1) = hb v then some (s.1 + 1) else if (rv_nw s f b a.2.2 q).2.2.2.1 (s.1 + 1) < 0 then none else rv_wk _ _ (s.1 + 1) ((rv_nw s f b a.2.2 q).2.2.2.1 (s.1 + 1)).toNat (hb v)) = _
            rw [newf.1, newf.2, if_neg (by omega), if_neg c3, ej, wk _ _ _ j1]
            have := rv_wk_more (j + 1) (s.1 - j) j k (hb v) k2
            rw [show j + 1 + (s.1 - j) = s.1 + 1 by omega] at this
            exact this
    · change i = s.1 + 1 → False at c'
      have hi : i ≤ s.1 := by
        have z0 := z
        change (if i = s.1 + 1 then _ else s.2.1 i v) = some c at z0
        rw [if_neg c'] at z0
        exact (s5 i v c z0).1
      rw [old i v hi] at z
      obtain ⟨z1, z2, z3, z4, k, k1, k2, k3, k4⟩ := s5 i v c z
      exact ⟨Nat.le_succ_of_le z1, z2, rv_TY_gr gr z3, by rw [(oldf i hi).1]; exact z4, k, Nat.le_succ_of_le k1, by rw [wk _ _ _ hi]; exact k2, by rw [(oldf k k1).1]; exact k3, by rw [old k v k1]; exact k4⟩
  · rw [newv]
    by_cases c2 : v = f
    · rw [if_pos c2]; exact fun z => by cases z
    · rw [if_neg c2]
      rcases e3 with e | ⟨fG, j, j1, j2, j3, j4, j5⟩
      · exact (c2 (p9 e.1 v hv)).elim
      · rw [if_neg (by omega), show a.2.2.toNat = j by omega]
        exact j5 v hv c2
  · have r1 := rv_lv_can (fb f) p1 kk kk' p8 v hv
    rw [newv, if_neg (by omega)]
    by_cases c3 : a.2.2 < 0
    · rw [if_pos c3]
    · rw [if_neg c3]
      rcases e3 with e | ⟨fG, j, j1, j2, j3, j4, j5⟩
      · exact (c3 (by rw [e.2]; decide)).elim
      · have ej : a.2.2.toNat = j := by omega
        rw [ej]
        cases e : s.2.1 j v with
        | none => rfl
        | some c =>
          have z4 := (s5 j v c e).2.2.2.1
          have hm := rv_hm_lv (fb f) p1 (f : Int) p6 v hv
          omega
