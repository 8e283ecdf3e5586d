/-! a FUNCTION's own cells are written: what lies in the other EXPRS stays -/
def px_tg (o G : Nat) (w w' : fa_W) : Prop := (∀ i j, i = o + 2 ∨ i = o + 4 ∨ i = o + 6 ∨ i = o + 8 ∨ i = o + 10 ∨ i = o + 12 ∨ i = o + 16 → w' i j = w i j) ∧ (∀ j, j ≠ G → w' (o + 14) j = w (o + 14) j) ∧ (∀ j, j ≠ G → w' (o + 20) j = w (o + 20) j) ∧ ∀ j, j < G → w' (o + 18) j = w (o + 18) j
theorem px_N_tg {o G : Nat} {w w' : fa_W} (h : px_tg o G w w') {t K v st : Nat} {hh a b c : Int} (N : px_N o w t K v hh st a b c) : px_N o w' t K v hh st a b c := by
  obtain ⟨n1, n2, n3, n4, n5, n6, n7⟩ := N
  exact ⟨by rw [h.1 _ _ (by omega)]; exact n1, by rw [h.1 _ _ (by omega)]; exact n2, by rw [h.1 _ _ (by omega)]; exact n3, by rw [h.1 _ _ (by omega)]; exact n4, by rw [h.1 _ _ (by omega)]; exact n5, by rw [h.1 _ _ (by omega)]; exact n6, by rw [h.1 _ _ (by omega)]; exact n7⟩
theorem px_xi_ge {ins : List Nat} {v : Nat} (hi : ∀ x ∈ ins, 24 ≤ x) (h : 24 ≤ v) (h2 : v < 24 + ins.length) : 24 ≤ px_xi ins v := by
  unfold px_xi
  rw [if_neg (by omega), List.getD_eq_getElem?_getD, List.getElem?_eq_getElem (by omega)]
  exact hi _ (List.getElem_mem _)
theorem px_H_tg {o G : Nat} {ins : List Nat} {w w' : fa_W} (hG : G < 6) (hi : ∀ x ∈ ins, 24 ≤ x) (hf : px_tg o G w w') (t : pt_T) (ht : pt_tw t) : ∀ (gl : List Nat) (sc : List (Nat × Nat)) (h : Int) (k k' : pk_K) (a : Nat), gl.length ≤ G → (∀ b ∈ sc, px_xi ins b.1 ≠ G) → pk_can t k k' → pk_wfs t gl sc → k'.1 ≤ 18 → k'.2.1 ≤ ins.length → px_H o ins t h a w → px_H o ins t h a w' := by
  induction t, ht using pt_indh with
  | num v =>
    intro gl sc h k k' a hg hs hc hw h18 hl H
    exact px_N_tg hf H
  | var v x =>
    intro gl sc h k k' a hg hs hc hw h18 hl H
    have lb := hs _ (ps_lk_mem sc x v hw.1)
    exact ⟨px_N_tg hf H.1, by rw [hf.2.1 _ lb]; exact H.2⟩
  | glo g x =>
    intro gl sc h k k' a hg hs hc hw h18 hl H
    have lb := ps_gx_mem gl x 0 g hw.2.1
    exact ⟨px_N_tg hf H.1, by rw [hf.2.2.2 g (by omega)]; exact H.2⟩
  | dead d =>
    intro gl sc h k k' a hg hs hc hw h18 hl H
    exact ⟨px_N_tg hf H.1, H.2⟩
  | lam f x b tb ih =>
    intro gl sc h k k' a hg hs hc hw h18 hl H
    obtain ⟨ef, k1, h1, rfl⟩ := hc
    have m := pk_can_mono b tb _ _ h1
    obtain ⟨H1, H2, H3, H4, H5⟩ := H
    dsimp only at m h18 hl
    have i := ih gl ((f, x) :: sc) _ (k.1 + 1, k.2) k1 a hg (fun b hb => by
      rcases List.mem_cons.mp hb with rfl | hb
      · unfold px_xi; rw [if_pos (by dsimp only; omega)]; dsimp only; omega
      · exact hs b hb) h1 hw.2 h18 hl H1
    exact ⟨i, px_N_tg hf H2, by rw [hf.2.1 f (by omega)]; exact H3, by rw [hf.1 _ _ (by omega)]; exact H4, by rw [hf.2.2.1 f (by omega)]; exact H5⟩
  | ife ta tb tc wa wb wc iha ihb ihc =>
    intro gl sc h k k' a hg hs hc hw h18 hl H
    obtain ⟨k1, k2, k3, h1, h2, h3, rfl⟩ := hc
    have m1 := pk_can_mono ta wa _ _ h1
    have m2 := pk_can_mono tb wb _ _ h2
    have m3 := pk_can_mono tc wc _ _ h3
    obtain ⟨H1, H2, H3, H4⟩ := H
    dsimp only at h18 hl
    exact ⟨iha gl sc _ k k1 _ hg hs h1 hw.1 (by omega) (by omega) H1, ihb gl sc _ k1 k2 _ hg hs h2 hw.2.1 (by omega) (by omega) H2, ihc gl sc _ k2 k3 _ hg hs h3 hw.2.2 (by omega) (by omega) H3, px_N_tg hf H4⟩
  | lt v x ta tb wa wb iha ihb =>
    intro gl sc h k k' a hg hs hc hw h18 hl H
    obtain ⟨k1, k2, h1, ev, h2, rfl⟩ := hc
    have m1 := pk_can_mono ta wa _ _ h1
    have m2 := pk_can_mono tb wb _ _ h2
    obtain ⟨H1, H2, H3, H4, H5⟩ := H
    dsimp only at h18 hl m2
    have vg := px_xi_ge (v := v) hi (by omega) (by omega)
    exact ⟨iha gl sc _ k k1 _ hg hs h1 hw.2.1 (by omega) (by omega) H1, ihb gl ((v, x) :: sc) _ _ k2 _ hg (fun b hb => by
      rcases List.mem_cons.mp hb with rfl | hb
      · dsimp only; omega
      · exact hs b hb) h2 hw.2.2 (by omega) (by omega) H2, px_N_tg hf H3, by rw [hf.2.1 _ (by omega)]; exact H4, by rw [hf.1 _ _ (by omega)]; exact H5⟩
  | op s ta tb wa wb iha ihb =>
    intro gl sc h k k' a hg hs hc hw h18 hl H
    obtain ⟨k1, k2, h1, h2, rfl⟩ := hc
    have m1 := pk_can_mono ta wa _ _ h1
    have m2 := pk_can_mono tb wb _ _ h2
    obtain ⟨H1, H2, H3⟩ := H
    dsimp only at h18 hl
    exact ⟨iha gl sc _ k k1 _ hg hs h1 hw.2.1 (by omega) (by omega) H1, ihb gl sc _ k1 k2 _ hg hs h2 hw.2.2 (by omega) (by omega) H2, px_N_tg hf H3⟩
  | site s ta tb wa wb iha ihb =>
    intro gl sc h k k' a hg hs hc hw h18 hl H
    obtain ⟨k1, k2, h1, es, h2, rfl⟩ := hc
    have m1 := pk_can_mono ta wa _ _ h1
    have m2 := pk_can_mono tb wb _ _ h2
    obtain ⟨H1, H2, H3, H4⟩ := H
    dsimp only at h18 hl m2
    exact ⟨iha gl sc _ k k1 _ hg hs h1 hw.1 (by omega) (by omega) H1, ihb gl sc _ _ k2 _ hg hs h2 hw.2 (by omega) (by omega) H2, px_N_tg hf H3, by rw [hf.1 _ _ (by omega)]; exact H4⟩
theorem px_GH_tg {o G : Nat} {ins : List Nat} {w w' : fa_W} (hG : G < 6) (hi : ∀ x ∈ ins, 24 ≤ x) (hf : px_tg o G w w') : ∀ (gs : ps_G) (gl : List Nat) (k k' : pk_K) (a : Nat), gl.length + gs.length ≤ G → pk_GW gs gl k k' → k'.1 ≤ 18 → k'.2.1 ≤ ins.length → px_GH o ins gs gl.length a w → px_GH o ins gs gl.length a w' := by
  intro gs
  induction gs with
  | nil => intro gl k k' a _ _ _ _ _; trivial
  | cons e r ih =>
    intro gl k k' a hl h h18 hil H
    obtain ⟨x, v, t⟩ := e
    obtain ⟨_, _, _, tt, hw, k3, h6, h7⟩ := h
    obtain ⟨c1, c2, c3, c6, c7⟩ := H
    rw [List.length_cons] at hl
    have mm := pk_GW_mono r _ _ _ h7
    have e1 : (gl ++ [x]).length = gl.length + 1 := by simp
    have i := ih (gl ++ [x]) k3 k' (a + pt_sz t) (by omega) h7 h18 hil
    rw [e1] at i
    obtain ⟨n1, n2, n3, n4⟩ := mm
    refine ⟨by rw [hf.2.2.2 _ (by omega)]; exact c1, by rw [hf.2.1 _ (by omega)]; exact c2, by rw [hf.2.2.1 _ (by omega)]; exact c3, ?_, i c7⟩
    refine px_H_tg hG hi hf t tt _ _ _ k k3 _ (by rw [e1]; omega) (fun b hb => ?_) h6 hw (by omega) (by omega) c6
    rw [List.mem_singleton] at hb
    subst hb
    unfold px_xi
    rw [if_pos (by dsimp only; omega)]
    dsimp only
    omega
theorem px_S_r2 {c : Nat → Int} {n : Nat} {gl : List Nat} {sc : List (Nat × Nat)} {ow : Int} {ne p : Nat} {r : Nat × Nat × List Nat × Nat × Nat × Nat} {w : fa_W} (h : px_S c n (gl, sc, ow, ne) (p, r) w) (hs : sc.length ≤ 21) : px_r c n (ps_sk c n p) w := by
  obtain ⟨th, la, ins, lt, si, nd⟩ := r
  obtain ⟨e1, e2, e3, e4, e5, e6, e7, e8, e9, e10, e11, e12, e13, e14⟩ := h
  exact ⟨e1, e2, e3, sc.length, hs, e12⟩
