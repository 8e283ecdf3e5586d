/-! group() in the law -/
theorem lw_iandm {m : Nat} (h : m < 2147483648) : fa_iand (m : Int) (-1) = (m : Int) := by
  rw [show (-1 : Int) = -1 from rfl]
  unfold fa_iand
  have e : fa_I (-1) = -1 := by decide
  rw [e]
  have : ∀ X : Int32, X &&& -1 = X := fun X => by simp
  rw [this]
  exact fa_wr_id (by omega) (by omega)
theorem lw_group {w : fa_W} {a b : Int} (cs : Bool) (h : lw_I w) (ba : -2147483648 ≤ a ∧ a < 2147483648) (bb : -2147483648 ≤ b ∧ b < 2147483648) : lw_R (fm_Law_group a b cs w) (fm_Mod_group a b cs) := by
  have h0 := h
  obtain ⟨gs, t, la, li, si, nd, fb, sb, mk, bs, tp, flt, hP, hB, hX, hM⟩ := h
  obtain ⟨hV, hG, _, hmk, hMk⟩ := id hP
  have v1 := hV.1
  have v2 := hV.2.1
  have p24 : 2 ^ (gs.length + la) ≤ 2 ^ 24 := Nat.pow_le_pow_right (by omega) (by omega)
  obtain ⟨⟨ins, os, hS⟩, _⟩ := id hX
  have hsc := px_sK_sc (w 0 6)
  obtain ⟨a1, a2, a3, a4, a5, a6, a7, a8, a9⟩ := px_sK_all hsc
  by_cases z : pa_in 3 a
  · have hn := (lw_needSplit (w := w) ba).1 z
    obtain ⟨z1, z2⟩ := id z
    obtain ⟨sp, hsp⟩ : ∃ sp : Nat, a = (sp : Int) := ⟨a.toNat, by omega⟩
    subst hsp
    obtain ⟨cl, hC, m1, m2⟩ := px_masks hS
    obtain ⟨cl', hC', m3, m4⟩ := pm_masks hM.1.1
    have e := bk_C_one hC' hC
    subst e
    have cc := hC.1
    obtain ⟨l, hl⟩ : ∃ l, l = pg_g gs t (pf_A fb t sb (gs.length + la)) si (gs.length + la) mk sp := ⟨_, rfl⟩
    have GX := px_GX_SC hsc hV hS (sp := sp) (by omega)
    rw [← hl] at GX
    have glen := GX.2.2.2.1
    have lin : ∀ w0 : fa_W, (pa_in l.length b → fm_Mod_in b 0 ((l.length : Int) - 1) w0 = true) ∧ (¬ pa_in l.length b → fm_Mod_in b 0 ((l.length : Int) - 1) w0 = false) := fun w0 => by
      by_cases cl0 : l.length = 0
      · refine ⟨fun q => ?_, fun _ => ?_⟩
        · obtain ⟨q1, q2⟩ := q; omega
        · unfold fm_Mod_in
          rw [fa_wr_id bb.1 bb.2, show fa_wr 0 = 0 from rfl, cl0]
          by_cases c1 : b < 0
          · rw [if_pos c1]
          · rw [if_neg c1, show ((0 : Nat) : Int) - 1 = -1 by omega, pb_wr1, if_pos (by omega)]
      · have ii := lw_in3 (n := l.length - 1) (a := b) (w := w0) (by omega) bb
        rw [show l.length - 1 + 1 = l.length by omega, show ((l.length - 1 : Nat) : Int) = (l.length : Int) - 1 by omega] at ii
        exact ii
    by_cases y : pa_in l.length b
    · obtain ⟨y1, y2⟩ := id y
      obtain ⟨k, hk⟩ : ∃ k : Nat, b = (k : Int) := ⟨b.toNat, by omega⟩
      subst hk
      have kl : k < l.length := by omega
      have mlt := GX.2.2.2.2.1 k kl
      obtain ⟨v, hv⟩ : ∃ v : Int, v = ((if cs = true then l.getD k 0 &&& cl' else l.getD k 0 : Nat) : Int) := ⟨_, rfl⟩
      have hF : fm_Face_group (sp : Int) (k : Int) cs w = some (0, v, w) := by
        unfold fm_Face_group
        rw [hn, pf_bd_eq, if_pos rfl, a9, (px_gmany GX).1, pb_wr (by omega), pb_wr (by omega), if_neg (by omega), if_pos (by omega), pf_let_eq, px_members GX kl, a8, m2, pb_and (by omega) (by omega), hv]
        cases cs
        · rw [if_neg (by decide), if_neg (by decide)]
        · rw [if_pos rfl, if_pos rfl]
      obtain ⟨w0, hw0⟩ : ∃ w0, w0 = fa_st (fa_st w 237 0 (fa_wr v)) 181 0 0 := ⟨_, rfl⟩
      have o0 : ∀ i j, i ≠ 237 → ¬ (i = 181 ∧ j = 0) → w0 i j = w i j := fun i j q p => by rw [hw0, fa_st_ne p, fa_st_ne (by omega)]
      have M1 : pm_IM gs t la li si nd fb sb mk w0 := lw_IM_ob hV hG hM.1 (fun i j p q r => o0 _ _ (by omega) (by omega)) (fun j p q => o0 _ _ (by omega) (by omega))
      have GM := pm_GX_of hV M1.1 (sp := sp) (by omega)
      rw [← hl] at GM
      have hn2 := (lw_noSplit (x := 1) (w := w0) ba).1 z
      refine lw_R0 (v := v) (w1 := w) (u := v) (w2 := w0) ?_ ?_ ?_ ?_ rfl (lw_I_ob h0 (fun i j p q => o0 i j (by omega) (by omega)))
      · unfold fm_Law_group
        rw [hF]
        rfl
      · unfold fm_Mod_group fm_Mod_group_j36 fm_Mod_throwsIf
        rw [pf_let_eq, ← hw0, hn2, pf_l2_eq, if_neg (by decide), pb_ix (show sp < 3 by omega) (by omega), Option.bind_some, GM.2.2.2.2.2.2.1, if_pos ((lin w0).1 y), if_neg (by decide), pf_l2_eq, if_neg (by decide), pm_groupSet GM kl, Option.bind_some, o0 _ _ (by omega) (by omega), m4, pb_and (by omega) (by omega), lw_iandm (by omega), hv]
        cases cs
        · rw [if_neg (by decide), if_neg (by decide)]
        · rw [if_pos rfl, if_pos rfl]
      · rw [hw0, fa_st_eq]
      · rw [hw0, fa_st_ne (by omega), fa_st_eq]
    · obtain ⟨w0, hw0⟩ : ∃ w0, w0 = fa_st w 181 0 0 := ⟨_, rfl⟩
      have o0 : ∀ i j, ¬ (i = 181 ∧ j = 0) → w0 i j = w i j := fun i j p => by rw [hw0, fa_st_ne p]
      have M1 : pm_IM gs t la li si nd fb sb mk w0 := lw_IM_ob hV hG hM.1 (fun i j p q r => o0 _ _ (by omega)) (fun j p q => o0 _ _ (by omega))
      have GM := pm_GX_of hV M1.1 (sp := sp) (by omega)
      rw [← hl] at GM
      have hn2 := (lw_noSplit (x := 1) (w := w0) ba).1 z
      have y' : ¬ (0 ≤ b ∧ b < (l.length : Int)) := y
      refine lw_R1 (v := 2) (w1 := w) (u := 0) (w2 := fa_st w0 181 0 2) ?_ (by decide) ?_ (fa_st_eq _ _ _ _) (lw_I_ob h0 (fun i j p q => by rw [fa_st_ne (by omega), o0 _ _ (by omega)]))
      · unfold fm_Law_group fm_Face_group fm_Face_group_j24
        rw [hn, pf_bd_eq, if_pos rfl, a9, (px_gmany GX).1, fa_wr_id bb.1 bb.2, pb_wr (by omega)]
        by_cases c : b < 0
        · rw [if_pos c]; rfl
        · rw [if_neg c, if_neg (by omega)]; rfl
      · unfold fm_Mod_group fm_Mod_group_j36 fm_Mod_throwsIf
        rw [pf_let_eq, ← hw0, hn2, pf_l2_eq, if_neg (by decide), pb_ix (show sp < 3 by omega) (by omega), Option.bind_some, GM.2.2.2.2.2.2.1, if_neg (by rw [(lin w0).2 y]; decide), if_pos rfl, pf_let_eq, pf_l2_eq, if_pos rfl]
  · have hn := (lw_needSplit (w := w) ba).2 z
    have hn2 := (lw_noSplit (x := 1) (w := fa_st w 181 0 0) ba).2 z
    refine lw_R1 (v := 1) (w1 := w) (u := 0) (w2 := fa_st (fa_st w 181 0 0) 181 0 1) ?_ (by decide) ?_ (fa_st_eq _ _ _ _) (lw_I_ob h0 (fun i j p q => by rw [fa_st_ne (by omega), fa_st_ne (by omega)]))
    · unfold fm_Law_group fm_Face_group
      rw [hn, pf_bd_eq]
      rfl
    · unfold fm_Mod_group
      rw [pf_let_eq, hn2, pf_l2_eq, if_pos rfl]
