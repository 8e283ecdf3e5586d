/-! split() and group() in the law -/
theorem lw_split {w : fa_W} {a b : Int} (h : lw_I w) (ba : -2147483648 ≤ a ∧ a < 2147483648) (bb : -2147483648 ≤ b ∧ b < 2147483648) : lw_R (fm_Law_split a b w) (fm_Mod_split a b) := by
  have h0 := h
  obtain ⟨gs, t, la, li, si, nd, fb, sb, mk, bs, tp, flt, hP, hB, hX, hM⟩ := h
  obtain ⟨hV, hG, _, hmk, hMk⟩ := id hP
  have v1 := hV.1
  have v2 := hV.2.1
  have p24 : 2 ^ (gs.length + la) ≤ 2 ^ 24 := Nat.pow_le_pow_right (by omega) (by omega)
  obtain ⟨⟨ins, os, hS⟩, _⟩ := id hX
  have hsc := px_sK_sc (w 0 6)
  obtain ⟨a1, a2, a3, a4, a5, a6, a7, a8, a9⟩ := px_sK_all hsc
  by_cases y : pa_in 5 b
  · by_cases z : pa_in 3 a
    · have hn := (lw_needSplit (w := w) ba).1 z
      obtain ⟨z1, z2⟩ := id z
      obtain ⟨y1, y2⟩ := id y
      obtain ⟨sp, hsp⟩ : ∃ sp : Nat, a = (sp : Int) := ⟨a.toNat, by omega⟩
      obtain ⟨wh, hwh⟩ : ∃ wh : Nat, b = (wh : Int) := ⟨b.toNat, by omega⟩
      subst hsp
      subst hwh
      obtain ⟨cl, hC, m1, m2⟩ := px_masks hS
      obtain ⟨cl', hC', m3, m4⟩ := pm_masks hM.1.1
      have e := bk_C_one hC' hC
      subst e
      have cc := hC.1
      have sub : ∀ f, cl'.testBit f = true → mk.testBit f = true := fun f hf => (hMk f).mpr ((pf_lM hG.2.2.2.1.1 hG.2.1).2.2 f ((hC.2 f).mp hf))
      obtain ⟨l, hl⟩ : ∃ l, l = pg_g gs t (pf_A fb t sb (gs.length + la)) si (gs.length + la) mk sp := ⟨_, rfl⟩
      have GX := px_GX_SC hsc hV hS (sp := sp) (by omega)
      rw [← hl] at GX
      have dj : pg_dj l := by rw [hl]; exact pg_D_of (pg_g_E gs t (pf_A fb t sb (gs.length + la)) si (gs.length + la) mk sp) (gs.length + la) (Nat.le_refl _)
      have sum : pg_s cl' l = pf_pop cl' := by
        rw [pg_sum l dj, hl]
        congr 1
        exact pg_cases (pg_g_E gs t (pf_A fb t sb (gs.length + la)) si (gs.length + la) mk sp) hmk sub
      obtain ⟨v, hv⟩ : ∃ v : Int, v = ((if wh = 0 then l.length else if wh = 1 then 0 + pg_w cl' l else if wh = 2 then 0 + pg_s cl' l else if wh = 3 then pg_x cl' 0 l else pf_pop (pf_an mk cl') : Nat) : Int) := ⟨_, rfl⟩
      have hF : fm_Face_split (sp : Int) (wh : Int) w = some (0, v, w) := by
        unfold fm_Face_split
        rw [pb_wr (show wh < 2147483648 by omega), if_neg (by omega), if_pos (by omega), hn, pf_bd_eq, if_pos rfl, a8, a9, m2, m1, (px_gmany GX).1, px_manyWithCases GX cc, px_mostCases GX cc, pf_bitCount (by omega), pf_iand_not (by omega) (by omega), pf_bitCount (Nat.lt_of_le_of_lt (pf_an_le mk cl') (by omega)), Option.bind_some, Option.bind_some, hv]
        by_cases c0 : wh = 0
        · rw [if_pos (by omega), if_pos c0]
        · rw [if_neg (by omega), if_neg c0]
          by_cases c1 : wh = 1
          · rw [if_pos (by omega), if_pos c1, Nat.zero_add]
          · rw [if_neg (by omega), if_neg c1]
            by_cases c2 : wh = 2
            · rw [if_pos (by omega), if_pos c2, Nat.zero_add, sum]
            · rw [if_neg (by omega), if_neg c2]
              by_cases c3 : wh = 3
              · rw [if_pos (by omega), if_pos c3]
              · rw [if_neg (by omega), if_neg c3]
      obtain ⟨w0, hw0⟩ : ∃ w0, w0 = fa_st (fa_st w 237 0 (fa_wr v)) 181 0 0 := ⟨_, rfl⟩
      have o0 : ∀ i j, i ≠ 237 → ¬ (i = 181 ∧ j = 0) → w0 i j = w i j := fun i j q p => by rw [hw0, fa_st_ne p, fa_st_ne (by omega)]
      have M1 : pm_IM gs t la li si nd fb sb mk w0 := lw_IM_ob hV hG hM.1 (fun i j p q r => o0 _ _ (by omega) (by omega)) (fun j p q => o0 _ _ (by omega) (by omega))
      have GM := pm_GX_of hV M1.1 (sp := sp) (by omega)
      rw [← hl] at GM
      have hn2 := (lw_noSplit (x := 2) (w := w0) ba).1 z
      have in2 : fm_Mod_in (wh : Int) 0 4 w0 = true := (lw_in3 (n := 4) (w := w0) (by omega) bb).1 y
      have S := pm_split_l (wh := wh) GM cc hmk (by rw [o0 _ _ (by omega) (by omega)]; exact m4) (by rw [o0 _ _ (by omega) (by omega)]; exact m3) (by omega) l 0 fa_FU 0 0 0 (List.drop_zero ..) (Nat.zero_le _) (by have := GX.2.2.2.1; unfold fa_FU; omega) (by omega)
      rw [← hv] at S
      refine lw_R0 (v := v) (w1 := w) (u := v) (w2 := w0) ?_ ?_ ?_ ?_ rfl (lw_I_ob h0 (fun i j p q => o0 i j (by omega) (by omega)))
      · unfold fm_Law_split
        rw [hF]
        rfl
      · unfold fm_Mod_split fm_Mod_split_j20 fm_Mod_throwsIf
        rw [pf_let_eq, ← hw0, if_pos in2, if_neg (by decide), pf_l2_eq, if_neg (by decide), hn2, pf_l2_eq, if_neg (by decide)]
        exact S
      · rw [hw0, fa_st_eq]
      · rw [hw0, fa_st_ne (by omega), fa_st_eq]
    · have hn := (lw_needSplit (w := w) ba).2 z
      have hn2 := (lw_noSplit (x := 2) (w := fa_st w 181 0 0) ba).2 z
      have in2 : fm_Mod_in b 0 4 (fa_st w 181 0 0) = true := (lw_in3 (n := 4) (w := fa_st w 181 0 0) (by omega) bb).1 y
      obtain ⟨y1, y2⟩ := id y
      refine lw_R1 (v := 2) (w1 := w) (u := 0) (w2 := fa_st (fa_st w 181 0 0) 181 0 2) ?_ (by decide) ?_ (fa_st_eq _ _ _ _) (lw_I_ob h0 (fun i j p q => by rw [fa_st_ne (by omega), fa_st_ne (by omega)]))
      · unfold fm_Law_split fm_Face_split
        rw [fa_wr_id bb.1 bb.2, if_neg (by omega), if_pos (by omega), hn, pf_bd_eq]
        rfl
      · unfold fm_Mod_split fm_Mod_split_j20 fm_Mod_throwsIf
        rw [pf_let_eq, if_pos in2, if_neg (by decide), pf_l2_eq, if_neg (by decide), hn2, pf_l2_eq, if_pos rfl]
  · have in2 : fm_Mod_in b 0 4 (fa_st w 181 0 0) = false := (lw_in3 (n := 4) (w := fa_st w 181 0 0) (by omega) bb).2 y
    have y' : ¬ (0 ≤ b ∧ b < ((5 : Nat) : Int)) := y
    refine lw_R1 (v := 1) (w1 := w) (u := 0) (w2 := fa_st (fa_st w 181 0 0) 181 0 1) ?_ (by decide) ?_ (fa_st_eq _ _ _ _) (lw_I_ob h0 (fun i j p q => by rw [fa_st_ne (by omega), fa_st_ne (by omega)]))
    · unfold fm_Law_split fm_Face_split fm_Face_split_j9
      rw [fa_wr_id bb.1 bb.2]
      by_cases c : b < 0
      · rw [if_pos c]; rfl
      · rw [if_neg c, if_neg (by omega)]; rfl
    · unfold fm_Mod_split fm_Mod_split_j20 fm_Mod_throwsIf
      rw [pf_let_eq, if_neg (by rw [in2]; decide), if_pos rfl, pf_let_eq, pf_l2_eq, if_pos rfl]
