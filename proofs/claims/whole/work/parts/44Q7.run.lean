/-! function() in the law: the rest, and the call -/
theorem lw_fn3 {gs : ps_G} {t : pt_T} {la li si nd mk f : Nat} {fb : Nat → pt_T} {sb : pf_sT} {ins os : List Nat} {w : fa_W} {b : Int} (hP : pf_PR gs t la li si nd fb sb mk) (hS : px_SC (fa_sc (w 0 6)) gs t la li si nd ins os fb sb mk w) (hf : f < gs.length + la) (hb : b = 6 ∨ b = 7 ∨ b = 8) : lw_FN gs t la li si nd fb sb mk f b w := by
  obtain ⟨hV, hG, _, hmk, hMk⟩ := id hP
  have v1 := hV.1
  have v2 := hV.2.1
  have hsc := px_sK_sc (w 0 6)
  have s54 : 54 < fa_sc (w 0 6) := by rcases hsc with h | h <;> omega
  obtain ⟨a1, a2, a3, a4, a5, a6, a7, a8, a9⟩ := px_sK_all hsc
  have hn := (px_need (nf := gs.length + la) (w := w) (a := (f : Int)) (by omega) (by rw [a6]; exact hS.1.2.1.2.1) (by omega)).1 ⟨by omega, by omega⟩
  have thr : ∀ (b : Int) w0, fm_Mod_throwsIf false 2 w0 = (false, w0) := fun b w0 => by unfold fm_Mod_throwsIf; rw [if_neg (by decide)]
  obtain ⟨zz, tb, cal, rg, z1, _, ok, lz, T3, _⟩ := id hS.2.2.1
  rcases hb with h | h | h <;> subst h
  · obtain ⟨w1, p1, p2, p3, p4⟩ := px_fields (r := 5) a1 (by decide +kernel) (by decide +kernel) (by omega) hV hG hS.1 T3 hf
    refine ⟨((pd_fl f (fb f)).length : Int), w1, ?_, fun i j q1 q2 => p2 i j q1 q2, fun w0 hN => ?_⟩
    · unfold fm_Face_function fm_Face_countFields
      rw [hn, pf_bd_eq, if_pos rfl, if_neg (by decide), if_neg (by decide), if_neg (by decide), if_neg (by decide), if_neg (by decide), if_neg (by decide), if_pos (by decide), a6, p1, Option.bind_some, pf_bd_eq]
      show some (0, w1 5 1, w1) = _
      rw [p3.1, List.length_map]
    · unfold fm_Mod_function_j29
      rw [thr 0 w0, pf_l2_eq, if_neg (by decide), if_neg (by decide), if_neg (by decide), if_neg (by decide), if_neg (by decide), if_neg (by decide), if_neg (by decide), if_pos (by decide), pb_ix (show f < 24 by omega) (by omega), Option.bind_some, (hN.2.2.2.1 f hf).1]
  · have GX := px_GX_SC hsc hV hS (sp := 2) (by omega)
    have g2 : fm_Groups_groupOf (fa_sc (w 0 6) + 56) 2 (f : Int) w = _ := px_groupOf GX (by omega)
    refine ⟨pf_fi f (pg_g gs t (pf_A fb t sb (gs.length + la)) si (gs.length + la) mk 2) 0, w, ?_, fun _ _ _ _ => rfl, fun w0 hN => ?_⟩
    · unfold fm_Face_function
      rw [hn, pf_bd_eq, if_pos rfl, if_neg (by decide), if_neg (by decide), if_neg (by decide), if_neg (by decide), if_neg (by decide), if_neg (by decide), if_neg (by decide), if_pos (by decide), a9, g2, Option.bind_some]
    · have GM := pm_GX_of hV hN (sp := 2) (by omega)
      have g3 : fm_Mod_groupAt 2 (f : Int) w0 = _ := pm_groupAt GM hf
      unfold fm_Mod_function_j29
      rw [thr 0 w0, pf_l2_eq, if_neg (by decide), if_neg (by decide), if_neg (by decide), if_neg (by decide), if_neg (by decide), if_neg (by decide), if_neg (by decide), if_neg (by decide), if_pos (by decide), g3, Option.bind_some]
  · have GX := px_GX_SC hsc hV hS (sp := 1) (by omega)
    have g2 : fm_Groups_groupOf (fa_sc (w 0 6) + 56) 1 (f : Int) w = _ := px_groupOf GX (by omega)
    refine ⟨pf_fi f (pg_g gs t (pf_A fb t sb (gs.length + la)) si (gs.length + la) mk 1) 0, w, ?_, fun _ _ _ _ => rfl, fun w0 hN => ?_⟩
    · unfold fm_Face_function
      rw [hn, pf_bd_eq, if_pos rfl, if_neg (by decide), if_neg (by decide), if_neg (by decide), if_neg (by decide), if_neg (by decide), if_neg (by decide), if_neg (by decide), if_neg (by decide), if_pos (by decide), a9, g2, Option.bind_some]
    · have GM := pm_GX_of hV hN (sp := 1) (by omega)
      have g3 : fm_Mod_groupAt 1 (f : Int) w0 = _ := pm_groupAt GM hf
      unfold fm_Mod_function_j29
      rw [thr 0 w0, pf_l2_eq, if_neg (by decide), if_neg (by decide), if_neg (by decide), if_neg (by decide), if_neg (by decide), if_neg (by decide), if_neg (by decide), if_neg (by decide), if_neg (by decide), if_pos (by decide), g3, Option.bind_some]
theorem lw_fn4 {gs : ps_G} {t : pt_T} {la li si nd mk f : Nat} {fb : Nat → pt_T} {sb : pf_sT} {ins os : List Nat} {w : fa_W} {b : Int} (hP : pf_PR gs t la li si nd fb sb mk) (hS : px_SC (fa_sc (w 0 6)) gs t la li si nd ins os fb sb mk w) (hf : f < gs.length + la) (hb : b = 9 ∨ b = 10 ∨ b = 11 ∨ b = 12) : lw_FN gs t la li si nd fb sb mk f b w := by
  obtain ⟨hV, hG, _, hmk, hMk⟩ := id hP
  have v1 := hV.1
  have v2 := hV.2.1
  have v3 := hV.2.2.1
  have v4 := hV.2.2.2.1
  have p24 : 2 ^ (gs.length + la) ≤ 2 ^ 24 := Nat.pow_le_pow_right (by omega) (by omega)
  have hsc := px_sK_sc (w 0 6)
  obtain ⟨a1, a2, a3, a4, a5, a6, a7, a8, a9⟩ := px_sK_all hsc
  have hn := (px_need (nf := gs.length + la) (w := w) (a := (f : Int)) (by omega) (by rw [a6]; exact hS.1.2.1.2.1) (by omega)).1 ⟨by omega, by omega⟩
  have thr : ∀ (b : Int) w0, fm_Mod_throwsIf false 2 w0 = (false, w0) := fun b w0 => by unfold fm_Mod_throwsIf; rw [if_neg (by decide)]
  obtain ⟨zz, tb, cal, rg, z1, xc, ok, lz, T3, t5, t6, t7, t8, t9, t10, t11, t12⟩ := id hS.2.2.1
  rcases hb with h | h | h | h <;> subst h
  · refine ⟨(cal f : Int), w, ?_, fun _ _ _ _ => rfl, fun w0 hN => ?_⟩
    · unfold fm_Face_function
      rw [hn, pf_bd_eq, if_pos rfl, if_neg (by decide), if_neg (by decide), if_neg (by decide), if_neg (by decide), if_neg (by decide), if_neg (by decide), if_neg (by decide), if_neg (by decide), if_neg (by decide), if_pos (by decide), a8, a3.1.2.2.1, lw_bitsAt (x := cal f) t5 hf (by rw [a3.2.2.2.2.1]; omega) (by rw [a3.2.1.2.2.1]; exact t6 f hf) (by omega)]
    · obtain ⟨_, _, _, _, _, _, cal', rg', c1, c2, c3, c4, c5⟩ := hN
      have e := pd_cal_one t8 c3 f hf
      unfold fm_Mod_function_j29
      rw [thr 0 w0, pf_l2_eq, if_neg (by decide), if_neg (by decide), if_neg (by decide), if_neg (by decide), if_neg (by decide), if_neg (by decide), if_neg (by decide), if_neg (by decide), if_neg (by decide), if_neg (by decide), if_pos (by decide), pb_ix (show f < 24 by omega) (by omega), Option.bind_some, c1 f hf, e]
  · refine ⟨pf_fi f (pf_lr (pf_ws cal (gs.length + la)) rg (gs.length + la)) 0, w, ?_, fun _ _ _ _ => rfl, fun w0 hN => ?_⟩
    · unfold fm_Face_function
      rw [hn, pf_bd_eq, if_pos rfl, if_neg (by decide), if_neg (by decide), if_neg (by decide), if_neg (by decide), if_neg (by decide), if_neg (by decide), if_neg (by decide), if_neg (by decide), if_neg (by decide), if_neg (by decide), if_pos (by decide), a8, px_ringOf a3 (by omega) (by omega) t12, Option.bind_some]
    · obtain ⟨_, _, _, _, _, _, cal', rg', c1, c2, c3, c4, c5⟩ := hN
      have e := pd_lr_one t8 c3 t11 c4
      unfold fm_Mod_function_j29
      rw [thr 0 w0, pf_l2_eq, if_neg (by decide), if_neg (by decide), if_neg (by decide), if_neg (by decide), if_neg (by decide), if_neg (by decide), if_neg (by decide), if_neg (by decide), if_neg (by decide), if_neg (by decide), if_neg (by decide), if_pos (by decide), pb_ix (show f < 24 by omega) (by omega), Option.bind_some, c5.2.1 f hf, e]
  · obtain ⟨e, e1, e2, e3⟩ := px_escapes a3 v3 hG.2.2.2.1.1 T3 xc ok lz
    refine ⟨if e.testBit f = true then 1 else 0, w, ?_, fun _ _ _ _ => rfl, fun w0 hN => ?_⟩
    · unfold fm_Face_function
      rw [hn, pf_bd_eq, if_pos rfl, if_neg (by decide), if_neg (by decide), if_neg (by decide), if_neg (by decide), if_neg (by decide), if_neg (by decide), if_neg (by decide), if_neg (by decide), if_neg (by decide), if_neg (by decide), if_neg (by decide), if_pos (by decide), a8, a6, e1, pf_hb (by omega) (by omega)]
      rfl
    · obtain ⟨_, _, _, _, _, ⟨z', z1', ⟨ok', _, _, ⟨e', x1, x2, x3⟩, _⟩, lz'⟩, _⟩ := hN
      have ee : e' = e := lw_bits x2 e2 (fun g => by rw [x3 g, e3 g, lz'.1, lz'.2.1])
      unfold fm_Mod_function_j29
      rw [thr 0 w0, pf_l2_eq, if_neg (by decide), if_neg (by decide), if_neg (by decide), if_neg (by decide), if_neg (by decide), if_neg (by decide), if_neg (by decide), if_neg (by decide), if_neg (by decide), if_neg (by decide), if_neg (by decide), if_neg (by decide), if_pos (by decide), x1, ee, pf_hd (by omega) (by omega)]
      by_cases z : e.testBit f = true
      · rw [if_pos z, if_pos z]
      · rw [if_neg z, if_neg z]
  · have hSV := px_FW_SV a3 a1 hV hG hS.1 hS.2.2.1
    refine ⟨((pd_ct (fun s => (pf_A fb t sb (gs.length + la) s).testBit f) 0 si : Nat) : Int), w, ?_, fun _ _ _ _ => rfl, fun w0 hN => ?_⟩
    · unfold fm_Face_function
      rw [hn, pf_bd_eq, if_pos rfl, if_neg (by decide), if_neg (by decide), if_neg (by decide), if_neg (by decide), if_neg (by decide), if_neg (by decide), if_neg (by decide), if_neg (by decide), if_neg (by decide), if_neg (by decide), if_neg (by decide), if_neg (by decide), if_pos (by decide), a8, a6, px_countSitesOf (by omega) v4 (by omega) hSV, Option.bind_some]
    · unfold fm_Mod_function_j29
      rw [thr 0 w0, pf_l2_eq, if_neg (by decide), if_neg (by decide), if_neg (by decide), if_neg (by decide), if_neg (by decide), if_neg (by decide), if_neg (by decide), if_neg (by decide), if_neg (by decide), if_neg (by decide), if_neg (by decide), if_neg (by decide), if_neg (by decide), pm_sitesBy (by omega) v4 (by omega) hN.2.2.1, Option.bind_some]
theorem lw_function {w : fa_W} {a b : Int} (h : lw_I w) (ba : -2147483648 ≤ a ∧ a < 2147483648) (bb : -2147483648 ≤ b ∧ b < 2147483648) : lw_R (fm_Law_function a b w) (fm_Mod_function a b) := by
  have h0 := h
  obtain ⟨gs, t, la, li, si, nd, fb, sb, mk, bs, tp, flt, hP, hB, hX, hM⟩ := h
  obtain ⟨hV, hG, _, hmk, hMk⟩ := id hP
  have v1 := hV.1
  have v2 := hV.2.1
  have s62 := lw_s62 w
  obtain ⟨⟨ins, os, hS⟩, _⟩ := id hX
  have hsc := px_sK_sc (w 0 6)
  obtain ⟨a1, a2, a3, a4, a5, a6, a7, a8, a9⟩ := px_sK_all hsc
  have nF := px_need (nf := gs.length + la) (w := w) (by omega) (by rw [a6]; exact hS.1.2.1.2.1) ba
  have fn : ∀ w1 : fa_W, pm_AN gs t la li si nd fb sb mk w1 → w1 181 17 + w1 181 18 = ((gs.length + la : Nat) : Int) := fun w1 hN => by rw [hN.1.2.1, hN.1.2.2.1]; omega
  by_cases z : pa_in (gs.length + la) a
  · have hn := nF.1 z
    obtain ⟨z1, z2⟩ := id z
    obtain ⟨f, hf⟩ : ∃ f : Nat, a = (f : Int) := ⟨a.toNat, by omega⟩
    subst hf
    have fl : f < gs.length + la := by omega
    by_cases y : pa_in 13 b
    · obtain ⟨y1, y2⟩ := id y
      have F : lw_FN gs t la li si nd fb sb mk f b w := by
        by_cases c1 : b ≤ 3
        · exact lw_fn1 hP hS fl (by omega)
        · by_cases c2 : b ≤ 5
          · exact lw_fn2 hP hS fl (by omega)
          · by_cases c3 : b ≤ 8
            · exact lw_fn3 hP hS fl (by omega)
            · exact lw_fn4 hP hS fl (by omega)
      obtain ⟨v, w1, p1, p2, p3⟩ := F
      obtain ⟨w0, hw0⟩ : ∃ w0, w0 = fa_st (fa_st w1 237 0 (fa_wr v)) 181 0 0 := ⟨_, rfl⟩
      have o0 : ∀ i j, i ≠ 5 → i ≠ 6 → i ≠ 237 → ¬ (i = 181 ∧ j = 0) → w0 i j = w i j := fun i j u1 u2 q p => by rw [hw0, fa_st_ne p, fa_st_ne (by omega), p2 i j u1 u2]
      have M1 : pm_IM gs t la li si nd fb sb mk w0 := lw_IM_ob hV hG hM.1 (fun i j p q r => o0 _ _ (by omega) (by omega) (by omega) (by omega)) (fun j p q => o0 _ _ (by omega) (by omega) (by omega) (by omega))
      have hn2 := (pm_noF (nf := gs.length + la) (w := w0) (by omega) (fn w0 M1.1) ba).1 z
      have in2 : fm_Mod_in b 0 12 w0 = true := (lw_in3 (n := 12) (w := w0) (by omega) bb).1 y
      refine lw_R0 (v := v) (w1 := w1) (u := v) (w2 := w0) ?_ ?_ ?_ ?_ rfl ⟨gs, t, la, li, si, nd, fb, sb, mk, bs, tp, flt, hP, hB, lw_X_ob hV hX (fun i j p => o0 _ _ (by omega) (by omega) (by omega) (by omega)) (fun i j p q => o0 _ _ (by omega) (by omega) (by omega) (by omega)) (fun i j p q => o0 _ _ (by omega) (by omega) (by omega) (by omega)), lw_M_ob hV hG hM (fun i j p q => o0 _ _ (by omega) (by omega) (by omega) (by omega)) (fun j p q => o0 _ _ (by omega) (by omega) (by omega) (by omega))⟩
      · unfold fm_Law_function
        rw [p1]
        rfl
      · unfold fm_Mod_function
        rw [pf_let_eq, ← hw0, hn2, pf_l2_eq, if_neg (by decide), if_pos in2]
        exact p3 w0 M1.1
      · rw [hw0, fa_st_eq]
      · rw [hw0, fa_st_ne (by omega), fa_st_eq]
    · have hn2 := (pm_noF (nf := gs.length + la) (w := fa_st w 181 0 0) (by omega) (by rw [fa_st_ne (by omega), fa_st_ne (by omega)]; exact fn w hM.1.1) ba).1 z
      have in2 : fm_Mod_in b 0 12 (fa_st w 181 0 0) = false := (lw_in3 (n := 12) (w := fa_st w 181 0 0) (by omega) bb).2 y
      have y' : ¬ (0 ≤ b ∧ b < ((13 : Nat) : Int)) := y
      refine lw_R1 (v := 2) (w1 := w) (u := 0) (w2 := fa_st (fa_st w 181 0 0) 181 0 2) ?_ (by decide) ?_ (fa_st_eq _ _ _ _) (lw_I_ob h0 (fun i j p q => by rw [fa_st_ne (by omega), fa_st_ne (by omega)]))
      · unfold fm_Law_function fm_Face_function
        rw [hn, pf_bd_eq, if_pos rfl, fa_wr_id bb.1 bb.2, if_neg (by omega), if_neg (by omega), if_neg (by omega), if_neg (by omega), if_neg (by omega), if_neg (by omega), if_neg (by omega), if_neg (by omega), if_neg (by omega), if_neg (by omega), if_neg (by omega), if_neg (by omega), if_neg (by omega)]
        rfl
      · unfold fm_Mod_function fm_Mod_function_j29 fm_Mod_throwsIf
        rw [pf_let_eq, hn2, pf_l2_eq, if_neg (by decide), if_neg (by rw [in2]; decide), if_pos rfl, pf_let_eq, pf_l2_eq, if_pos rfl]
  · have hn := nF.2 z
    have hn2 := (pm_noF (nf := gs.length + la) (w := fa_st w 181 0 0) (by omega) (by rw [fa_st_ne (by omega), fa_st_ne (by omega)]; exact fn w hM.1.1) ba).2 z
    refine lw_R1 (v := 1) (w1 := w) (u := 0) (w2 := fa_st (fa_st w 181 0 0) 181 0 1) ?_ (by decide) ?_ (fa_st_eq _ _ _ _) (lw_I_ob h0 (fun i j p q => by rw [fa_st_ne (by omega), fa_st_ne (by omega)]))
    · unfold fm_Law_function fm_Face_function
      rw [hn, pf_bd_eq]
      rfl
    · unfold fm_Mod_function
      rw [pf_let_eq, hn2, pf_l2_eq, if_pos rfl]
