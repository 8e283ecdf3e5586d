/-! run() and blame() as calls -/
theorem lw_needHow {a : Int} {w : fa_W} (ha : -2147483648 ≤ a ∧ a < 2147483648) : (pa_in 4 a → fm_Face_needHow a w = some (0, w)) ∧ (¬ pa_in 4 a → fm_Face_needHow a w = some (3, w)) := by
  unfold pa_in fm_Face_needHow fm_Face_needHow_j9
  rw [fa_wr_id ha.1 ha.2]
  refine ⟨fun h => ?_, fun h => ?_⟩
  · rw [if_neg (by omega), if_pos (by omega)]
  · by_cases z : a < 0
    · rw [if_pos z]
    · rw [if_neg z, if_neg (by omega)]
theorem lw_noHow {a : Int} {w : fa_W} (ha : -2147483648 ≤ a ∧ a < 2147483648) : (pa_in 4 a → fm_Mod_noHow a w = (false, w)) ∧ (¬ pa_in 4 a → fm_Mod_noHow a w = (true, fa_st w 181 0 1)) := by
  have this : (pa_in 4 a → fm_Mod_in a 0 3 w = true) ∧ (¬ pa_in 4 a → fm_Mod_in a 0 3 w = false) := lw_in3 (n := 3) (w := w) (by omega) ha
  refine ⟨fun h => ?_, fun h => ?_⟩
  · unfold fm_Mod_noHow fm_Mod_noHow_j15 fm_Mod_throwsIf
    rw [if_pos (this.1 h), if_neg (by decide), pf_l2_eq]
  · unfold fm_Mod_noHow fm_Mod_noHow_j15 fm_Mod_throwsIf
    rw [if_neg (show ¬ fm_Mod_in a 0 3 w = true by rw [this.2 h]; decide), if_pos rfl, pf_let_eq, pf_l2_eq]
theorem lw_run {w : fa_W} {a b : Int} (h : lw_I w) (ba : -2147483648 ≤ a ∧ a < 2147483648) (bb : -2147483648 ≤ b ∧ b < 2147483648) : lw_R (fm_Law_run a b w) (fm_Mod_run a b) := by
  have h0 := h
  obtain ⟨gs, t, la, li, si, nd, fb, sb, mk, bs, tp, flt, hP, hB, hX, hM⟩ := h
  have hV := hP.1
  have hG := hP.2.1
  by_cases z : pa_in 4 a
  · have hn := (lw_needHow (w := w) ba).1 z
    by_cases y : pa_in 5 b
    · obtain ⟨z1, z2⟩ := id z
      obtain ⟨y1, y2⟩ := id y
      obtain ⟨how, hh⟩ : ∃ how : Nat, a = (how : Int) := ⟨a.toNat, by omega⟩
      subst hh
      obtain ⟨e, he, ⟨w1, p1, pR, pX, pf⟩, hr⟩ := lw_runs (how := how) (by omega) hP hX hM
      obtain ⟨r6, r7, r8, r9, r10, _⟩ := pR
      obtain ⟨v, hv⟩ : ∃ v : Int, v = if fa_wr b = 0 then (e.1 : Int) else if fa_wr b = 1 then e.2.1 else if fa_wr b = 2 then (e.2.2.1 : Int) else if fa_wr b = 3 then (e.2.2.2.1 : Int) else (e.2.2.2.2.1 : Int) := ⟨_, rfl⟩
      have hF : fm_Face_run (how : Int) b w = some (0, v, w1) := by
        unfold fm_Face_run
        rw [hn, pf_bd_eq, if_pos rfl, fa_wr_id bb.1 bb.2, if_neg (by omega), if_pos (by omega), p1, Option.bind_some, r6, r7, r8, r9, r10, hv, fa_wr_id bb.1 bb.2]
        by_cases c0 : b = 0
        · rw [if_pos c0, if_pos c0]
        · rw [if_neg c0, if_neg c0]
          by_cases c1 : b = 1
          · rw [if_pos c1, if_pos c1]
          · rw [if_neg c1, if_neg c1]
            by_cases c2 : b = 2
            · rw [if_pos c2, if_pos c2]
            · rw [if_neg c2, if_neg c2]
              by_cases c3 : b = 3
              · rw [if_pos c3, if_pos c3]
              · rw [if_neg c3, if_neg c3]
      obtain ⟨w2, hw2⟩ : ∃ w2, w2 = fa_st (fa_st w1 237 0 (fa_wr v)) 181 0 0 := ⟨_, rfl⟩
      have o2 : ∀ i j, i ≠ 237 → ¬ (i = 181 ∧ j = 0) → w2 i j = w1 i j := fun i j p q => by rw [hw2, fa_st_ne q, fa_st_ne (by omega)]
      have I2 : pm_IM gs t la li si nd fb sb mk w2 := lw_IM_ob hV hG hM.1 (fun i j p q r => by rw [o2 _ _ (by omega) (by omega), pf i j (by omega)]) (fun j p q => by rw [o2 _ _ (by omega) (by omega), pf 181 j (by omega)])
      obtain ⟨w3, q1, ⟨s1, s2, s3, s4, s5, _⟩, q3⟩ := hr w2 I2
      have hn2 := (lw_noHow (w := w2) ba).1 z
      have in2 : fm_Mod_in b 0 4 w2 = true := (lw_in3 (n := 4) (w := w2) (by omega) bb).1 y
      refine lw_R0 (v := v) (w1 := w1) (u := v) (w2 := w3) ?_ ?_ ?_ ?_ rfl ⟨gs, t, la, li, si, nd, fb, sb, mk, bs, tp, flt, hP, hB, ?_, ?_⟩
      · unfold fm_Law_run
        rw [hF]
        rfl
      · unfold fm_Mod_run fm_Mod_run_j28 fm_Mod_throwsIf
        rw [pf_let_eq, ← hw2, hn2, pf_l2_eq, if_neg (by decide), if_pos in2, if_neg (by decide), pf_l2_eq, if_neg (by decide), q1, Option.bind_some, s1, s2, s3, s4, s5, hv]
        by_cases c0 : fa_wr b = 0
        · rw [if_pos c0, if_pos c0]
        · rw [if_neg c0, if_neg c0]
          by_cases c1 : fa_wr b = 1
          · rw [if_pos c1, if_pos c1]
          · rw [if_neg c1, if_neg c1]
            by_cases c2 : fa_wr b = 2
            · rw [if_pos c2, if_pos c2]
            · rw [if_neg c2, if_neg c2]
              by_cases c3 : fa_wr b = 3
              · rw [if_pos c3, if_pos c3]
              · rw [if_neg c3, if_neg c3]
      · rw [q3 _ _ (by omega) (by omega), hw2, fa_st_eq]
      · rw [q3 _ _ (by omega) (by omega), hw2, fa_st_ne (by omega), fa_st_eq]
      · have e3 : ∀ i j, i ≤ 180 → w3 i j = w1 i j := fun i j p => by rw [q3 _ _ (by omega) (by omega), o2 _ _ (by omega) (by omega)]
        have s62 := lw_s62 w1
        exact lw_X_ob hV pX (fun i j p => e3 i j (by omega)) (fun i j p q => e3 i j (by omega)) (fun i j p q => e3 i j (by omega))
      · exact lw_M_ob hV hG hM (fun i j p q => by rw [q3 _ _ (by omega) (by omega), o2 _ _ (by omega) (by omega), pf _ _ (by omega)]) (fun j p q => by rw [q3 _ _ (by omega) (by omega), o2 _ _ (by omega) (by omega), pf _ _ (by omega)])
    · have hn2 := (lw_noHow (w := fa_st w 181 0 0) ba).1 z
      have in2 : fm_Mod_in b 0 4 (fa_st w 181 0 0) = false := (lw_in3 (n := 4) (w := fa_st w 181 0 0) (by omega) bb).2 y
      have y' : ¬ (0 ≤ b ∧ b < ((5 : Nat) : Int)) := y
      refine lw_R1 (v := 2) (w1 := w) (u := 0) (w2 := fa_st (fa_st w 181 0 0) 181 0 2) ?_ (by decide) ?_ (fa_st_eq _ _ _ _) (lw_I_ob h0 (fun i j p q => by rw [fa_st_ne (by omega), fa_st_ne (by omega)]))
      · unfold fm_Law_run fm_Face_run fm_Face_run_j14
        rw [hn, pf_bd_eq, if_pos rfl, fa_wr_id bb.1 bb.2]
        by_cases c : b < 0
        · rw [if_pos c]; rfl
        · rw [if_neg c, if_neg (by omega)]; rfl
      · unfold fm_Mod_run fm_Mod_run_j28 fm_Mod_throwsIf
        rw [pf_let_eq, hn2, pf_l2_eq, if_neg (by decide), if_neg (by rw [in2]; decide), if_pos rfl, pf_let_eq, pf_l2_eq, if_pos rfl]
  · have hn := (lw_needHow (w := w) ba).2 z
    have hn2 := (lw_noHow (w := fa_st w 181 0 0) ba).2 z
    refine lw_R1 (v := 1) (w1 := w) (u := 0) (w2 := fa_st (fa_st w 181 0 0) 181 0 1) ?_ (by decide) ?_ (fa_st_eq _ _ _ _) (lw_I_ob h0 (fun i j p q => by rw [fa_st_ne (by omega), fa_st_ne (by omega)]))
    · unfold fm_Law_run fm_Face_run
      rw [hn, pf_bd_eq]
      rfl
    · unfold fm_Mod_run
      rw [pf_let_eq, hn2, pf_l2_eq, if_pos rfl]
theorem lw_blame {w : fa_W} {a b : Int} (h : lw_I w) (ba : -2147483648 ≤ a ∧ a < 2147483648) (bb : -2147483648 ≤ b ∧ b < 2147483648) : lw_R (fm_Law_blame a b w) (fm_Mod_blame a b) := by
  have h0 := h
  obtain ⟨gs, t, la, li, si, nd, fb, sb, mk, bs, tp, flt, hP, hB, hX, hM⟩ := h
  have hV := hP.1
  have hG := hP.2.1
  by_cases z : pa_in 4 a
  · have hn := (lw_needHow (w := w) ba).1 z
    obtain ⟨z1, z2⟩ := id z
    obtain ⟨how, hh⟩ : ∃ how : Nat, a = (how : Int) := ⟨a.toNat, by omega⟩
    subst hh
    obtain ⟨e, ⟨he1, he2, he3⟩, ⟨w1, p1, pR, pX, pf⟩, hr⟩ := lw_runs (how := how) (by omega) hP hX hM
    obtain ⟨r6, _, _, _, _, r51⟩ := pR
    have len : e.2.2.2.2.2.reverse.length = e.2.2.2.2.2.length := List.length_reverse
    obtain ⟨l, hl⟩ : ∃ l, l = e.2.2.2.2.2.reverse := ⟨_, rfl⟩
    rw [← hl] at r51 len
    obtain ⟨v, hv⟩ : ∃ v : Int, v = if 0 ≤ b ∧ b < (l.length : Int) then ((l.getD (l.length - 1 - b.toNat) 0 : Nat) : Int) else -1 := ⟨_, rfl⟩
    have hF : fm_Face_blame (how : Int) b w = some (0, v, w1) := by
      unfold fm_Face_blame fm_Machine_blamed fm_Row_size
      rw [hn, pf_bd_eq, if_pos rfl, p1, Option.bind_some, fa_wr_id bb.1 bb.2, r51.1, pb_wr (by omega), hv]
      by_cases c : 0 ≤ b ∧ b < (l.length : Int)
      · obtain ⟨c1, c2⟩ := id c
        rw [if_pos c, if_neg (by omega), if_neg (by omega), show (l.length : Int) - 1 - b = ((l.length - 1 - b.toNat : Nat) : Int) by omega, pb_at r51.1 (by omega) (by rw [show fa_cp 51 = 100 by decide +kernel]; omega), show fa_rf 51 0 = 51 + 1 by decide +kernel, r51.2 (l.length - 1 - b.toNat) (l.getD (l.length - 1 - b.toNat) 0) (by rw [List.getD_eq_getElem?_getD, List.getElem?_eq_getElem (by omega)]; rfl)]
      · rw [if_neg c]
        by_cases c1 : b < 0
        · rw [if_pos c1]
        · rw [if_neg c1, if_pos (by omega)]
    obtain ⟨w2, hw2⟩ : ∃ w2, w2 = fa_st (fa_st w1 237 0 (fa_wr v)) 181 0 0 := ⟨_, rfl⟩
    have o2 : ∀ i j, i ≠ 237 → ¬ (i = 181 ∧ j = 0) → w2 i j = w1 i j := fun i j p q => by rw [hw2, fa_st_ne q, fa_st_ne (by omega)]
    have I2 : pm_IM gs t la li si nd fb sb mk w2 := lw_IM_ob hV hG hM.1 (fun i j p q r => by rw [o2 _ _ (by omega) (by omega), pf i j (by omega)]) (fun j p q => by rw [o2 _ _ (by omega) (by omega), pf 181 j (by omega)])
    obtain ⟨w3, q1, ⟨s1, _, _, _, _, s88, s236⟩, q3⟩ := hr w2 I2
    rw [← hl] at s236
    rw [← len] at s88
    have hn2 := (lw_noHow (w := w2) ba).1 z
    refine lw_R0 (v := v) (w1 := w1) (u := v) (w2 := w3) ?_ ?_ ?_ ?_ rfl ⟨gs, t, la, li, si, nd, fb, sb, mk, bs, tp, flt, hP, hB, ?_, ?_⟩
    · unfold fm_Law_blame
      rw [hF]
      rfl
    · unfold fm_Mod_blame
      rw [pf_let_eq, ← hw2, hn2, pf_l2_eq, if_neg (by decide), q1, Option.bind_some, s1, pb_wr (by omega), s88]
      by_cases c0 : e.1 ≤ 1
      · rw [if_pos (by omega)]
        have : l = [] := by rw [hl, he2 c0]; rfl
        rw [hv, if_neg (by rw [this, List.length_nil]; omega)]
      · rw [if_neg (by omega)]
        by_cases cl0 : l.length = 0
        · have nin : fm_Mod_in b 0 ((l.length : Int) - 1) w3 = false := by
            unfold fm_Mod_in
            rw [fa_wr_id bb.1 bb.2, show fa_wr 0 = 0 from rfl, cl0]
            by_cases c1 : b < 0
            · rw [if_pos c1]
            · rw [if_neg c1, show ((0 : Nat) : Int) - 1 = -1 by omega, pb_wr1, if_pos (by omega)]
          rw [if_neg (by rw [nin]; decide), hv, if_neg (by omega)]
        · have ii := lw_in3 (n := l.length - 1) (a := b) (w := w3) (by omega) bb
          rw [show l.length - 1 + 1 = l.length by omega, show ((l.length - 1 : Nat) : Int) = (l.length : Int) - 1 by omega] at ii
          by_cases c : 0 ≤ b ∧ b < (l.length : Int)
          · obtain ⟨c1, c2⟩ := id c
            rw [if_pos (ii.1 c), show (l.length : Int) - 1 - b = ((l.length - 1 - b.toNat : Nat) : Int) by omega, pb_ix (show l.length - 1 - b.toNat < 110 by omega) (by omega), Option.bind_some, hv, if_pos c, s236 (l.length - 1 - b.toNat) (l.getD (l.length - 1 - b.toNat) 0) (by rw [List.getD_eq_getElem?_getD, List.getElem?_eq_getElem (by omega)]; rfl)]
          · rw [if_neg (by rw [ii.2 c]; decide), hv, if_neg c]
    · rw [q3 _ _ (by omega) (by omega), hw2, fa_st_eq]
    · rw [q3 _ _ (by omega) (by omega), hw2, fa_st_ne (by omega), fa_st_eq]
    · have e3 : ∀ i j, i ≤ 180 → w3 i j = w1 i j := fun i j p => by rw [q3 _ _ (by omega) (by omega), o2 _ _ (by omega) (by omega)]
      have s62 := lw_s62 w1
      exact lw_X_ob hV pX (fun i j p => e3 i j (by omega)) (fun i j p q => e3 i j (by omega)) (fun i j p q => e3 i j (by omega))
    · exact lw_M_ob hV hG hM (fun i j p q => by rw [q3 _ _ (by omega) (by omega), o2 _ _ (by omega) (by omega), pf _ _ (by omega)]) (fun j p q => by rw [q3 _ _ (by omega) (by omega), o2 _ _ (by omega) (by omega), pf _ _ (by omega)])
  · have hn := (lw_needHow (w := w) ba).2 z
    have hn2 := (lw_noHow (w := fa_st w 181 0 0) ba).2 z
    refine lw_R1 (v := 1) (w1 := w) (u := 0) (w2 := fa_st (fa_st w 181 0 0) 181 0 1) ?_ (by decide) ?_ (fa_st_eq _ _ _ _) (lw_I_ob h0 (fun i j p q => by rw [fa_st_ne (by omega), fa_st_ne (by omega)]))
    · unfold fm_Law_blame fm_Face_blame
      rw [hn, pf_bd_eq]
      rfl
    · unfold fm_Mod_blame
      rw [pf_let_eq, hn2, pf_l2_eq, if_pos rfl]
