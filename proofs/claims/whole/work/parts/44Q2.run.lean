/-! site() in the law -/
theorem lw_siteGroup {nf s A : Nat} {l : List Nat} {w : fa_W} (hX : pm_GX nf 2 l w) (hs : s < 101) (h209 : w 209 s = (A : Int)) (hA : A < 2 ^ nf) : fm_Mod_siteGroup (s : Int) w = some (if A = 0 then -1 else pf_fi (pw_lo A 24 0) l 0) := by
  have h24 := hX.1
  have A24 : A < 2 ^ 24 := Nat.lt_of_lt_of_le hA (Nat.pow_le_pow_right (by omega) h24)
  have eF : fm_Mod_functions w = (nf : Int) := hX.2.2.2.2.2.1
  have key : ∀ (d x F : Nat), x + d = nf → d < F → (∀ q, q < x → A.testBit q = false) → fm_Mod_siteGroup_l2 (s : Int) w F (x : Int) = some (if A = 0 then -1 else pf_fi (pw_lo A 24 0) l 0) := by
    intro d
    induction d with
    | zero =>
      intro x F hx hF hn
      obtain ⟨F, rfl⟩ : ∃ n, F = n + 1 := ⟨F - 1, by omega⟩
      have A0 : A = 0 := by
        rcases Nat.eq_zero_or_pos A with z | z
        · exact z
        · obtain ⟨k, k1, k2, k3, _⟩ := pf_lowest A24 z w
          by_cases y : k < x
          · rw [hn k y] at k2; cases k2
          · rw [Nat.testBit_lt_two_pow (Nat.lt_of_lt_of_le hA (Nat.pow_le_pow_right (by omega) (by omega)))] at k2
            cases k2
      unfold fm_Mod_siteGroup_l2
      rw [eF, pb_wr (by omega), pb_wr (by omega), if_pos (by omega), if_pos A0]
    | succ d ih =>
      intro x F hx hF hn
      obtain ⟨F, rfl⟩ : ∃ n, F = n + 1 := ⟨F - 1, by omega⟩
      unfold fm_Mod_siteGroup_l2
      rw [eF, pb_wr (by omega), pb_wr (by omega), if_neg (by omega), pb_ix hs (by omega), Option.bind_some, h209, pf_hd (by omega) (by omega)]
      by_cases z : A.testBit x = true
      · have A0 : ¬ A = 0 := fun e => by rw [e, Nat.zero_testBit] at z; cases z
        have eg : fm_Mod_groupAt 2 (x : Int) w = some (pf_fi x l 0) := pm_groupAt hX (by omega)
        rw [if_pos z, if_neg A0, eg, pw_lo_eq z hn 24 0 (by omega) (by omega), Option.bind_some]
      · rw [if_neg z, pf_let_eq]
        exact ih (x + 1) F (by omega) (by omega) (fun q hq => by
          by_cases y : q = x
          · rw [y]; cases e : A.testBit x with
            | false => rfl
            | true => exact absurd e z
          · exact hn q (by omega))
  unfold fm_Mod_siteGroup
  exact key nf 0 fa_FU (by omega) (by unfold fa_FU; omega) (fun q hq => by omega)
theorem lw_site {w : fa_W} {a b : Int} (h : lw_I w) (ba : -2147483648 ≤ a ∧ a < 2147483648) (bb : -2147483648 ≤ b ∧ b < 2147483648) : lw_R (fm_Law_site a b w) (fm_Mod_site a b) := by
  have h0 := h
  obtain ⟨gs, t, la, li, si, nd, fb, sb, mk, bs, tp, flt, hP, hB, hX, hM⟩ := h
  obtain ⟨hV, hG, _, hmk, hMk⟩ := id hP
  have v1 := hV.1
  have v2 := hV.2.1
  have v4 := hV.2.2.2.1
  have p24 : 2 ^ (gs.length + la) ≤ 2 ^ 24 := Nat.pow_le_pow_right (by omega) (by omega)
  obtain ⟨⟨ins, os, hS⟩, _⟩ := id hX
  have hsc := px_sK_sc (w 0 6)
  obtain ⟨a1, a2, a3, a4, a5, a6, a7, a8, a9⟩ := px_sK_all hsc
  have hSV := px_FW_SV a3 a1 hV hG hS.1 hS.2.2.1
  have s20 : ∀ w0 : fa_W, pm_AN gs t la li si nd fb sb mk w0 → (pa_in si a → fm_Mod_in a 0 (w0 181 20 - 1) w0 = true) ∧ (¬ pa_in si a → fm_Mod_in a 0 (w0 181 20 - 1) w0 = false) := fun w0 hN => by
    rw [hN.2.2.1.1]
    by_cases cl0 : si = 0
    · refine ⟨fun q => ?_, fun _ => ?_⟩
      · obtain ⟨q1, q2⟩ := q; omega
      · unfold fm_Mod_in
        rw [fa_wr_id ba.1 ba.2, show fa_wr 0 = 0 from rfl, cl0]
        by_cases c1 : a < 0
        · rw [if_pos c1]
        · rw [if_neg c1, show ((0 : Nat) : Int) - 1 = -1 by omega, pb_wr1, if_pos (by omega)]
    · have ii := lw_in3 (n := si - 1) (a := a) (w := w0) (by omega) ba
      rw [show si - 1 + 1 = si by omega, show ((si - 1 : Nat) : Int) = (si : Int) - 1 by omega] at ii
      exact ii
  by_cases z : pa_in si a
  · obtain ⟨z1, z2⟩ := id z
    obtain ⟨s, hs⟩ : ∃ s : Nat, a = (s : Int) := ⟨a.toNat, by omega⟩
    subst hs
    have sl : s < si := by omega
    obtain ⟨i, x1, x2, x3, x4, x5, x6⟩ := hSV.2 s sl
    obtain ⟨A, hA⟩ : ∃ A, A = pf_A fb t sb (gs.length + la) s := ⟨_, rfl⟩
    have Alt : A < 2 ^ (gs.length + la) := by rw [hA]; exact pf_num_lt _ _
    have lk0 : pf_lkb fb t sb s = false → A = 0 := fun e => by
      rcases Nat.eq_zero_or_pos A with y | y
      · exact y
      · obtain ⟨k, _, k2, _⟩ := pf_lowest (m := A) (by omega) y w
        rw [hA] at k2
        have := ((pf_num_bit _ _ _).mp k2).2.1
        unfold pf_lkb at e
        exact absurd this (@of_decide_eq_false _ (Classical.propDecidable _) e)
    rw [← hA] at x2
    obtain ⟨l, hl⟩ : ∃ l, l = pg_g gs t (pf_A fb t sb (gs.length + la)) si (gs.length + la) mk 2 := ⟨_, rfl⟩
    have GX := px_GX_SC hsc hV hS (sp := 2) (by omega)
    rw [← hl] at GX
    have eG : fm_Groups_groupOf (fa_sc (w 0 6) + 56) 2 (fm_Face_lowest (A : Int) w) w = some (if A = 0 then -1 else pf_fi (pw_lo A 24 0) l 0) := by
      by_cases y : A = 0
      · rw [if_pos y, y, show ((0 : Nat) : Int) = 0 from rfl, pf_lowest0]
        exact px_groupOf_neg GX
      · obtain ⟨k, k1, k2, k3, k4⟩ := pf_lowest (m := A) (by omega) (by omega) w
        rw [if_neg y, k4, pw_lo_eq k2 k3 24 0 (by omega) (by omega)]
        exact px_groupOf GX k1
    obtain ⟨v, hv⟩ : ∃ v : Int, v = if b = 0 then (sb s).1 else if b = 1 then (A : Int) else if b = 2 then ((pf_B fb t sb (gs.length + la) s : Nat) : Int) else if b = 3 then ((pf_Cn fb t sb (gs.length + la) s : Nat) : Int) else if b = 4 then (if A = 0 then -1 else pf_fi (pw_lo A 24 0) l 0) else if b = 5 then (if pf_pop A = 1 then 1 else 0) else (if pf_lkb fb t sb s = true then 1 else 0) := ⟨_, rfl⟩
    have hpop := pf_pop_le A
    by_cases y : pa_in 7 b
    · obtain ⟨y1, y2⟩ := id y
      have hF : fm_Face_site (s : Int) b w = some (0, v, w) := by
        unfold fm_Face_site
        rw [a6, a8, a9, hSV.1, pb_wr (by omega), pb_wr (by omega), if_neg (by omega), if_pos (by omega), x1, pf_let_eq, x2, pf_let_eq, x3, x4, x5, x6, eG, pf_bitCount (by omega), pb_wr (show pf_pop A < 2147483648 by omega), fa_wr_id bb.1 bb.2, hv, Option.bind_some]
        by_cases c0 : b = 0
        · rw [if_pos c0, if_pos c0]
        · rw [if_neg c0, if_neg c0]
          by_cases c1 : b = 1
          · rw [if_pos c1, if_pos c1]
          · rw [if_neg c1, if_neg c1]
            by_cases c2 : b = 2
            · rw [if_pos c2, if_pos c2]
            · rw [if_neg c2, if_neg c2]
              by_cases c3 : b = 3
              · rw [if_pos c3, if_pos c3]
              · rw [if_neg c3, if_neg c3]
                by_cases c4 : b = 4
                · rw [if_pos c4, if_pos c4]
                · rw [if_neg c4, if_neg c4]
                  by_cases c5 : b = 5
                  · rw [if_pos c5, if_pos c5]
                    unfold fm_Face_site_j195
                    by_cases q : pf_pop A = 1
                    · rw [if_pos q, if_pos (by omega)]; rfl
                    · rw [if_neg q, if_neg (by omega)]; rfl
                  · rw [if_neg c5, if_neg c5, if_pos (by omega)]
                    cases pf_lkb fb t sb s
                    · rw [if_neg (by decide)]; rfl
                    · rw [if_pos rfl]; rfl
      obtain ⟨w0, hw0⟩ : ∃ w0, w0 = fa_st (fa_st w 237 0 (fa_wr v)) 181 0 0 := ⟨_, rfl⟩
      have o0 : ∀ i j, i ≠ 237 → ¬ (i = 181 ∧ j = 0) → w0 i j = w i j := fun i j q p => by rw [hw0, fa_st_ne p, fa_st_ne (by omega)]
      have M1 : pm_IM gs t la li si nd fb sb mk w0 := lw_IM_ob hV hG hM.1 (fun i j p q r => o0 _ _ (by omega) (by omega)) (fun j p q => o0 _ _ (by omega) (by omega))
      have GM := pm_GX_of hV M1.1 (sp := 2) (by omega)
      rw [← hl] at GM
      obtain ⟨g1, g2, g3, g4, g5⟩ := M1.1.2.2.1.2 s sl
      rw [← hA] at g2
      have sg := lw_siteGroup (s := s) GM (by omega) g2 Alt
      have in2 : fm_Mod_in b 0 6 w0 = true := (lw_in3 (n := 6) (w := w0) (by omega) bb).1 y
      refine lw_R0 (v := v) (w1 := w) (u := v) (w2 := w0) ?_ ?_ ?_ ?_ rfl (lw_I_ob h0 (fun i j p q => o0 i j (by omega) (by omega)))
      · unfold fm_Law_site
        rw [hF]
        rfl
      · unfold fm_Mod_site fm_Mod_site_j25 fm_Mod_site_j48 fm_Mod_throwsIf
        rw [pf_let_eq, ← hw0, if_pos ((s20 w0 M1.1).1 z), if_neg (by decide), pf_l2_eq, if_neg (by decide), if_pos in2, if_neg (by decide), pf_l2_eq, if_neg (by decide), pb_ix (show s < 101 by omega) (by omega)]
        simp only [Option.bind_some]
        rw [g1, g2, g3, g4, sg, g5, pf_bits (by omega), fa_wr_id bb.1 bb.2, hv]
        simp only [Option.bind_some]
        rw [pb_wr (show pf_pop A < 2147483648 by omega)]
        by_cases c0 : b = 0
        · rw [if_pos c0, if_pos c0]
        · rw [if_neg c0, if_neg c0]
          by_cases c1 : b = 1
          · rw [if_pos c1, if_pos c1]
          · rw [if_neg c1, if_neg c1]
            by_cases c2 : b = 2
            · rw [if_pos c2, if_pos c2]
            · rw [if_neg c2, if_neg c2]
              by_cases c3 : b = 3
              · rw [if_pos c3, if_pos c3]
              · rw [if_neg c3, if_neg c3]
                by_cases c4 : b = 4
                · rw [if_pos c4, if_pos c4]
                · rw [if_neg c4, if_neg c4]
                  by_cases c5 : b = 5
                  · rw [if_pos c5, if_pos c5]
                    cases e : pf_lkb fb t sb s with
                    | true =>
                      rw [if_pos (by decide)]
                      by_cases q : pf_pop A = 1
                      · rw [if_pos q, if_pos (by omega)]
                      · rw [if_neg q, if_neg (by omega)]
                    | false =>
                      rw [if_neg (by decide), if_neg (by rw [lk0 e, pf_pop_0]; omega)]
                  · rw [if_neg c5, if_neg c5]
                    cases pf_lkb fb t sb s
                    · rw [if_neg (by decide), if_neg (by decide)]
                    · rw [if_pos (by decide), if_pos rfl]
      · rw [hw0, fa_st_eq]
      · rw [hw0, fa_st_ne (by omega), fa_st_eq]
    · obtain ⟨w0, hw0⟩ : ∃ w0, w0 = fa_st w 181 0 0 := ⟨_, rfl⟩
      have o0 : ∀ i j, ¬ (i = 181 ∧ j = 0) → w0 i j = w i j := fun i j p => by rw [hw0, fa_st_ne p]
      have M1 : pm_IM gs t la li si nd fb sb mk w0 := lw_IM_ob hV hG hM.1 (fun i j p q r => o0 _ _ (by omega)) (fun j p q => o0 _ _ (by omega))
      have in2 : fm_Mod_in b 0 6 w0 = false := (lw_in3 (n := 6) (w := w0) (by omega) bb).2 y
      have y' : ¬ (0 ≤ b ∧ b < ((7 : Nat) : Int)) := y
      refine lw_R1 (v := 2) (w1 := w) (u := 0) (w2 := fa_st w0 181 0 2) ?_ (by decide) ?_ (fa_st_eq _ _ _ _) (lw_I_ob h0 (fun i j p q => by rw [fa_st_ne (by omega), o0 _ _ (by omega)]))
      · unfold fm_Law_site fm_Face_site
        rw [a6, hSV.1, pb_wr (by omega), pb_wr (by omega), if_neg (by omega), if_pos (by omega), pf_let_eq, pf_let_eq, fa_wr_id bb.1 bb.2, if_neg (by omega), if_neg (by omega), if_neg (by omega), if_neg (by omega), if_neg (by omega), if_neg (by omega), if_neg (by omega)]
        rfl
      · unfold fm_Mod_site fm_Mod_site_j25 fm_Mod_site_j48 fm_Mod_throwsIf
        rw [pf_let_eq, ← hw0, if_pos ((s20 w0 M1.1).1 z), if_neg (by decide), pf_l2_eq, if_neg (by decide), if_neg (by rw [in2]; decide), if_pos rfl, pf_let_eq, pf_l2_eq, if_pos rfl]
  · obtain ⟨w0, hw0⟩ : ∃ w0, w0 = fa_st w 181 0 0 := ⟨_, rfl⟩
    have o0 : ∀ i j, ¬ (i = 181 ∧ j = 0) → w0 i j = w i j := fun i j p => by rw [hw0, fa_st_ne p]
    have M1 : pm_IM gs t la li si nd fb sb mk w0 := lw_IM_ob hV hG hM.1 (fun i j p q r => o0 _ _ (by omega)) (fun j p q => o0 _ _ (by omega))
    have z' : ¬ (0 ≤ a ∧ a < (si : Int)) := z
    refine lw_R1 (v := 1) (w1 := w) (u := 0) (w2 := fa_st w0 181 0 1) ?_ (by decide) ?_ (fa_st_eq _ _ _ _) (lw_I_ob h0 (fun i j p q => by rw [fa_st_ne (by omega), o0 _ _ (by omega)]))
    · unfold fm_Law_site fm_Face_site fm_Face_site_j18
      rw [a6, hSV.1, fa_wr_id ba.1 ba.2, pb_wr (by omega)]
      by_cases c : a < 0
      · rw [if_pos c]; rfl
      · rw [if_neg c, if_neg (by omega)]; rfl
    · unfold fm_Mod_site fm_Mod_site_j25 fm_Mod_throwsIf
      rw [pf_let_eq, ← hw0, if_neg (by rw [(s20 w0 M1.1).2 z]; decide), if_pos rfl, pf_let_eq, pf_l2_eq, if_pos rfl]
