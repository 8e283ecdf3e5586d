/-! show(), back(), take(), form() in the law -/
theorem lw_parts {w : fa_W} (h : lw_I w) : ∃ (gs : ps_G) (t : pt_T) (la li si nd : Nat) (fb : Nat → pt_T) (sb : pf_sT) (mk : Nat) (bs tp : List Nat) (flt : Int), pf_PR gs t la li si nd fb sb mk ∧ lw_B bs tp flt ∧ lw_X gs t la li si nd fb sb mk bs tp flt w ∧ lw_M gs t la li si nd fb sb mk bs tp flt w := h
theorem lw_s62 (w : fa_W) : 55 ≤ fa_sc (w 0 6) ∧ fa_sc (w 0 6) + 62 ≤ 180 ∧ 55 ≤ fa_sc (w 0 7) ∧ fa_sc (w 0 7) + 62 ≤ 180 ∧ (fa_sc (w 0 6) ≠ fa_sc (w 0 7) → fa_sc (w 0 6) + 63 ≤ fa_sc (w 0 7) ∨ fa_sc (w 0 7) + 63 ≤ fa_sc (w 0 6)) := by
  rcases px_sK_sc (w 0 6) with h | h <;> rcases px_sK_sc (w 0 7) with g | g <;> omega
theorem pw_pr_len' {gs : ps_G} {t : pt_T} {la li si nd : Nat} (M C : Nat → Bool) (hV : pn_V gs t la li si nd) : (pw_pr M C gs t).length ≤ 1900 := by
  have := pw_pr_len M C hV
  unfold pw_pr
  rw [List.length_append]
  exact this
theorem lw_show {w : fa_W} (h : lw_I w) : lw_V (fm_Face_show w) fm_Mod_show := by
  obtain ⟨gs, t, la, li, si, nd, fb, sb, mk, bs, tp, flt, hP, hB, hX, hM⟩ := h
  have hV := hP.1
  have hG := hP.2.1
  have s := lw_s62 w
  obtain ⟨⟨ins, os, hS⟩, _⟩ := id hX
  obtain ⟨w1, p1, p2, p3⟩ := px_faceShow hV hS
  have len := pw_pr_len' pw_al pw_al hV
  have M1 : pm_IM gs t la li si nd fb sb mk (fa_st w1 181 0 0) := lw_IM_ob hV hG hM.1 (fun i j p q r => by rw [fa_st_ne (by omega), p3 i j (by omega) (by omega) (by omega)]) (fun j p q => by rw [fa_st_ne (by omega), p3 181 j (by omega) (by omega) (by omega)])
  obtain ⟨w2, q1, q2, q3⟩ := pm_writesProgram (how := 0) (M := pw_al) (C := pw_al) (by omega) hV hG M1.1.1 (fun g hg w1 => by rw [if_neg (by omega)]; rfl) (fun g hg w1 => by rw [if_neg (by omega)]; rfl)
  have q1' : fm_Mod_writesProgram 0 (fa_st w1 181 0 0) = some w2 := q1
  refine ⟨_, w1, w2 181 70, w2, p1, ?_, by rw [q2.1], gs, t, la, li, si, nd, fb, sb, mk, pw_pr pw_al pw_al gs t, tp, flt, hP, ⟨by omega, hB.2⟩, ?_, ?_⟩
  · unfold fm_Mod_show
    rw [pf_let_eq, q1']
    rfl
  · exact lw_X_sh hV hX (fun i j p => by rw [q3 _ _ (by omega) (by omega), fa_st_ne (by omega), p3 i j (by omega) (by omega) (by omega)]) (fun i j p q => by rw [q3 _ _ (by omega) (by omega), fa_st_ne (by omega), p3 _ _ (by omega) (by omega) (by omega)]) (fun i j p q => by rw [q3 _ _ (by omega) (by omega), fa_st_ne (by omega), p3 _ _ (by omega) (by omega) (by omega)]) (lw_RL p2 (by rw [q3 _ _ (by omega) (by omega), fa_st_ne (by omega)]) (fun j => by rw [q3 _ _ (by omega) (by omega), fa_st_ne (by omega)]))
  · exact lw_M_sh hV hG hM (fun i j p q r => by rw [q3 _ _ (by omega) (by omega), fa_st_ne (by omega), p3 i j (by omega) (by omega) (by omega)]) (fun j p q r => by rw [q3 _ _ (by omega) (by omega), fa_st_ne (by omega), p3 _ _ (by omega) (by omega) (by omega)]) q2
theorem lw_back {w : fa_W} (h : lw_I w) : lw_V (fm_Face_back w) fm_Mod_back := by
  obtain ⟨gs, t, la, li, si, nd, fb, sb, mk, bs, tp, flt, hP, hB, hX, hM⟩ := h
  have hV := hP.1
  have hG := hP.2.1
  have s := lw_s62 w
  obtain ⟨⟨ins, os, hS⟩, h67, _⟩ := id hX
  have s67 := s.2.2.2.2 h67
  obtain ⟨cl, hC, _⟩ := pm_masks hM.1.1
  obtain ⟨w1, p1, p2, p3⟩ := px_faceBack hP (bk_H_of hP hM.1.1.1) hC h67 hS
  have len := pw_pr_len' (bk_M mk) (bk_M cl) hV
  have M1 : pm_IM gs t la li si nd fb sb mk (fa_st w1 181 0 0) := lw_IM_ob hV hG hM.1 (fun i j p q r => by rw [fa_st_ne (by omega), p3 i j (by omega) (by omega) (by omega) (by omega)]) (fun j p q => by rw [fa_st_ne (by omega), p3 181 j (by omega) (by omega) (by omega) (by omega)])
  obtain ⟨w2, q1, q2, q3⟩ := pm_writesBack hV hG M1.1 hP.2.2.2.1 hC
  refine ⟨_, w1, w2 181 70, w2, p1, ?_, by rw [q2.1], gs, t, la, li, si, nd, fb, sb, mk, pw_pr (bk_M mk) (bk_M cl) gs t, tp, flt, hP, ⟨by omega, hB.2⟩, ?_, ?_⟩
  · unfold fm_Mod_back
    rw [pf_let_eq, q1]
    rfl
  · exact lw_X_sh hV hX (fun i j p => by rw [q3 _ _ (by omega) (by omega), fa_st_ne (by omega), p3 i j (by omega) (by omega) (by omega) (by omega)]) (fun i j p q => by rw [q3 _ _ (by omega) (by omega), fa_st_ne (by omega), p3 _ _ (by omega) (by omega) (by omega) (by omega)]) (fun i j p q => by rw [q3 _ _ (by omega) (by omega), fa_st_ne (by omega), p3 _ _ (by omega) (by omega) (by omega) (by omega)]) (lw_RL p2 (by rw [q3 _ _ (by omega) (by omega), fa_st_ne (by omega)]) (fun j => by rw [q3 _ _ (by omega) (by omega), fa_st_ne (by omega)]))
  · exact lw_M_sh hV hG hM (fun i j p q r => by rw [q3 _ _ (by omega) (by omega), fa_st_ne (by omega), p3 i j (by omega) (by omega) (by omega) (by omega)]) (fun j p q r => by rw [q3 _ _ (by omega) (by omega), fa_st_ne (by omega), p3 _ _ (by omega) (by omega) (by omega) (by omega)]) q2
theorem pf_mk_one {gs : ps_G} {t : pt_T} {la mk mk' : Nat} {fb : Nat → pt_T} (hM : ∀ f, mk.testBit f = true ↔ pf_M fb t f) (hM' : ∀ f, mk'.testBit f = true ↔ pf_M fb t f) : mk = mk' := Nat.eq_of_testBit_eq fun f => by
  have a := hM f
  have b := hM' f
  cases x : mk.testBit f <;> cases y : mk'.testBit f
  · rfl
  · rw [x] at a; rw [y] at b; exact absurd (a.mpr (b.mp rfl)) (by decide)
  · rw [x] at a; rw [y] at b; exact absurd (b.mpr (a.mp rfl)) (by decide)
  · rfl
theorem lw_take {w : fa_W} (h : lw_I w) : lw_V (fm_Face_take w) fm_Mod_take := by
  obtain ⟨gs, t, la, li, si, nd, fb, sb, mk, bs, tp, flt, hP, hB, hX, hM⟩ := h
  have hV := hP.1
  have hG := hP.2.1
  have s := lw_s62 w
  obtain ⟨⟨ins, os, hS⟩, h67, _⟩ := id hX
  have s67 := s.2.2.2.2 h67
  obtain ⟨cl, hC, _⟩ := pm_masks hM.1.1
  have hH := bk_H_of hP hM.1.1.1
  obtain ⟨V', hr', _, _⟩ := bk_V hP hH hC
  obtain ⟨fb', sb', hG'⟩ := pf_G_ex V'
  obtain ⟨w1, mk1, ins', os', p1, ⟨p6, p7, p31, p45⟩, pS, p3⟩ := px_faceTake hP hH hC h67 hS hG'
  have M1 : pm_IM gs t la li si nd fb sb mk w1 := lw_IM_ob hV hG hM.1 (fun i j p q r => p3 i j (by omega) (by omega) (by omega) (by omega)) (fun j p q => p3 181 j (by omega) (by omega) (by omega) (by omega))
  obtain ⟨w2, mk2, q1, q2, q70, q3, q4, q5, q6, q7⟩ := pm_take hP hH hC M1 hG'
  have em : mk1 = mk2 := pf_mk_one (gs := gs) (la := la) pS.2.2.2.1.2 q3.2
  subst em
  refine ⟨_, w1, _, w2, p1, q1, rfl, _, _, _, _, _, _, fb', sb', mk1, [], tp, flt, ⟨V', hG', hr', q3⟩, ⟨Nat.zero_le _, hB.2⟩, ⟨⟨ins', os', ?_⟩, ?_, ⟨?_, fun i x e => by cases e⟩, lw_RL hX.2.2.2.1 ?_ (fun j => ?_), ?_, ?_⟩, q4, q5, ⟨q70, fun i x e => by cases e⟩, ⟨?_, fun i x e => ?_⟩, ?_⟩
  · rw [q7 0 6 (by omega), p6]
    exact px_SC_ob V' (fun i j a b => q7 i j (by omega)) pS
  · rw [q7 0 6 (by omega), q7 0 7 (by omega), p6, p7]
    exact fun e => h67 e.symm
  · rw [q7 3 1 (by omega), p31]; rfl
  · rw [q7 1 1 (by omega), p3 _ _ (by omega) (by omega) (by omega) (by omega)]
  · rw [q7 _ j (by omega), p3 _ _ (by omega) (by omega) (by omega) (by omega)]
  · rw [q7 _ _ (by omega), p3 _ _ (by omega) (by omega) (by omega) (by omega)]
    exact hX.2.2.2.2.1
  · refine ⟨?_, Or.inl ?_⟩
    · rw [q7 _ _ (by omega), p3 _ _ (by omega) (by omega) (by omega) (by omega)]
      exact hX.2.2.2.2.2.1
    · rw [q7 _ _ (by omega)]; exact p45
  · rw [q6 2 (by omega), p3 _ _ (by omega) (by omega) (by omega) (by omega)]
    exact hM.2.2.2.1.1
  · rw [q7 182 i (by omega), p3 _ _ (by omega) (by omega) (by omega) (by omega)]
    exact hM.2.2.2.1.2 i x e
  · rw [q6 69 (by omega), p3 _ _ (by omega) (by omega) (by omega) (by omega)]
    exact hM.2.2.2.2
