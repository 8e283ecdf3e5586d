/-! end() in the law -/
theorem lw_end {w : fa_W} {a : Int} (h : lw_I w) (ba : -2147483648 ≤ a ∧ a < 2147483648) : ∃ b w1 w2, fm_Face_end a w = (b, w1) ∧ fm_Mod_end a w1 = (b, w2) ∧ lw_I w2 := by
  have h0 := h
  obtain ⟨gs, t, la, li, si, nd, fb, sb, mk, bs, tp, flt, hP, hB, hX, hM⟩ := h
  have hV := hP.1
  have hG := hP.2.1
  obtain ⟨hb1, hb2, hb3, hb4⟩ := id hB
  have s62 := lw_s62 w
  have X4 := hX.2.2.2.1
  have e20 : ∀ w1 : fa_W, fm_Row_size 1 w1 = w1 1 1 := fun _ => rfl
  have M2 : ∀ w1 : fa_W, w1 181 2 = w 181 2 → fa_st w1 181 0 0 181 2 = (tp.length : Int) := fun w1 e => by rw [fa_st_ne (by omega), e]; exact hM.2.2.2.1.1
  by_cases z : 0 ≤ a ∧ a ≤ (tp.length : Int)
  · obtain ⟨k, hk⟩ : ∃ k : Nat, a = (k : Int) := ⟨a.toNat, by omega⟩
    subst hk
    obtain ⟨w1, hw1⟩ : ∃ w1, w1 = fm_Row_cut 1 (k : Int) w := ⟨_, rfl⟩
    have f1 : w1 1 1 = (k : Int) ∧ ∀ i j, ¬ (i = 1 ∧ j = 1) → w1 i j = w i j := by
      rw [hw1]
      unfold fm_Row_cut
      rw [X4.1, pb_wr (by omega), pb_wr (by omega), if_neg (by omega)]
      by_cases y : k = tp.length
      · rw [if_pos (by omega)]
        exact ⟨by rw [X4.1, y], fun i j _ => rfl⟩
      · rw [if_neg (by omega), pf_let_eq]
        exact ⟨fa_st_eq _ _ _ _, fun i j p => fa_st_ne p⟩
    obtain ⟨f11, f1⟩ := f1
    have len : (tp.take k).length = k := by rw [List.length_take]; omega
    have tk : ∀ i x, (tp.take k)[i]? = some x → tp[i]? = some x := fun i x hx => by
      rw [List.getElem?_take] at hx
      by_cases y : i < k
      · rw [if_pos y] at hx; exact hx
      · rw [if_neg y] at hx; cases hx
    obtain ⟨w2, hw2⟩ : ∃ w2, w2 = fa_st (fa_st w1 181 0 0) 181 2 (k : Int) := ⟨_, rfl⟩
    have f2 : ∀ i j, ¬ (i = 181 ∧ (j = 0 ∨ j = 2)) → w2 i j = w1 i j := fun i j p => by rw [hw2, fa_st_ne (by omega), fa_st_ne (by omega)]
    have f3 : ∀ i j, ¬ (i = 1 ∧ j = 1) → ¬ (i = 181 ∧ (j = 0 ∨ j = 2)) → w2 i j = w i j := fun i j p q => (f2 i j q).trans (f1 i j p)
    refine ⟨true, w1, w2, ?_, ?_, gs, t, la, li, si, nd, fb, sb, mk, bs, tp.take k, flt, hP, ⟨hb1, by omega, fun x hx => hb3 x (List.mem_of_mem_take hx), hb4⟩, ⟨?_, ?_, ?_, ⟨?_, fun i x hx => ?_⟩, ?_, ?_⟩, ?_⟩
    · unfold fm_Face_end
      rw [e20, X4.1, pb_wr (by omega), pb_wr (by omega), if_neg (by omega), if_pos (by omega), pf_let_eq, ← hw1]
    · unfold fm_Mod_end
      rw [pf_let_eq, M2 w1 (f1 _ _ (by omega)), pb_wr (by omega), pb_wr (by omega), if_neg (by omega), if_pos (by omega), pf_let_eq, ← hw2]
    · obtain ⟨ins, os, hS⟩ := hX.1
      refine ⟨ins, os, ?_⟩
      rw [f3 0 6 (by omega) (by omega)]
      exact px_SC_ob hV (fun i j p q => f3 i j (by omega) (by omega)) hS
    · rw [f3 0 6 (by omega) (by omega), f3 0 7 (by omega) (by omega)]
      exact hX.2.1
    · exact lw_RL hX.2.2.1 (f3 _ _ (by omega) (by omega)) (fun j => f3 _ _ (by omega) (by omega))
    · rw [f2 _ _ (by omega), f11, len]
    · rw [f3 _ _ (by omega) (by omega)]
      exact X4.2 i x (tk i x hx)
    · rw [f3 _ _ (by omega) (by omega)]; exact hX.2.2.2.2.1
    · exact ⟨by rw [f3 _ _ (by omega) (by omega)]; exact hX.2.2.2.2.2.1, lw_C_ob hX.2.2.2.2.2.2 (fun i j p q => f3 i j (by omega) (by omega))⟩
    · obtain ⟨h1, h2, h3, h4, h5⟩ := hM
      exact ⟨lw_IM_ob hV hG h1 (fun i j p q _ => f3 i j (by omega) (by omega)) (fun j p q => f3 _ _ (by omega) (by omega)), pm_KT_ob (fun j => f3 _ _ (by omega) (by omega)) (f3 _ _ (by omega) (by omega)) h2, ⟨(f3 _ _ (by omega) (by omega)).trans h3.1, fun i x q => (f3 _ _ (by omega) (by omega)).trans (h3.2 i x q)⟩, ⟨by rw [hw2, fa_st_eq, len], fun i x hx => (f3 _ _ (by omega) (by omega)).trans (h4.2 i x (tk i x hx))⟩, (f3 _ _ (by omega) (by omega)).trans h5⟩
  · refine ⟨false, w, fa_st w 181 0 0, ?_, ?_, lw_I_ob h0 (fun i j p _ => fa_st_ne (by omega))⟩
    · unfold fm_Face_end
      rw [e20, X4.1, fa_wr_id ba.1 ba.2, pb_wr (by omega)]
      by_cases y : a < 0
      · rw [if_pos y]
      · rw [if_neg y, if_neg (by omega)]
    · unfold fm_Mod_end
      rw [pf_let_eq, M2 w rfl, fa_wr_id ba.1 ba.2, pb_wr (by omega)]
      by_cases y : a < 0
      · rw [if_pos y]
      · rw [if_neg y, if_neg (by omega)]
