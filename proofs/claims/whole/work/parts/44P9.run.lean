/-! type() and typeOfMain() in the law -/
def lw_tx (b : pv_T) : List Nat := (pv_pr b []).1.take 300
theorem lw_tx_len (b : pv_T) : (lw_tx b).length ≤ 300 := by unfold lw_tx; rw [List.length_take]; omega
theorem px_typeF {sc f : Nat} {gs : ps_G} {t : pt_T} {la li si nd mk : Nat} {ins os : List Nat} {fb : Nat → pt_T} {sb : pf_sT} {w : fa_W} (hsc : px_sK sc) (hX : px_SC sc gs t la li si nd ins os fb sb mk w) (hf : f < gs.length + la) : ∃ b w', fm_Writer_showType (sc + 28) (fr_at (fa_rf (sc + 28) 6) (f : Int) w) w = some (((lw_tx b).length : Int), w') ∧ px_RL 3 (lw_tx b) w' ∧ (∀ i j, i ≠ 3 → i ≠ 4 → ¬ (38 ≤ i ∧ i ≤ 41) → w' i j = w i j) ∧ pv_prin gs t (fun r => r.2.1 f) b := by
  obtain ⟨_, hto, _⟩ := px_sK_all hsc
  have s54 : 54 < sc := by rcases hsc with h | h <;> omega
  obtain ⟨T, up, ar, R, l, N, qm, sh, rk, hU, hI, ⟨_, _, t1, t2⟩, h24, hn, _, _, hQ, _, _, _, hac⟩ := hX.2.1
  obtain ⟨rk', hac', hb⟩ := pu_ac_bd hI hac
  have hqf := hQ.2.1 f hf
  have ef : fr_at (fa_rf (sc + 28) 6) (f : Int) w = ((76 + 2 * f : Nat) : Int) := by
    rw [hto.1.2.2.2.2.2.2.1, pb_at t1 hf (by rw [hto.2.2.2.2.2.2.2.2.1]; omega), hto.2.1.2.2.2.2.2.2.1]
    exact t2 f hf
  rw [ef]
  obtain ⟨w', p1, p2, p3⟩ := px_showT hto (by omega) hI hac' (M := T + 1) (fun k _ => by have := hb k; omega) hU (q := 76 + 2 * f) hqf
  exact ⟨_, w', p1, p2, p3, pu_Q_pf hI hQ hac' (fun k _ => by have := hb k; omega) hf⟩
theorem px_typeM {sc : Nat} {gs : ps_G} {t : pt_T} {la li si nd mk : Nat} {ins os : List Nat} {fb : Nat → pt_T} {sb : pf_sT} {w : fa_W} (hsc : px_sK sc) (hX : px_SC sc gs t la li si nd ins os fb sb mk w) : ∃ b w', fm_Writer_showType (sc + 28) (fr_at (fa_rf (sc + 28) 4) (w (sc + 1) 16) w) w = some (((lw_tx b).length : Int), w') ∧ px_RL 3 (lw_tx b) w' ∧ (∀ i j, i ≠ 3 → i ≠ 4 → ¬ (38 ≤ i ∧ i ≤ 41) → w' i j = w i j) ∧ pv_prin gs t (fun r => pv_t r t) b := by
  obtain ⟨_, hto, _⟩ := px_sK_all hsc
  have s54 : 54 < sc := by rcases hsc with h | h <;> omega
  obtain ⟨T, up, ar, R, l, N, qm, sh, rk, hU, hI, _, h24, hn, t9, ⟨jm, j1, j2, j3⟩, hQ, _, _, _, hac⟩ := hX.2.1
  obtain ⟨rk', hac', hb⟩ := pu_ac_bd hI hac
  have hqf := hQ.1
  have ef : fr_at (fa_rf (sc + 28) 4) (w (sc + 1) 16) w = (qm : Int) := by
    rw [j1, hto.1.2.2.2.2.1, pb_at t9 j2 (by rw [hto.2.2.2.2.2.2.1]; exact hn), hto.2.1.2.2.2.2.1]
    exact j3
  rw [ef]
  obtain ⟨w', p1, p2, p3⟩ := px_showT hto (by omega) hI hac' (M := T + 1) (fun k _ => by have := hb k; omega) hU (q := qm) hqf
  exact ⟨_, w', p1, p2, p3, pu_Q_pm hI hQ hac' (fun k _ => by have := hb k; omega)⟩
theorem pm_typeF {f : Nat} {gs : ps_G} {t : pt_T} {nf nd : Nat} {w : fa_W} (hT : pm_TV gs t nf nd w) (hf : f < nf) : ∃ b w', fm_Mod_showsType (w 206 f) w = some (((lw_tx b).length : Int), w') ∧ pm_O (lw_tx b) w' ∧ pm_wq w w' ∧ pv_prin gs t (fun r => r.2.1 f) b := by
  obtain ⟨T, up, ar, R, l, N, rk, hU, hI, t1, t2, hn, h24, hn0, hT2, hQ, hac⟩ := hT
  obtain ⟨rk', hac', hb⟩ := pu_ac_bd hI hac
  rw [t2 f hf]
  obtain ⟨w', p1, p2, p3⟩ := pm_showT hI hac' hb (M := T + 1) (fun k _ => by have := hb k; omega) hU (k := 125 + nd + f) (by omega)
  exact ⟨_, w', p1, p2, p3, pu_Q_pf hI hQ hac' (fun k _ => by have := hb k; omega) hf⟩
theorem pm_typeM {gs : ps_G} {t : pt_T} {nf nd : Nat} {w : fa_W} (hT : pm_TV gs t nf nd w) : nd - 1 < 100 ∧ ∃ b w', fm_Mod_showsType (w 203 (nd - 1)) w = some (((lw_tx b).length : Int), w') ∧ pm_O (lw_tx b) w' ∧ pm_wq w w' ∧ pv_prin gs t (fun r => pv_t r t) b := by
  obtain ⟨T, up, ar, R, l, N, rk, hU, hI, t1, t2, hn, h24, hn0, hT2, hQ, hac⟩ := hT
  obtain ⟨rk', hac', hb⟩ := pu_ac_bd hI hac
  refine ⟨by omega, ?_⟩
  rw [t1 (nd - 1) (by omega)]
  obtain ⟨w', p1, p2, p3⟩ := pm_showT hI hac' hb (M := T + 1) (fun k _ => by have := hb k; omega) hU (k := 125 + (nd - 1)) (by omega)
  exact ⟨_, w', p1, p2, p3, pu_Q_pm hI hQ hac' (fun k _ => by have := hb k; omega)⟩
theorem lw_typeOfMain {w : fa_W} (h : lw_I w) : lw_V (fm_Face_typeOfMain w) fm_Mod_typeOfMain := by
  obtain ⟨gs, t, la, li, si, nd, fb, sb, mk, bs, tp, flt, hP, hB, hX, hM⟩ := h
  have hV := hP.1
  have hG := hP.2.1
  have s := lw_s62 w
  obtain ⟨⟨ins, os, hS⟩, _⟩ := id hX
  obtain ⟨a1, a2, a3, a4, a5, a6, a7, a8, a9⟩ := px_sK_all (px_sK_sc (w 0 6))
  obtain ⟨b, w1, p1, p2, p3, p4⟩ := px_typeM (px_sK_sc (w 0 6)) hS
  obtain ⟨w0, hw0⟩ : ∃ w0, w0 = fa_st w1 181 0 0 := ⟨_, rfl⟩
  have o0 : ∀ i j, ¬ (i = 181 ∧ j = 0) → w0 i j = w1 i j := fun i j p => by rw [hw0, fa_st_ne p]
  have M1 : pm_IM gs t la li si nd fb sb mk w0 := lw_IM_ob hV hG hM.1 (fun i j p q r => by rw [o0 _ _ (by omega), p3 i j (by omega) (by omega) (by omega)]) (fun j p q => by rw [o0 _ _ (by omega), p3 181 j (by omega) (by omega) (by omega)])
  obtain ⟨nd1, b', w2, q1, q2, q3, q4⟩ := pm_typeM M1.1.2.1
  have eb : lw_tx b' = lw_tx b := by unfold lw_tx; rw [pv_prin_pr p4 q4]
  rw [eb] at q1 q2
  have e21 := M1.1.1.2.2.2.2.2.1
  have len := lw_tx_len b
  refine ⟨((lw_tx b).length : Int), w1, ((lw_tx b).length : Int), w2, ?_, ?_, rfl, gs, t, la, li, si, nd, fb, sb, mk, lw_tx b, tp, flt, hP, ⟨by omega, hB.2⟩, ?_, ?_⟩
  · unfold fm_Face_typeOfMain
    rw [a7, a6, p1, pf_bd_eq]
  · unfold fm_Mod_typeOfMain
    rw [pf_let_eq, ← hw0, e21, pb_ix (show nd - 1 < 101 by omega) (by omega), Option.bind_some, q1, pf_bd_eq]
  · exact lw_X_sh hV hX (fun i j p => by rw [q3 _ _ (by omega) (by omega) (by omega), o0 _ _ (by omega), p3 i j (by omega) (by omega) (by omega)]) (fun i j p q => by rw [q3 _ _ (by omega) (by omega) (by omega), o0 _ _ (by omega), p3 _ _ (by omega) (by omega) (by omega)]) (fun i j p q => by rw [q3 _ _ (by omega) (by omega) (by omega), o0 _ _ (by omega), p3 _ _ (by omega) (by omega) (by omega)]) (lw_RL p2 (by rw [q3 _ _ (by omega) (by omega) (by omega), o0 _ _ (by omega)]) (fun j => by rw [q3 _ _ (by omega) (by omega) (by omega), o0 _ _ (by omega)]))
  · obtain ⟨h1, h2, h3, h4, h5⟩ := hM
    have f : ∀ i j, 181 ≤ i → i ≠ 197 → i ≠ 225 → ¬ (i = 181 ∧ (j = 0 ∨ j = 70 ∨ j = 74)) → w2 i j = w i j := fun i j p0 p1 p2 p4 => by rw [q3 _ _ p1 p2 (by omega), o0 _ _ (by omega), p3 i j (by omega) (by omega) (by omega)]
    exact ⟨lw_IM_ob hV hG h1 (fun i j p q r => f i j (by omega) r (by omega) (by omega)) (fun j p q => f _ _ (by omega) (by omega) (by omega) (by omega)), pm_KT_ob (fun j => f _ _ (by omega) (by omega) (by omega) (by omega)) (f _ _ (by omega) (by omega) (by omega) (by omega)) h2, q2, ⟨(f _ _ (by omega) (by omega) (by omega) (by omega)).trans h4.1, fun i x q => (f _ _ (by omega) (by omega) (by omega) (by omega)).trans (h4.2 i x q)⟩, (f _ _ (by omega) (by omega) (by omega) (by omega)).trans h5⟩
theorem lw_type {w : fa_W} {a : Int} (h : lw_I w) (ba : -2147483648 ≤ a ∧ a < 2147483648) : lw_R (fm_Law_type a w) (fm_Mod_type1 a) := by
  have h0 := h
  obtain ⟨gs, t, la, li, si, nd, fb, sb, mk, bs, tp, flt, hP, hB, hX, hM⟩ := h
  have hV := hP.1
  have hG := hP.2.1
  have v1 := hV.1
  have v2 := hV.2.1
  have s := lw_s62 w
  obtain ⟨⟨ins, os, hS⟩, _⟩ := id hX
  obtain ⟨a1, a2, a3, a4, a5, a6, a7, a8, a9⟩ := px_sK_all (px_sK_sc (w 0 6))
  have nF := px_need (nf := gs.length + la) (w := w) (by omega) (by rw [a6]; exact hS.1.2.1.2.1) ba
  have fn : ∀ w1 : fa_W, pm_AN gs t la li si nd fb sb mk w1 → w1 181 17 + w1 181 18 = ((gs.length + la : Nat) : Int) := fun w1 hN => by rw [hN.1.2.1, hN.1.2.2.1]; omega
  by_cases z : pa_in (gs.length + la) a
  · have hn := nF.1 z
    obtain ⟨z1, z2⟩ := id z
    obtain ⟨f, hf⟩ : ∃ f : Nat, a = (f : Int) := ⟨a.toNat, by omega⟩
    subst hf
    have hfl : f < gs.length + la := by omega
    obtain ⟨b, w1, p1, p2, p3, p4⟩ := px_typeF (px_sK_sc (w 0 6)) hS hfl
    obtain ⟨v, hv⟩ : ∃ v : Int, v = ((lw_tx b).length : Int) := ⟨_, rfl⟩
    rw [← hv] at p1
    obtain ⟨w0, hw0⟩ : ∃ w0, w0 = fa_st (fa_st w1 237 0 (fa_wr v)) 181 0 0 := ⟨_, rfl⟩
    have o0 : ∀ i j, i ≠ 237 → ¬ (i = 181 ∧ j = 0) → w0 i j = w1 i j := fun i j q p => by rw [hw0, fa_st_ne p, fa_st_ne (by omega)]
    have M1 : pm_IM gs t la li si nd fb sb mk w0 := lw_IM_ob hV hG hM.1 (fun i j p q r => by rw [o0 _ _ (by omega) (by omega), p3 i j (by omega) (by omega) (by omega)]) (fun j p q => by rw [o0 _ _ (by omega) (by omega), p3 181 j (by omega) (by omega) (by omega)])
    obtain ⟨b', w2, q1, q2, q3, q4⟩ := pm_typeF M1.1.2.1 hfl
    have eb : lw_tx b' = lw_tx b := by unfold lw_tx; rw [pv_prin_pr p4 q4]
    rw [eb] at q1 q2
    rw [← hv] at q1
    have len := lw_tx_len b
    have hn2 := (pm_noF (nf := gs.length + la) (w := w0) (by omega) (fn w0 M1.1) ba).1 z
    refine lw_R0 (v := v) (w1 := w1) (u := v) (w2 := w2) ?_ ?_ ?_ ?_ rfl ⟨gs, t, la, li, si, nd, fb, sb, mk, lw_tx b, tp, flt, hP, ⟨by omega, hB.2⟩, ?_, ?_⟩
    · unfold fm_Law_type fm_Face_type
      rw [hn, pf_bd_eq, if_pos rfl, a7, p1, pf_bd_eq]
      rfl
    · unfold fm_Mod_type1
      rw [pf_let_eq, ← hw0, hn2, pf_l2_eq, if_neg (by decide), pb_ix (show f < 24 by omega) (by omega), Option.bind_some, q1, pf_bd_eq]
    · rw [q3 _ _ (by omega) (by omega) (by omega), hw0, fa_st_eq]
    · rw [q3 _ _ (by omega) (by omega) (by omega), hw0, fa_st_ne (by omega), fa_st_eq]
    · exact lw_X_sh hV hX (fun i j p => by rw [q3 _ _ (by omega) (by omega) (by omega), o0 _ _ (by omega) (by omega), p3 i j (by omega) (by omega) (by omega)]) (fun i j p q => by rw [q3 _ _ (by omega) (by omega) (by omega), o0 _ _ (by omega) (by omega), p3 _ _ (by omega) (by omega) (by omega)]) (fun i j p q => by rw [q3 _ _ (by omega) (by omega) (by omega), o0 _ _ (by omega) (by omega), p3 _ _ (by omega) (by omega) (by omega)]) (lw_RL p2 (by rw [q3 _ _ (by omega) (by omega) (by omega), o0 _ _ (by omega) (by omega)]) (fun j => by rw [q3 _ _ (by omega) (by omega) (by omega), o0 _ _ (by omega) (by omega)]))
    · obtain ⟨h1, h2, h3, h4, h5⟩ := hM
      have f : ∀ i j, 181 ≤ i → i ≠ 197 → i ≠ 225 → i ≠ 237 → ¬ (i = 181 ∧ (j = 0 ∨ j = 70 ∨ j = 74)) → w2 i j = w i j := fun i j p0 p1 p2 p5 p4 => by rw [q3 _ _ p1 p2 (by omega), o0 _ _ p5 (by omega), p3 i j (by omega) (by omega) (by omega)]
      exact ⟨lw_IM_ob hV hG h1 (fun i j p q r => f i j (by omega) r (by omega) (by omega) (by omega)) (fun j p q => f _ _ (by omega) (by omega) (by omega) (by omega) (by omega)), pm_KT_ob (fun j => f _ _ (by omega) (by omega) (by omega) (by omega) (by omega)) (f _ _ (by omega) (by omega) (by omega) (by omega) (by omega)) h2, q2, ⟨(f _ _ (by omega) (by omega) (by omega) (by omega) (by omega)).trans h4.1, fun i x q => (f _ _ (by omega) (by omega) (by omega) (by omega) (by omega)).trans (h4.2 i x q)⟩, (f _ _ (by omega) (by omega) (by omega) (by omega) (by omega)).trans h5⟩
  · have hn := nF.2 z
    have hn2 := (pm_noF (nf := gs.length + la) (w := fa_st w 181 0 0) (by omega) (by rw [fa_st_ne (by omega), fa_st_ne (by omega)]; exact fn w hM.1.1) ba).2 z
    refine lw_R1 (v := 1) (w1 := w) (u := 0) (w2 := fa_st (fa_st w 181 0 0) 181 0 1) ?_ (by decide) ?_ (fa_st_eq _ _ _ _) (lw_I_ob h0 (fun i j p q => by rw [fa_st_ne (by omega), fa_st_ne (by omega)]))
    · unfold fm_Law_type fm_Face_type
      rw [hn, pf_bd_eq]
      rfl
    · unfold fm_Mod_type1
      rw [pf_let_eq, hn2, pf_l2_eq, if_pos rfl]
