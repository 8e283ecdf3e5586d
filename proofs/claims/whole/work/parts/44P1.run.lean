/-! calls, both halves -/
theorem lw_lc (x : Int) : fa_wr (fa_lcmp x x) = 0 := by
  unfold fa_lcmp lg_cmp
  rw [if_neg (by simp), if_pos rfl]
  decide
def lw_V (x : Option (Int × fa_W)) (y : fa_W → Option (Int × fa_W)) : Prop := ∃ v w1 u w2, x = some (v, w1) ∧ y w1 = some (u, w2) ∧ fa_wr v = fa_wr u ∧ lw_I w2
def lw_R (x : Option (Int × fa_W)) (y : fa_W → Option (Int × fa_W)) : Prop := ∃ v w1 u w2, x = some (v, w1) ∧ y w1 = some (u, w2) ∧ fa_wr (w2 181 0) = fa_wr v ∧ (fa_wr v = 0 → fa_wr (fa_lcmp (w2 237 0) (fa_wr u)) = 0) ∧ lw_I w2
theorem lw_I_ob {w w' : fa_W} (h : lw_I w) (e : ∀ i j, ¬ (i = 181 ∧ (j = 0 ∨ 73 ≤ j)) → i ≤ 224 → w' i j = w i j) : lw_I w' := by
  obtain ⟨gs, t, la, li, si, nd, fb, sb, mk, bs, tp, flt, hP, hB, hX, hM⟩ := h
  have hV := hP.1
  have hG := hP.2.1
  have s62 : fa_sc (w 0 6) + 62 ≤ 180 := by rcases px_sK_sc (w 0 6) with h | h <;> omega
  exact ⟨gs, t, la, li, si, nd, fb, sb, mk, bs, tp, flt, hP, hB, lw_X_ob hV hX (fun i j p => e i j (by omega) (by omega)) (fun i j p q => e i j (by omega) (by omega)) (fun i j p q => e i j (by omega) (by omega)), lw_M_ob hV hG hM (fun i j p q => e i j (by omega) (by omega)) (fun j p q => e 181 j (by omega) (by omega))⟩
/-- a wrapped call that throws -/
theorem lw_R1 {w1 w2 : fa_W} {x : Option (Int × fa_W)} {y : fa_W → Option (Int × fa_W)} {v u : Int} (hx : x = some (v, w1)) (hv : fa_wr v ≠ 0) (hy : y w1 = some (u, w2)) (h0 : w2 181 0 = v) (hI : lw_I w2) : lw_R x y := ⟨v, w1, u, w2, hx, hy, by rw [h0], fun z => absurd z hv, hI⟩
/-- a wrapped call that answers -/
theorem lw_R0 {w1 w2 : fa_W} {x : Option (Int × fa_W)} {y : fa_W → Option (Int × fa_W)} {v u : Int} (hx : x = some (0, fa_st w1 237 0 (fa_wr v))) (hy : y (fa_st w1 237 0 (fa_wr v)) = some (u, w2)) (h0 : w2 181 0 = 0) (h237 : w2 237 0 = fa_wr v) (hu : fa_wr v = fa_wr u) (hI : lw_I w2) : lw_R x y := ⟨0, _, u, w2, hx, hy, by rw [h0], fun _ => by rw [h237, hu]; exact lw_lc _, hI⟩
theorem lw_fault {w : fa_W} (h : lw_I w) : ∃ w', fm_Mod_fault w = (fm_Face_fault w, w') ∧ lw_I w' := by
  have h0 := h
  obtain ⟨gs, t, la, li, si, nd, fb, sb, mk, bs, tp, flt, hP, hB, hX, hM⟩ := h
  refine ⟨fa_st w 181 0 0, ?_, lw_I_ob h0 (fun i j p _ => fa_st_ne (by omega))⟩
  unfold fm_Mod_fault fm_Face_fault
  rw [pf_let_eq, fa_st_ne (by omega), hM.2.2.2.2, hX.2.2.2.2.1]
theorem lw_octet {w : fa_W} {a : Int} (h : lw_I w) (ba : -2147483648 ≤ a ∧ a < 2147483648) : ∃ w', fm_Mod_octet a w = some (fm_Face_octet a w, w') ∧ lw_I w' := by
  have h0 := h
  obtain ⟨gs, t, la, li, si, nd, fb, sb, mk, bs, tp, flt, hP, hB, hX, hM⟩ := h
  exact ⟨fa_st w 181 0 0, pa_octet (l := bs) (by have := hB.1; omega) (by rw [show fa_cp 3 = 7000 by decide +kernel]; exact hB.1) hX.2.2.1 hM.2.2.1 ba, lw_I_ob h0 (fun i j p _ => fa_st_ne (by omega))⟩
theorem lw_alike {w : fa_W} {a1 a2 : Int} (h : lw_I w) (b1 : -2147483648 ≤ a1 ∧ a1 < 2147483648) (b2 : -2147483648 ≤ a2 ∧ a2 < 2147483648) : ∃ v w1 u w2, fm_Law_alike a1 a2 w = some (v, w1) ∧ fm_Mod_alike a1 a2 w1 = some (u, w2) ∧ fa_wr (w2 181 0) = fa_wr v ∧ (fa_wr v = 0 → if u = true then fa_wr (fa_lcmp (w2 237 0) 1) = 0 else fa_wr (fa_lcmp (w2 237 0) 0) = 0) ∧ lw_I w2 := by
  have h0 := h
  obtain ⟨gs, t, la, li, si, nd, fb, sb, mk, bs, tp, flt, hP, hB, ⟨⟨ins, os, hX⟩, _⟩, hM⟩ := h
  have hV := hP.1
  have hG := hP.2.1
  have x := px_callAlike hV rfl hX b1 b2
  by_cases z : pa_in (gs.length + la) a1 ∧ pa_in (gs.length + la) a2
  · obtain ⟨⟨z1, z2⟩, z3, z4⟩ := z
    obtain ⟨b, e1, e2⟩ := x.2 a1.toNat a2.toNat (by omega) (by omega) (by omega) (by omega)
    have y := pm_callAlike (w := fa_st w 237 0 (fa_bi b)) hV (pm_AN_ob hV hG (fun i j p => fa_st_ne (by omega)) (fun j p q => fa_st_ne (by omega)) hM.1.1) b1 b2
    obtain ⟨b', e3, e4⟩ := y.2 a1.toNat a2.toNat (by omega) (by omega) (by omega) (by omega)
    refine ⟨0, fa_st w 237 0 (fa_bi b), b', _, ?_, e3, by rw [fa_st_eq], fun _ => ?_, lw_I_ob h0 (fun i j p q => by rw [fa_st_ne (by omega), fa_st_ne (by omega)])⟩
    · unfold fm_Law_alike
      rw [e1]
      rfl
    · rw [fa_st_ne (by omega), fa_st_eq]
      have eb : b = b' := by
        cases b <;> cases b'
        · rfl
        · exact absurd (e2.mpr (e4.mp rfl)) (by decide)
        · exact absurd (e4.mpr (e2.mp rfl)) (by decide)
        · rfl
      rw [← eb]
      cases b
      · rw [if_neg (by decide)]; exact lw_lc 0
      · rw [if_pos rfl]; exact lw_lc 1
  · have e1 := x.1 z
    have y := (pm_callAlike (w := w) hV hM.1.1 b1 b2).1 z
    refine ⟨1, w, false, _, ?_, y, by rw [fa_st_eq], fun q => absurd q (by decide), lw_I_ob h0 (fun i j p q => by rw [fa_st_ne (by omega), fa_st_ne (by omega)])⟩
    unfold fm_Law_alike
    rw [e1]
    rfl
theorem lw_far {w : fa_W} {a1 a2 : Int} (h : lw_I w) (b1 : -2147483648 ≤ a1 ∧ a1 < 2147483648) (b2 : -2147483648 ≤ a2 ∧ a2 < 2147483648) : lw_R (fm_Law_far a1 a2 w) (fm_Mod_far a1 a2) := by
  have h0 := h
  obtain ⟨gs, t, la, li, si, nd, fb, sb, mk, bs, tp, flt, hP, hB, ⟨⟨ins, os, hX⟩, _⟩, hM⟩ := h
  have hV := hP.1
  have hG := hP.2.1
  obtain ⟨x1, cal, x2, x3⟩ := px_callFar hV rfl hX b1 b2
  by_cases z : pa_in (gs.length + la) a1 ∧ pa_in (gs.length + la) a2
  · obtain ⟨⟨z1, z2⟩, z3, z4⟩ := z
    have key : ∀ v : Int, fm_Face_far a1 a2 w = some (0, v, w) → (∃ cal' : Nat → Nat, fm_Mod_far a1 a2 (fa_st w 237 0 (fa_wr v)) = some (v, fa_st (fa_st w 237 0 (fa_wr v)) 181 0 0)) → lw_R (fm_Law_far a1 a2 w) (fm_Mod_far a1 a2) := fun v e1 ⟨_, e2⟩ => by
      refine lw_R0 (v := v) (w1 := w) ?_ e2 (fa_st_eq _ _ _ _) (by rw [fa_st_ne (by omega), fa_st_eq]) rfl (lw_I_ob h0 (fun i j p q => by rw [fa_st_ne (by omega), fa_st_ne (by omega)]))
      unfold fm_Law_far
      rw [e1]
      rfl
    have yy := fun v : Int => pm_callFar (w := fa_st w 237 0 (fa_wr v)) hV (pm_AN_ob hV hG (fun i j p => fa_st_ne (by omega)) (fun j p q => fa_st_ne (by omega)) hM.1.1) b1 b2
    obtain ⟨q1, q2⟩ := x3 a1.toNat a2.toNat (by omega) (by omega) (by omega) (by omega)
    by_cases c : pf_lL fb t a1.toNat ∧ pf_lL fb t a2.toNat
    · obtain ⟨_, cal', y2, y3⟩ := yy (pd_d cal (gs.length + la) a2.toNat 24 0 (2 ^ a1.toNat))
      have r := (y3 a1.toNat a2.toNat (by omega) (by omega) (by omega) (by omega)).1 c
      rw [← pd_d_cong (pd_cal_one x2 y2)] at r
      exact key _ (q1 c) ⟨cal, r⟩
    · obtain ⟨_, cal', y2, y3⟩ := yy (-1)
      exact key _ (q2 c) ⟨cal, (y3 a1.toNat a2.toNat (by omega) (by omega) (by omega) (by omega)).2 c⟩
  · have e1 := x1 z
    obtain ⟨u, y⟩ := (pm_callFar (w := w) hV hM.1.1 b1 b2).1 z
    refine lw_R1 (v := 1) (w1 := w) ?_ (by decide) y (fa_st_eq _ _ _ _) (lw_I_ob h0 (fun i j p q => by rw [fa_st_ne (by omega), fa_st_ne (by omega)]))
    unfold fm_Law_far
    rw [e1]
    rfl
theorem lw_ring {w : fa_W} {a : Int} (h : lw_I w) (b1 : -2147483648 ≤ a ∧ a < 2147483648) : lw_R (fm_Law_ring a w) (fm_Mod_ring a) := by
  have h0 := h
  obtain ⟨gs, t, la, li, si, nd, fb, sb, mk, bs, tp, flt, hP, hB, ⟨⟨ins, os, hX⟩, _⟩, hM⟩ := h
  have hV := hP.1
  have hG := hP.2.1
  obtain ⟨cal, rg, x2, x3, x4, x5⟩ := px_callRing rfl hX b1
  by_cases z : pa_in (pf_lr (pf_ws cal (gs.length + la)) rg (gs.length + la)).length a
  · obtain ⟨z1, z2⟩ := z
    have e1 := x5 a.toNat (by omega) (by omega)
    obtain ⟨v, hv⟩ : ∃ v : Int, v = (((pf_lr (pf_ws cal (gs.length + la)) rg (gs.length + la)).getD a.toNat 0 : Nat) : Int) := ⟨_, rfl⟩
    rw [← hv] at e1
    obtain ⟨cal', rg', y2, y3, y4, y5⟩ := pm_callRing (w := fa_st w 237 0 (fa_wr v)) hV (pm_AN_ob hV hG (fun i j p => fa_st_ne (by omega)) (fun j p q => fa_st_ne (by omega)) hM.1.1) b1
    have el := pd_lr_one x2 y2 x3 y3
    have e2 := y5 a.toNat (by omega) (by rw [← el]; omega)
    rw [← el, ← hv] at e2
    refine lw_R0 (v := v) (w1 := w) ?_ e2 (fa_st_eq _ _ _ _) (by rw [fa_st_ne (by omega), fa_st_eq]) rfl (lw_I_ob h0 (fun i j p q => by rw [fa_st_ne (by omega), fa_st_ne (by omega)]))
    unfold fm_Law_ring
    rw [e1]
    rfl
  · have e1 := x4 z
    obtain ⟨cal', rg', y2, y3, y4, y5⟩ := pm_callRing (w := w) hV hM.1.1 b1
    have el := pd_lr_one x2 y2 x3 y3
    rw [el] at z
    have y := y4 z
    refine lw_R1 (v := 1) (w1 := w) ?_ (by decide) y (fa_st_eq _ _ _ _) (lw_I_ob h0 (fun i j p q => by rw [fa_st_ne (by omega), fa_st_ne (by omega)]))
    unfold fm_Law_ring
    rw [e1]
    rfl
