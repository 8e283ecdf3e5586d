/-! the program that was read -/
theorem pa_V {gs : ps_G} {t : pt_T} {k1 : pk_K} {la li si nd : Nat} (hg : gs.length ≤ 6) (h18 : la ≤ 18) (hnd : nd ≤ 100) (hsi : si ≤ 100) (hli : li ≤ 100) (hGW : pk_GW gs [] (0, 0, 0, 0) k1) (tt : pt_tw t) (hw : pk_wfs t (pk_gn gs) []) (hc : pk_can t k1 (la, li, si, nd)) : pn_V (pk_rnG gs.length gs) (pk_rn gs.length t) la li si nd := by
  have m := pk_can_mono t tt _ _ hc
  dsimp only at m
  have el : (pk_rnG gs.length gs).length = gs.length := List.length_map _
  have en : pk_gn (pk_rnG gs.length gs) = pk_gn gs := by
    unfold pk_gn pk_rnG
    rw [List.map_map]
    rfl
  refine ⟨by rw [el]; exact hg, h18, hnd, hsi, hli, (pk_rn_tw _ t tt).1, ?_, k1, ?_, ?_⟩
  · rw [en]
    exact pn_wfs t tt _ [] _ _ h18 hc hw
  · rw [el]
    exact pn_GW_of gs [] _ _ (by omega) (by rw [List.length_nil]; omega) hGW
  · rw [el]
    exact pn_of t tt _ _ hc
theorem pa_Sr {gs : ps_G} {t : pt_T} {k1 : pk_K} {ins : List Nat} {la li si nd : Nat} {w : fa_W} (hnd : nd ≤ 100) (hGW : pk_GW gs [] (0, 0, 0, 0) k1) (tt : pt_tw t) (hc : pk_can t k1 (la, li, si, nd)) (hGH : px_GH 8 ins gs 0 0 w) (hH : px_H 8 ins t (-1) k1.2.2.2 w) (hz : px_sz nd w) (h13 : w 8 13 = (gs.length : Int)) (h25 : w 25 1 = (gs.length : Int)) (h15 : w 8 15 = (si : Int)) (h16 : w 8 16 = ((nd - 1 : Nat) : Int)) (hi : ∀ x ∈ ins, 24 ≤ x ∧ x < 74) (hn : ins.Nodup) : px_Sr 8 gs t si nd ins (List.range' 0 gs.length ++ [gs.length]) w := by
  have m := pk_can_mono t tt _ _ hc
  dsimp only at m
  have pp := pt_sz_pos t
  obtain ⟨z1, z2, z3, z4, z5, z6, z7, z8, z9⟩ := hz
  have ht : ∀ j, j < gs.length → pn_tr gs t (0 + j) = pn_tr gs t j := fun j _ => by rw [Nat.zero_add]
  obtain ⟨L1, L2⟩ := pa_GL (gs0 := gs) (t := t) gs [] 0 _ _ hGW hGH ht (Nat.zero_add _)
  rw [Nat.zero_add] at L2
  have L2' : pn_os gs t (List.range' 0 gs.length) = k1.2.2.2 := L2
  refine ⟨⟨z1, z2, z3, z4, z5, hnd⟩, ⟨z6, z7, h25, z9⟩, ⟨h13, h15⟩, fun i x v t' e => ?_, ?_, fun g => ?_, ?_, ?_, hi, hn⟩
  · have := pa_nam gs 0 0 hGH i x v t' e
    rw [Nat.zero_add] at this
    exact this
  · rw [← List.range_eq_range', ← List.range_succ]
    exact List.nodup_range
  · rw [← List.range_eq_range', ← List.range_succ, List.mem_range]
    omega
  · rw [pn_os_app, L2']
    show k1.2.2.2 + (pt_sz (pn_tr gs t gs.length) + 0) = nd
    rw [pn_tr_len]; omega
  · refine px_L_app _ _ _ L1 ?_
    rw [Nat.zero_add, L2']
    refine ⟨?_, ?_, trivial⟩
    · rw [pn_tr_len, show pn_ow gs.length gs.length = -1 from if_neg (by omega)]
      exact px_P_of t tt _ _ hH
    · rw [if_neg (by omega), pn_tr_len, h16, m.2.2.2]
theorem pa_copy {o : Nat} {gs : ps_G} {t : pt_T} {k1 : pk_K} {ins : List Nat} {la si nd : Nat} {w : fa_W} (ho : px_oe o) (hg : gs.length ≤ 6) (h18 : la ≤ 18) (hnd : nd ≤ 100) (hsi : si ≤ 100) (hli : ins.length ≤ 100) (hGW : pk_GW gs [] (0, 0, 0, 0) k1) (tt : pt_tw t) (hw : pk_wfs t (pk_gn gs) []) (hc : pk_can t k1 (la, ins.length, si, nd)) (hGH : px_GH 8 ins gs 0 0 w) (hH : px_H 8 ins t (-1) k1.2.2.2 w) (hz : px_sz nd w) (h13 : w 8 13 = (gs.length : Int)) (h25 : w 25 1 = (gs.length : Int)) (h15 : w 8 15 = (si : Int)) (h16 : w 8 16 = ((nd - 1 : Nat) : Int)) (h10 : w 7 10 = (la : Int)) (hi : ∀ x ∈ ins, 24 ≤ x ∧ x < 74) (hn : ins.Nodup) : ∃ w' os', fm_Program_copy o 8 (fm_Reader_told w) (-1) w = some w' ∧ (∀ x y, (x < o ∨ o + 26 < x) → w' x y = w x y) ∧ px_V o (pk_rnG gs.length gs) (pk_rn gs.length t) la ins.length si nd ins os' w' := by
  have hs : pe_sep o 8 := by
    refine ⟨ho, ?_, px_po_8, ?_⟩
    · rcases ho with e | e
      · rw [e]; exact px_po_56
      · rw [e]; exact px_po_119
    · rcases ho with e | e <;> omega
  have m := pk_can_mono t tt _ _ hc
  have mG := pk_GW_mono gs _ _ _ hGW
  dsimp only at m
  have Sr := pa_Sr hnd hGW tt hc hGH hH hz h13 h25 h15 h16 hi hn
  have hkM : pe_kp (pa_M gs.length la) (fm_Reader_told w) := by
    unfold fm_Reader_told
    rw [h13, h10]
    exact pa_told hg h18
  obtain ⟨g1, g2, g3, g4⟩ := pa_GW (si := si) hg h18 gs [] _ _ (by rw [List.length_nil, Nat.zero_add]) hGW (by omega) (by omega)
  rw [List.length_nil] at g2 g3 g4
  have g4' : pc_N (pa_M gs.length la) pa_1 gs 0 0 = k1.2.2.2 := g4
  have g3' : pc_G (pa_M gs.length la) pa_1 (pc_ρ (pa_M gs.length la) pa_1) (pc_rk (pa_S si)) gs 0 0 = pk_rnG gs.length gs := g3
  have hc6 : pn_can 6 t k1 (la, ins.length, si, nd) := hc
  obtain ⟨t1, t2⟩ := pa_tree (G := gs.length) (la := la) (si := si) hg h18 t tt (pk_gn gs) [] _ _ hc6 hw (by rw [pk_gn_len]; exact Nat.le_refl _) (Nat.le_refl _) (Nat.le_refl _) (fun b hb => by cases hb)
  have V6 : pn_VB 6 gs t la ins.length si nd := ⟨hg, h18, hnd, hsi, hli, tt, hw, k1, g1, hc6⟩
  obtain ⟨w', os', e1, e2, e3⟩ := pe_copyV (CL := pa_1) hs hkM (fun f w hf => pf_hb_all hf w) hg (Nat.le_refl _) V6 g2 t1 (fun s h => of_decide_eq_true h) (by
    have a := pa_rkM4 (G := gs.length) (la := la) hg (24 - 6 - la)
    have b := pa_rkM4 (G := gs.length) (la := la) hg 0
    rw [show 6 + la + (24 - 6 - la) = 24 by omega] at a
    rw [Nat.add_zero] at b
    rw [a, b]) (by
    have a := pa_rkM3 (G := gs.length) (la := la) hg 0 (Nat.zero_le _)
    rw [Nat.add_zero, Nat.add_zero] at a
    rw [a, pa_rkM1 _ (Nat.le_refl _)]) rfl Sr
  refine ⟨w', os', e1, e2, ?_⟩
  have a := pa_rkM3 (G := gs.length) (la := la) hg 0 (Nat.zero_le _)
  rw [Nat.add_zero, Nat.add_zero] at a
  rw [g3', g4', t2, pa_rkM3 hg la (Nat.le_refl _), a, Nat.add_sub_cancel_left, pa_rk1, pa_rkS si (Nat.le_refl _), pa_sz t tt, ← m.2.2.2, pa_gl] at e3
  exact e3
/-- what the class has read, it keeps -/
theorem pa_read {o n : Nat} {c : Nat → Int} {gs : ps_G} {t : pt_T} {s : ps_S} {w0 : fa_W} {q : Int × fa_W} (ho : px_oe o) (hn : n ≤ 400) (h : px_RQ c n w0 (some (.ok (gs, t, s))) q) : ∀ w : fa_W, (∀ x y, 7 ≤ x → x ≤ 34 → w x y = q.2 x y) → ∃ w' os', fm_Program_copy o 8 (fm_Reader_told w) (-1) w = some w' ∧ (∀ x y, (x < o ∨ o + 26 < x) → w' x y = w x y) ∧ pn_V (pk_rnG gs.length gs) (pk_rn gs.length t) s.2.2.1 s.2.2.2.1.length s.2.2.2.2.2.1 s.2.2.2.2.2.2 ∧ px_V o (pk_rnG gs.length gs) (pk_rn gs.length t) s.2.2.1 s.2.2.2.1.length s.2.2.2.2.2.1 s.2.2.2.2.2.2 s.2.2.2.1 os' w' := by
  intro w hw
  obtain ⟨p, th, la, ins, lt, si, nd⟩ := s
  obtain ⟨_, _, hg, hs, hth, ⟨k1, hGW, tt, wf, hc, hGH, hH⟩, hS, h16⟩ := h
  obtain ⟨a1, a2, a3, a4, a5, a6, a7, a8, a9, a10, a11, a12, a13, a14, a15, a16, a17⟩ := hs
  obtain ⟨b1, b2, b3, b4, b5, b6, b7, b8, b9, b10, b11, b12⟩ := hS
  dsimp only at hth h16 hc hGH hH ⊢
  have hc' : pk_can t k1 (la, ins.length, si, nd) := hc
  have gl := pk_gn_len gs
  have hi : ∀ x ∈ ins, 24 ≤ x ∧ x < 74 := fun x hx => by have := a13 x hx; omega
  obtain ⟨c1, c2, c3⟩ := b11
  obtain ⟨z1, z2, z3, z4, z5, z6, z7, z8, z9⟩ := b10
  have gob : px_ob 8 q.2 w := fun i j p1 p2 => hw i j (by omega) (by omega)
  have ge : ∀ i j, 8 ≤ i → i ≤ 28 → w i j = q.2 i j := fun i j p q => hw i j (by omega) (by omega)
  obtain ⟨w', os', e1, e2, e3⟩ := pa_copy (w := w) ho hg a5 (by omega) (by omega) (by omega) hGW tt wf hc' (px_GH_ob gob gs [] _ _ _ _ hGW hGH) (px_H_ob gob t tt _ _ hH) ⟨(ge _ _ (by omega) (by omega)).trans z1, (ge _ _ (by omega) (by omega)).trans z2, (ge _ _ (by omega) (by omega)).trans z3, (ge _ _ (by omega) (by omega)).trans z4, (ge _ _ (by omega) (by omega)).trans z5, (ge _ _ (by omega) (by omega)).trans z6, (ge _ _ (by omega) (by omega)).trans z7, (ge _ _ (by omega) (by omega)).trans z8, (ge _ _ (by omega) (by omega)).trans z9⟩ (by rw [ge _ _ (by omega) (by omega), c1, gl]) (by rw [ge _ _ (by omega) (by omega), c2, gl]) ((ge _ _ (by omega) (by omega)).trans b9) ((ge _ _ (by omega) (by omega)).trans h16) ((hw _ _ (by omega) (by omega)).trans b6) hi a14
  exact ⟨w', os', e1, e2, pa_V hg a5 (by omega) (by omega) (by omega) hGW tt wf hc', e3⟩
