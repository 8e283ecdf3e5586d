/-! field() in the law -/
theorem lw_field {w : fa_W} {a b : Int} (h : lw_I w) (ba : -2147483648 ≤ a ∧ a < 2147483648) (bb : -2147483648 ≤ b ∧ b < 2147483648) : lw_R (fm_Law_field a b w) (fm_Mod_field a b) := by
  have h0 := h
  obtain ⟨gs, t, la, li, si, nd, fb, sb, mk, bs, tp, flt, hP, hB, hX, hM⟩ := h
  obtain ⟨hV, hG, _, hmk, hMk⟩ := id hP
  have v1 := hV.1
  have v2 := hV.2.1
  have v5 := hV.2.2.2.2.1
  have s62 := lw_s62 w
  obtain ⟨⟨ins, os, hS⟩, _⟩ := id hX
  have hsc := px_sK_sc (w 0 6)
  obtain ⟨a1, a2, a3, a4, a5, a6, a7, a8, a9⟩ := px_sK_all hsc
  have nF := px_need (nf := gs.length + la) (w := w) (by omega) (by rw [a6]; exact hS.1.2.1.2.1) ba
  have fn : ∀ w1 : fa_W, pm_AN gs t la li si nd fb sb mk w1 → w1 181 17 + w1 181 18 = ((gs.length + la : Nat) : Int) := fun w1 hN => by rw [hN.1.2.1, hN.1.2.2.1]; omega
  by_cases z : pa_in (gs.length + la) a
  · have hn := nF.1 z
    obtain ⟨z1, z2⟩ := id z
    obtain ⟨f, hf⟩ : ∃ f : Nat, a = (f : Int) := ⟨a.toNat, by omega⟩
    subst hf
    have fl : f < gs.length + la := by omega
    obtain ⟨zz, tb, cal, rg, _, _, _, _, T3, _⟩ := hS.2.2.1
    obtain ⟨w1, p1, p2, p3, p4⟩ := px_fields (r := 5) a1 (by decide +kernel) (by decide +kernel) (by omega) hV hG hS.1 T3 fl
    have hins := hS.1.2.2.2.2.2.2.2
    have len74 : (pd_fl f (fb f)).length ≤ 74 := by
      have := pb_nodup_le (24 + li) _ (pd_fl_nodup f (fb f)) p4
      have := pn_nv hins.2.1 hins.1
      have := hins.2.2
      omega
    obtain ⟨l, hl⟩ : ∃ l, l = pd_fl f (fb f) := ⟨_, rfl⟩
    have S1 := px_SC_ob (w' := w1) hV (fun i j p q => p2 i j (by omega) (by omega)) hS
    have e6 : w1 0 6 = w 0 6 := p2 0 6 (by omega) (by omega)
    have sz : fm_Row_size 5 w1 = (l.length : Int) := by
      show w1 5 1 = _
      rw [p3.1, List.length_map, hl]
    rw [← hl] at len74
    have lin : ∀ w0 : fa_W, (pa_in l.length b → fm_Mod_in b 0 ((l.length : Int) - 1) w0 = true) ∧ (¬ pa_in l.length b → fm_Mod_in b 0 ((l.length : Int) - 1) w0 = false) := fun w0 => by
      by_cases cl0 : l.length = 0
      · refine ⟨fun q => ?_, fun _ => ?_⟩
        · obtain ⟨q1, q2⟩ := q; omega
        · unfold fm_Mod_in
          rw [fa_wr_id bb.1 bb.2, show fa_wr 0 = 0 from rfl, cl0]
          by_cases c1 : b < 0
          · rw [if_pos c1]
          · rw [if_neg c1, show ((0 : Nat) : Int) - 1 = -1 by omega, pb_wr1, if_pos (by omega)]
      · have ii := lw_in3 (n := l.length - 1) (a := b) (w := w0) (by omega) bb
        rw [show l.length - 1 + 1 = l.length by omega, show ((l.length - 1 : Nat) : Int) = (l.length : Int) - 1 by omega] at ii
        exact ii
    by_cases y : pa_in l.length b
    · obtain ⟨y1, y2⟩ := id y
      obtain ⟨k, hk⟩ : ∃ k : Nat, b = (k : Int) := ⟨b.toNat, by omega⟩
      subst hk
      have kl : k < l.length := by omega
      obtain ⟨x, hx⟩ : ∃ x : Nat, l[k]? = some x := ⟨l[k], List.getElem?_eq_getElem kl⟩
      have xm : x ∈ pd_fl f (fb f) := by rw [← hl]; exact List.mem_of_getElem? hx
      obtain ⟨yv, hyv⟩ := pd_yv_ex hV hG
      have yx := (hyv f fl).1 x xm
      have n1 := px_yq hV hG S1.1 yx
      have x74 := px_xi_lt hins.1 x
      have r6 := px_po_r6 a1
      have c5 : fa_cp 5 = 74 := by decide +kernel
      have r5 : fa_rf 5 0 = 5 + 1 := by decide +kernel
      have ea : fr_at (fa_rf (fa_rf (fa_sc (w1 0 6)) 0) 6) (fr_at 5 (k : Int) w1) w1 = ((yv x : Nat) : Int) := by
        rw [pb_at p3.1 (by rw [List.length_map, ← hl]; exact kl) (by rw [List.length_map, ← hl, c5]; exact len74), r5, p3.2 k (px_xi ins x) (by rw [List.getElem?_map, ← hl, hx]; rfl), e6, a6, r6.1, pb_at (n := 74) S1.1.1.2.2.2.2.2.2.1 x74 (by rw [r6.2.2]; omega), r6.2.1]
        exact n1.1
      obtain ⟨w2, q1, q2, q3⟩ := px_putName (l := []) (w := fa_st w1 3 1 0) n1.2.1 ⟨fa_st_eq _ _ _ _, fun i x e => by cases e⟩ (by rw [List.length_nil]; omega)
      rw [List.nil_append] at q2
      have l4 : (pw_nm (yv x)).length ≤ 4 := pw_nmr_len 4 (yv x)
      obtain ⟨v, hv⟩ : ∃ v : Int, v = ((pw_nm (yv x)).length : Int) := ⟨_, rfl⟩
      have hF : fm_Face_field (f : Int) (k : Int) w = some (0, v, w2) := by
        unfold fm_Face_field
        rw [hn, pf_bd_eq, if_pos rfl, a6, p1, Option.bind_some, sz, pb_wr (by omega), pb_wr (by omega), if_neg (by omega), if_pos (by omega), ea]
        unfold fm_Writer_showName
        rw [pf_rc_eq, pf_let_eq, q1, Option.bind_some, pf_bd_eq, hv, ← q2.1]
        rfl
      have f2 : ∀ i j, i ≠ 3 → i ≠ 4 → i ≠ 5 → i ≠ 6 → w2 i j = w i j := fun i j u1 u2 u3 u4 => by rw [q3 i j u1 u2, fa_st_ne (by omega), p2 i j u3 u4]
      obtain ⟨w3, hw3⟩ : ∃ w3, w3 = fa_st (fa_st w2 237 0 (fa_wr v)) 181 0 0 := ⟨_, rfl⟩
      have o3 : ∀ i j, i ≠ 237 → ¬ (i = 181 ∧ j = 0) → w3 i j = w2 i j := fun i j q p => by rw [hw3, fa_st_ne p, fa_st_ne (by omega)]
      have M1 : pm_IM gs t la li si nd fb sb mk w3 := lw_IM_ob hV hG hM.1 (fun i j p q r => by rw [o3 _ _ (by omega) (by omega), f2 _ _ (by omega) (by omega) (by omega) (by omega)]) (fun j p q => by rw [o3 _ _ (by omega) (by omega), f2 _ _ (by omega) (by omega) (by omega) (by omega)])
      have hn2 := (pm_noF (nf := gs.length + la) (w := w3) (by omega) (fn w3 M1.1) ba).1 z
      have FL := M1.1.2.2.2.1 f fl
      rw [← hl] at FL
      have x124 : x < 124 := by
        have := pd_oc_W (fb f) (hG.2.1 f) (hG.2.2.1 f fl).2.1 x (pd_fl_oc xm)
        omega
      obtain ⟨w4, t1, t2, t3⟩ := pm_sayWord (v := yv x) n1.2.1 n1.2.2.1 (l := []) (w := fa_st w3 181 70 0) ⟨fa_st_eq _ _ _ _, fun i x e => by cases e⟩ (by rw [List.length_nil]; omega) (x := ((pm_cv (yv x) : Nat) : Int)) rfl
      rw [List.nil_append] at t2
      refine lw_R0 (v := v) (w1 := w2) (u := v) (w2 := w4) ?_ ?_ ?_ ?_ rfl ⟨gs, t, la, li, si, nd, fb, sb, mk, pw_nm (yv x), tp, flt, hP, ⟨by omega, hB.2⟩, ?_, ?_⟩
      · unfold fm_Law_field
        rw [hF]
        rfl
      · unfold fm_Mod_field fm_Mod_field_j35 fm_Mod_throwsIf
        rw [pf_let_eq, ← hw3, hn2, pf_l2_eq, if_neg (by decide), pb_ix (show f < 24 by omega) (by omega), Option.bind_some, FL.1, if_pos ((lin w3).1 y), if_neg (by decide), pf_l2_eq, if_neg (by decide), pf_let_eq, show (124 : Int) * (f : Int) + (k : Int) = ((124 * f + k : Nat) : Int) by omega, pb_ix (show 124 * f + k < 2976 by omega) (by omega), Option.bind_some, fa_st_ne (by omega), FL.2 k x hx, pb_ix x124 (by omega), Option.bind_some, fa_st_ne (by omega), pm_yq hV M1.1.1 yx, t1, Option.bind_some, t2.1, hv]
      · rw [t3 _ _ (by omega) (by omega), fa_st_ne (by omega), hw3, fa_st_eq]
      · rw [t3 _ _ (by omega) (by omega), fa_st_ne (by omega), hw3, fa_st_ne (by omega), fa_st_eq]
      · exact lw_X_sh hV hX (fun i j p => by rw [t3 _ _ (by omega) (by omega), fa_st_ne (by omega), o3 _ _ (by omega) (by omega), f2 _ _ (by omega) (by omega) (by omega) (by omega)]) (fun i j p q => by rw [t3 _ _ (by omega) (by omega), fa_st_ne (by omega), o3 _ _ (by omega) (by omega), f2 _ _ (by omega) (by omega) (by omega) (by omega)]) (fun i j p q => by rw [t3 _ _ (by omega) (by omega), fa_st_ne (by omega), o3 _ _ (by omega) (by omega), f2 _ _ (by omega) (by omega) (by omega) (by omega)]) (lw_RL q2 (by rw [t3 _ _ (by omega) (by omega), fa_st_ne (by omega), o3 _ _ (by omega) (by omega)]) (fun j => by rw [t3 _ _ (by omega) (by omega), fa_st_ne (by omega), o3 _ _ (by omega) (by omega)]))
      · exact lw_M_sh hV hG hM (fun i j p q r => by rw [t3 _ _ (by omega) (by omega), fa_st_ne (by omega), o3 _ _ (by omega) (by omega), f2 _ _ (by omega) (by omega) (by omega) (by omega)]) (fun j p q r => by rw [t3 _ _ (by omega) (by omega), fa_st_ne (by omega), o3 _ _ (by omega) (by omega), f2 _ _ (by omega) (by omega) (by omega) (by omega)]) t2
    · obtain ⟨w3, hw3⟩ : ∃ w3, w3 = fa_st w1 181 0 0 := ⟨_, rfl⟩
      have o3 : ∀ i j, ¬ (i = 181 ∧ j = 0) → w3 i j = w1 i j := fun i j p => by rw [hw3, fa_st_ne p]
      have M1 : pm_IM gs t la li si nd fb sb mk w3 := lw_IM_ob hV hG hM.1 (fun i j p q r => by rw [o3 _ _ (by omega), p2 _ _ (by omega) (by omega)]) (fun j p q => by rw [o3 _ _ (by omega), p2 _ _ (by omega) (by omega)])
      have hn2 := (pm_noF (nf := gs.length + la) (w := w3) (by omega) (fn w3 M1.1) ba).1 z
      have FL := M1.1.2.2.2.1 f fl
      rw [← hl] at FL
      have y' : ¬ (0 ≤ b ∧ b < (l.length : Int)) := y
      have f4 : ∀ i j, i ≠ 5 → i ≠ 6 → ¬ (i = 181 ∧ j = 0) → fa_st w3 181 0 2 i j = w i j := fun i j u1 u2 u3 => by rw [fa_st_ne u3, o3 _ _ u3, p2 _ _ u1 u2]
      refine lw_R1 (v := 2) (w1 := w1) (u := 0) (w2 := fa_st w3 181 0 2) ?_ (by decide) ?_ (fa_st_eq _ _ _ _) ⟨gs, t, la, li, si, nd, fb, sb, mk, bs, tp, flt, hP, hB, lw_X_ob hV hX (fun i j p => f4 _ _ (by omega) (by omega) (by omega)) (fun i j p q => f4 _ _ (by omega) (by omega) (by omega)) (fun i j p q => f4 _ _ (by omega) (by omega) (by omega)), lw_M_ob hV hG hM (fun i j p q => f4 _ _ (by omega) (by omega) (by omega)) (fun j p q => f4 _ _ (by omega) (by omega) (by omega))⟩
      · unfold fm_Law_field fm_Face_field fm_Face_field_j35
        rw [hn, pf_bd_eq, if_pos rfl, a6, p1, Option.bind_some, sz, fa_wr_id bb.1 bb.2, pb_wr (by omega)]
        by_cases c : b < 0
        · rw [if_pos c]; rfl
        · rw [if_neg c, if_neg (by omega)]; rfl
      · unfold fm_Mod_field fm_Mod_field_j35 fm_Mod_throwsIf
        rw [pf_let_eq, ← hw3, hn2, pf_l2_eq, if_neg (by decide), pb_ix (show f < 24 by omega) (by omega), Option.bind_some, FL.1, if_neg (by rw [(lin w3).2 y]; decide), if_pos rfl, pf_let_eq, pf_l2_eq, if_pos rfl]
  · have hn := nF.2 z
    have hn2 := (pm_noF (nf := gs.length + la) (w := fa_st w 181 0 0) (by omega) (by rw [fa_st_ne (by omega), fa_st_ne (by omega)]; exact fn w hM.1.1) ba).2 z
    refine lw_R1 (v := 1) (w1 := w) (u := 0) (w2 := fa_st (fa_st w 181 0 0) 181 0 1) ?_ (by decide) ?_ (fa_st_eq _ _ _ _) (lw_I_ob h0 (fun i j p q => by rw [fa_st_ne (by omega), fa_st_ne (by omega)]))
    · unfold fm_Law_field fm_Face_field
      rw [hn, pf_bd_eq]
      rfl
    · unfold fm_Mod_field
      rw [pf_let_eq, hn2, pf_l2_eq, if_pos rfl]
