/-! form() and read() in the law -/
theorem lw_in3 {n : Nat} {a : Int} {w : fa_W} (hn : n < 2147483648) (ha : -2147483648 ≤ a ∧ a < 2147483648) : (pa_in (n + 1) a → fm_Mod_in a 0 (n : Int) w = true) ∧ (¬ pa_in (n + 1) a → fm_Mod_in a 0 (n : Int) w = false) := by
  unfold pa_in fm_Mod_in
  rw [fa_wr_id ha.1 ha.2, show fa_wr 0 = 0 from rfl, pb_wr hn]
  refine ⟨fun h => ?_, fun h => ?_⟩
  · rw [if_neg (by omega), if_neg (by omega)]
  · by_cases z : a < 0
    · rw [if_pos z]
    · rw [if_neg z, if_pos (by omega)]
theorem lw_needSplit {a : Int} {w : fa_W} (ha : -2147483648 ≤ a ∧ a < 2147483648) : (pa_in 3 a → fm_Face_needSplit a w = some (0, w)) ∧ (¬ pa_in 3 a → fm_Face_needSplit a w = some (3, w)) := by
  unfold pa_in fm_Face_needSplit fm_Face_needSplit_j9
  rw [fa_wr_id ha.1 ha.2]
  refine ⟨fun h => ?_, fun h => ?_⟩
  · rw [if_neg (by omega), if_pos (by omega)]
  · by_cases z : a < 0
    · rw [if_pos z]
    · rw [if_neg z, if_neg (by omega)]
theorem lw_noSplit {a x : Int} {w : fa_W} (ha : -2147483648 ≤ a ∧ a < 2147483648) : (pa_in 3 a → fm_Mod_noSplit a x w = (false, w)) ∧ (¬ pa_in 3 a → fm_Mod_noSplit a x w = (true, fa_st w 181 0 x)) := by
  have this : (pa_in 3 a → fm_Mod_in a 0 2 w = true) ∧ (¬ pa_in 3 a → fm_Mod_in a 0 2 w = false) := lw_in3 (n := 2) (w := w) (by omega) ha
  refine ⟨fun h => ?_, fun h => ?_⟩
  · unfold fm_Mod_noSplit fm_Mod_noSplit_j15 fm_Mod_throwsIf
    rw [if_pos (this.1 h), if_neg (by decide), pf_l2_eq]
  · unfold fm_Mod_noSplit fm_Mod_noSplit_j15 fm_Mod_throwsIf
    rw [if_neg (show ¬ fm_Mod_in a 0 2 w = true by rw [show fm_Mod_in a 0 2 w = false from this.2 h]; decide), if_pos rfl, pf_let_eq, pf_l2_eq]
theorem lw_form {w : fa_W} {a : Int} (h : lw_I w) (ba : -2147483648 ≤ a ∧ a < 2147483648) : lw_R (fm_Law_form a w) (fm_Mod_form a) := by
  have h0 := h
  obtain ⟨gs, t, la, li, si, nd, fb, sb, mk, bs, tp, flt, hP, hB, hX, hM⟩ := h
  have hV := hP.1
  have hG := hP.2.1
  have s := lw_s62 w
  obtain ⟨⟨ins, os, hS⟩, _⟩ := id hX
  by_cases z : pa_in 3 a
  · have hn := (lw_needSplit (w := w) ba).1 z
    obtain ⟨z1, z2⟩ := z
    obtain ⟨yv, hy⟩ := pd_yv_ex hV hG
    obtain ⟨cl, hC, m1, m2⟩ := px_masks hS
    obtain ⟨cl', hC', m3, m4⟩ := pm_masks hM.1.1
    have e := bk_C_one hC' hC
    subst e
    obtain ⟨sp, hsp⟩ : ∃ sp : Nat, a = (sp : Int) := ⟨a.toNat, by omega⟩
    subst hsp
    have len := pw_F_len (mk := mk) (sp := sp) (yv := yv) hV hG hC.1
    obtain ⟨w1, p1, p2, p3⟩ := px_showForm (sp := sp) (px_sK_sc (w 0 6)) hV hG hM.1.1.1 hS hy (by omega) hC.1 m2
    obtain ⟨v, hv⟩ : ∃ v : Int, v = ((pw_F gs t fb sb yv la si mk cl' sp).length : Int) := ⟨_, rfl⟩
    rw [← hv] at p1
    obtain ⟨w2, hw2⟩ : ∃ w2, w2 = fa_st (fa_st w1 237 0 (fa_wr v)) 181 0 0 := ⟨_, rfl⟩
    have o2 : ∀ i j, i ≠ 237 → ¬ (i = 181 ∧ j = 0) → w2 i j = w1 i j := fun i j p q => by rw [hw2, fa_st_ne q, fa_st_ne (by omega)]
    have M1 : pm_IM gs t la li si nd fb sb mk w2 := lw_IM_ob hV hG hM.1 (fun i j p q r => by rw [o2 _ _ (by omega) (by omega), p3 i j (by omega) (by omega) (by omega) (by omega) (by omega) (by omega) (by omega)]) (fun j p q => by rw [o2 _ _ (by omega) (by omega), p3 181 j (by omega) (by omega) (by omega) (by omega) (by omega) (by omega) (by omega)])
    have hn2 := (lw_noSplit (x := 1) (w := w2) ba).1 ⟨z1, z2⟩
    obtain ⟨w3, q1, q2, q3⟩ := pm_writesForm hV hG M1.1 hP.2.2.2.1 hP.2.2.2.2 hy (sp := sp) (by omega) hC.1 (by rw [o2 _ _ (by omega) (by omega), p3 _ _ (by omega) (by omega) (by omega) (by omega) (by omega) (by omega) (by omega)]; exact m4)
    refine lw_R0 (v := v) (w1 := w1) (u := w3 181 70) (w2 := w3) ?_ ?_ ?_ ?_ ?_ ⟨gs, t, la, li, si, nd, fb, sb, mk, pw_F gs t fb sb yv la si mk cl' sp, tp, flt, hP, ⟨by omega, hB.2⟩, ?_, ?_⟩
    · unfold fm_Law_form fm_Face_form
      rw [hn, pf_bd_eq, if_pos rfl, p1, pf_bd_eq]
      rfl
    · unfold fm_Mod_form
      rw [pf_let_eq, ← hw2, hn2, pf_l2_eq, if_neg (by decide), q1]
      rfl
    · rw [q3 _ _ (by omega) (by omega), hw2, fa_st_eq]
    · rw [q3 _ _ (by omega) (by omega), hw2, fa_st_ne (by omega), fa_st_eq]
    · rw [q2.1, ← hv]
    · exact lw_X_sh hV hX (fun i j p => by rw [q3 _ _ (by omega) (by omega), o2 _ _ (by omega) (by omega), p3 i j (by omega) (by omega) (by omega) (by omega) (by omega) (by omega) (by omega)]) (fun i j p q => by rw [q3 _ _ (by omega) (by omega), o2 _ _ (by omega) (by omega), p3 _ _ (by omega) (by omega) (by omega) (by omega) (by omega) (by omega) (by omega)]) (fun i j p q => by rw [q3 _ _ (by omega) (by omega), o2 _ _ (by omega) (by omega), p3 _ _ (by omega) (by omega) (by omega) (by omega) (by omega) (by omega) (by omega)]) (lw_RL p2 (by rw [q3 _ _ (by omega) (by omega), o2 _ _ (by omega) (by omega)]) (fun j => by rw [q3 _ _ (by omega) (by omega), o2 _ _ (by omega) (by omega)]))
    · exact lw_M_sh hV hG hM (fun i j p q r => by rw [q3 _ _ (by omega) (by omega), o2 _ _ (by omega) (by omega), p3 i j (by omega) (by omega) (by omega) (by omega) (by omega) (by omega) (by omega)]) (fun j p q r => by rw [q3 _ _ (by omega) (by omega), o2 _ _ (by omega) (by omega), p3 _ _ (by omega) (by omega) (by omega) (by omega) (by omega) (by omega) (by omega)]) q2
  · have hn := (lw_needSplit (w := w) ba).2 z
    have hn2 := (lw_noSplit (x := 1) (w := fa_st w 181 0 0) ba).2 z
    refine lw_R1 (v := 1) (w1 := w) (u := 0) (w2 := fa_st (fa_st w 181 0 0) 181 0 1) ?_ (by decide) ?_ (fa_st_eq _ _ _ _) (lw_I_ob h0 (fun i j p q => by rw [fa_st_ne (by omega), fa_st_ne (by omega)]))
    · unfold fm_Law_form fm_Face_form
      rw [hn, pf_bd_eq]
      rfl
    · unfold fm_Mod_form
      rw [pf_let_eq, hn2, pf_l2_eq, if_pos rfl]
theorem lw_read {w : fa_W} (h : lw_I w) : lw_R (fm_Law_read w) fm_Mod_read := by
  obtain ⟨gs, t, la, li, si, nd, fb, sb, mk, bs, tp, flt, hP, hB, hX, hM⟩ := h
  have hV := hP.1
  have hG := hP.2.1
  have s := lw_s62 w
  obtain ⟨⟨ins, os, hS⟩, h67, x3, x4, x5, x6⟩ := id hX
  have s67 := s.2.2.2.2 h67
  obtain ⟨hb1, hb2, hb3, hb4, hb5⟩ := id hB
  obtain ⟨c, hc⟩ : ∃ c : Nat → Int, c = fun k => if k < tp.length then ((tp.getD k 0 : Nat) : Int) else -1 := ⟨_, rfl⟩
  have ck : ∀ (k x : Nat), tp[k]? = some x → c k = (x : Int) ∧ x < 256 := fun k x h => by
    have hk : k < tp.length := by
      by_cases z : k < tp.length
      · exact z
      · rw [List.getElem?_eq_none (by omega)] at h; cases h
    refine ⟨?_, hb3 x (List.mem_of_getElem? h)⟩
    rw [hc]
    show (if k < tp.length then ((tp.getD k 0 : Nat) : Int) else -1) = _
    rw [if_pos hk, List.getD_eq_getElem?_getD, h]
    rfl
  have ex : ∀ k, k < tp.length → ∃ x : Nat, tp[k]? = some x := fun k hk => ⟨tp[k], List.getElem?_eq_getElem hk⟩
  have hTX : ps_TX c tp.length := ⟨fun k hk => by rw [hc]; show (if k < tp.length then ((tp.getD k 0 : Nat) : Int) else -1) = _; rw [if_neg (by omega)], fun k hk => by
    obtain ⟨x, hx⟩ := ex k hk
    obtain ⟨e1, e2⟩ := ck k x hx
    rw [e1]
    omega⟩
  have hxt : px_tx c tp.length w := ⟨hTX, hb2, x4.1, fun k hk => by
    obtain ⟨x, hx⟩ := ex k hk
    rw [(ck k x hx).1]
    exact x4.2 k x hx⟩
  have tpm : ∀ w1 : fa_W, (∀ i j, i = 181 ∨ i = 182 → w1 i j = w i j) → pm_tp c tp.length w1 := fun w1 e => ⟨hTX, hb2, by rw [e _ _ (by omega)]; exact hM.2.2.2.1.1, fun k hk => by
    obtain ⟨x, hx⟩ := ex k hk
    rw [(ck k x hx).1, e _ _ (by omega)]
    exact hM.2.2.2.1.2 k x hx⟩
  cases hq : ps_all c tp.length false 9 [] ps_S0 with
  | none => exact absurd hq (ps_all_ne hxt)
  | some q =>
    cases q with
    | error z =>
      obtain ⟨w1, p1, p2, p3, p4⟩ := px_read_bad hxt hq
      obtain ⟨w2, q1, q2, q3, q4, q5, q6, q7, q8⟩ := pm_read_bad hP (pm_KT_ob (fun j => p4 224 j (by omega) (by omega) (by omega)) (p4 181 72 (by omega) (by omega) (by omega)) hM.2.1) (tpm w1 (fun i j p => p4 i j (by omega) (by omega) (by omega))) hq
      obtain ⟨_, _, _, b3, _⟩ := pm_readsAll_bad (fr := false) (w := fa_st (fa_st (fun i j => if i = 196 then pm_sb (c j) else 0) 181 25 (tp.length : Int)) 181 31 0) ⟨hTX, by omega, by rw [fa_st_ne (by omega), fa_st_ne (by omega), fa_st_eq], fun k hk => by rw [fa_st_ne (by omega), fa_st_ne (by omega), fa_st_ne (by omega)]; rfl⟩ hq
      refine lw_R1 (v := 1) (w1 := w1) (u := 0) (w2 := w2) ?_ (by decide) q1 q2 ⟨gs, t, la, li, si, nd, fb, sb, mk, bs, [], (z : Int), hP, ⟨hb1, Nat.zero_le _, (fun x hx => by cases hx), by omega, by omega⟩, ⟨⟨ins, os, ?_⟩, ?_, ?_, ⟨?_, fun i x e => by cases e⟩, ?_, ?_⟩, q6, q7, ?_, ⟨q4, fun i x e => by cases e⟩, q3⟩
      · unfold fm_Law_read
        rw [p1]
        rfl
      · rw [q8 0 6 (by omega), p4 0 6 (by omega) (by omega) (by omega)]
        exact px_SC_ob hV (fun i j a b => by rw [q8 i j (by omega), p4 i j (by omega) (by omega) (by omega)]) hS
      · rw [q8 0 6 (by omega), p4 0 6 (by omega) (by omega) (by omega), q8 0 7 (by omega), p4 0 7 (by omega) (by omega) (by omega)]
        exact h67
      · exact lw_RL x3 (by rw [q8 _ _ (by omega), p4 _ _ (by omega) (by omega) (by omega)]) (fun j => by rw [q8 _ _ (by omega), p4 _ _ (by omega) (by omega) (by omega)])
      · rw [q8 _ _ (by omega), p3]; rfl
      · rw [q8 _ _ (by omega), p2]
      · exact ⟨by rw [q8 _ _ (by omega), p4 _ _ (by omega) (by omega) (by omega)]; exact x6.1, lw_C_ob x6.2 (fun i j p q => by rw [q8 _ _ (by omega), p4 _ _ (by omega) (by omega) (by omega)])⟩
      · refine ⟨?_, fun i x e => ?_⟩
        · rw [q5, p4 _ _ (by omega) (by omega) (by omega)]; exact hM.2.2.1.1
        · rw [q8 _ _ (by omega), p4 _ _ (by omega) (by omega) (by omega)]; exact hM.2.2.1.2 i x e
    | ok u =>
      obtain ⟨G, T, S⟩ := u
      obtain ⟨V', hrd⟩ := px_read_ok hxt hq
      obtain ⟨fb', sb', hG'⟩ := pf_G_ex V'
      obtain ⟨w1, p1, p8, p11, pf⟩ := hrd fb' sb' hG'
      rcases p1 with ⟨ty, p1, ⟨p6, p7, p31, p45⟩, os', mk1, pS⟩ | ⟨nty, p1, p6, p7, p31, p45⟩
      · obtain ⟨v, hv⟩ : ∃ v : Int, v = (((pk_rnG G.length G).length + S.2.2.1 : Nat) : Int) := ⟨_, rfl⟩
        have Kw : pm_KT gs t la li si nd (fa_st w1 237 0 (fa_wr v)) := pm_KT_ob (fun j => by rw [fa_st_ne (by omega), pf 224 j (by omega) (by omega) (by omega) (by omega) (by omega) (by omega)]) (by rw [fa_st_ne (by omega), pf 181 72 (by omega) (by omega) (by omega) (by omega) (by omega) (by omega)]) hM.2.1
        rcases pm_read_ok hP Kw (tpm _ (fun i j p => by rw [fa_st_ne (by omega), pf i j (by omega) (by omega) (by omega) (by omega) (by omega) (by omega)])) hq V' hG' with ⟨nt, _⟩ | ⟨_, w2, mk2, q1, q2, q3, q4, q5, q9, q6, q7, q8⟩
        · exact absurd ty nt
        · have em : mk1 = mk2 := pf_mk_one (gs := gs) (la := la) pS.2.2.2.1.2 q9.2
          subst em
          rw [← hv] at p1 q1
          refine lw_R0 (v := v) (w1 := w1) (u := v) (w2 := w2) ?_ q1 q2 (by rw [q8 237 0 (by omega), fa_st_eq]) rfl ⟨_, _, _, _, _, _, fb', sb', mk1, [], [], -1, ⟨V', hG', ty, q9⟩, ⟨Nat.zero_le _, Nat.zero_le _, (fun x hx => by cases hx), by omega, by omega⟩, ⟨⟨S.2.2.2.1, os', ?_⟩, ?_, ⟨?_, fun i x e => by cases e⟩, ⟨?_, fun i x e => by cases e⟩, ?_, ?_⟩, q6, q7, ⟨q5, fun i x e => by cases e⟩, ⟨q4, fun i x e => by cases e⟩, q3⟩
          · unfold fm_Law_read
            rw [p1]
            rfl
          · rw [q8 0 6 (by omega), fa_st_ne (by omega), p6]
            exact px_SC_ob V' (fun i j a b => by rw [q8 i j (by omega), fa_st_ne (by omega)]) pS
          · rw [q8 0 6 (by omega), fa_st_ne (by omega), p6, q8 0 7 (by omega), fa_st_ne (by omega), p7]
            exact fun e => h67 e.symm
          · rw [q8 3 1 (by omega), fa_st_ne (by omega), p31]; rfl
          · rw [q8 1 1 (by omega), fa_st_ne (by omega), p11]; rfl
          · rw [q8 0 8 (by omega), fa_st_ne (by omega), p8]
          · exact ⟨by rw [q8 45 1 (by omega), fa_st_ne (by omega), pf 45 1 (by omega) (by omega) (by omega) (by omega) (by omega) (by omega)]; exact x6.1, Or.inl (by rw [q8 44 5 (by omega), fa_st_ne (by omega), p45])⟩
      · have Kw : pm_KT gs t la li si nd w1 := pm_KT_ob (fun j => by rw [pf 224 j (by omega) (by omega) (by omega) (by omega) (by omega) (by omega)]) (by rw [pf 181 72 (by omega) (by omega) (by omega) (by omega) (by omega) (by omega)]) hM.2.1
        rcases pm_read_ok hP Kw (tpm _ (fun i j p => by rw [pf i j (by omega) (by omega) (by omega) (by omega) (by omega) (by omega)])) hq V' hG' with ⟨_, w2, q1, q2, q3, q4, q5, q6, q7, q8⟩ | ⟨ty, _⟩
        · have pf2 : ∀ i j, (i < 7 ∨ 36 < i) → ¬ (i = 0 ∧ j = 8) → ¬ (i = 1 ∧ j = 1) → (i < fa_sc (w 0 7) + 1 ∨ fa_sc (w 0 7) + 62 < i) → w1 i j = w i j := fun i j a b d e => by
            by_cases y : i = 0 ∧ 6 ≤ j ∧ j ≤ 8
            · obtain ⟨y1, y2, y3⟩ := y
              subst y1
              rcases (by omega : j = 6 ∨ j = 7) with g | g
              · rw [g]; exact p6
              · rw [g]; exact p7
            · by_cases y2 : i = 3 ∧ j = 1
              · rw [y2.1, y2.2]; exact p31
              · by_cases y3 : i = 44 ∧ j = 5
                · rw [y3.1, y3.2]; exact p45
                · exact pf i j a y d y2 y3 e
          refine lw_R1 (v := 2) (w1 := w1) (u := 0) (w2 := w2) ?_ (by decide) q1 q2 ⟨gs, t, la, li, si, nd, fb, sb, mk, bs, [], -1, hP, ⟨hb1, Nat.zero_le _, (fun x hx => by cases hx), by omega, by omega⟩, ⟨⟨ins, os, ?_⟩, ?_, ?_, ⟨?_, fun i x e => by cases e⟩, ?_, ?_⟩, q6, q7, ?_, ⟨q4, fun i x e => by cases e⟩, q3⟩
          · unfold fm_Law_read
            rw [p1]
            rfl
          · rw [q8 0 6 (by omega), p6]
            exact px_SC_ob hV (fun i j a b => by rw [q8 i j (by omega), pf2 i j (by omega) (by omega) (by omega) (by omega)]) hS
          · rw [q8 0 6 (by omega), p6, q8 0 7 (by omega), p7]
            exact h67
          · exact lw_RL x3 (by rw [q8 _ _ (by omega), pf2 _ _ (by omega) (by omega) (by omega) (by omega)]) (fun j => by rw [q8 _ _ (by omega), pf2 _ _ (by omega) (by omega) (by omega) (by omega)])
          · rw [q8 _ _ (by omega), p11]; rfl
          · rw [q8 _ _ (by omega), p8]
          · exact ⟨by rw [q8 _ _ (by omega), pf2 _ _ (by omega) (by omega) (by omega) (by omega)]; exact x6.1, lw_C_ob x6.2 (fun i j p q => by rw [q8 _ _ (by omega), pf2 _ _ (by omega) (by omega) (by omega) (by omega)])⟩
          · refine ⟨?_, fun i x e => ?_⟩
            · rw [q5, pf2 _ _ (by omega) (by omega) (by omega) (by omega)]; exact hM.2.2.1.1
            · rw [q8 _ _ (by omega), pf2 _ _ (by omega) (by omega) (by omega) (by omega)]; exact hM.2.2.1.2 i x e
        · exact absurd ty nty
