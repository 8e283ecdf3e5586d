/-! THE FORM by the class: groups, the whole -/
theorem px_form_48 {sc sp : Nat} {gs : ps_G} {t : pt_T} {la li si nd mk CL : Nat} {ins os : List Nat} {fb : Nat → pt_T} {sb : pf_sT} {yv : Nat → Nat} {w0 : fa_W} (H : px_FO sc sp gs t la li si nd mk CL ins os fb sb yv w0) {a2 : Int} {k14 : Int → fa_W → Option (Int × fa_W)} {k c : Nat} (hk : k < 100) (hc : c < 2 ^ (gs.length + la)) : ∀ (d f F : Nat) (l : List Nat) (w : fa_W), f + d = gs.length + la → d < F → pw_fw w0 w → px_RL 3 l w → l.length + (pw_cg (pw_D fb yv) (fun f => pw_E gs t fb sb yv la si mk sp (fb f)) yv k c d f ++ (if c = 0 then pw_tx 4 else pw_tx 5)).length ≤ 6990 → ∃ w', fm_Writer_showForm_l48 sc a2 k14 F (k : Int) (c : Int) (f : Int) w = k14 ((k + 1 : Nat) : Int) w' ∧ px_RL 3 (l ++ (pw_cg (pw_D fb yv) (fun f => pw_E gs t fb sb yv la si mk sp (fb f)) yv k c d f ++ (if c = 0 then pw_tx 4 else pw_tx 5))) w' ∧ pw_fw w0 w' := by
  have H0 := H
  obtain ⟨hsc, hV, hG, hX, hy, ⟨hsp, h37⟩, _, WP⟩ := H0
  have sc54 : 54 < sc := by rcases hsc with h | h <;> omega
  obtain ⟨a1, _, _, _, _, a6, _⟩ := px_sK_all hsc
  have v1 := hV.1
  have v2 := hV.2.1
  have c24 : c < 2 ^ 24 := Nat.lt_of_lt_of_le hc (Nat.pow_le_pow_right (by omega) (by omega))
  have h14 : w0 (sc + 1) 14 = ((gs.length + la : Nat) : Int) := hX.1.2.1.2.1
  intro d
  induction d with
  | zero =>
    intro f F l w hf hF he hR hl
    obtain ⟨F, rfl⟩ : ∃ n, F = n + 1 := ⟨F - 1, by omega⟩
    have e14 : w (sc + 1) 14 = ((gs.length + la : Nat) : Int) := by rw [he _ _ (by omega) (by omega) (by omega) (by omega) (by omega) (by omega)]; exact h14
    have j : ∀ s : Fin 35, (if c = 0 then pw_tx 4 else pw_tx 5) = pw_tx s → ∃ w', fm_Writer_showForm_j131 sc a2 k14 (k : Int) s w = k14 ((k + 1 : Nat) : Int) w' ∧ px_RL 3 (l ++ ([] ++ (if c = 0 then pw_tx 4 else pw_tx 5))) w' ∧ pw_fw w0 w' := fun s es => by
      rw [es, List.nil_append]
      obtain ⟨w1, p1, p2, p3⟩ := px_putText s hR (by rw [← es]; rw [List.length_append] at hl; omega)
      refine ⟨w1, ?_, p2, pw_fw_r he (pw_fr_p p3)⟩
      unfold fm_Writer_showForm_j131
      rw [p1, Option.bind_some, pf_let_eq]
      rfl
    show ∃ w', _ ∧ px_RL 3 (l ++ ([] ++ (if c = 0 then pw_tx 4 else pw_tx 5))) w' ∧ pw_fw w0 w'
    unfold fm_Writer_showForm_l48
    rw [a6, e14, pb_wr (by omega), pb_wr (by omega), if_pos (by omega), pb_wr (by omega)]
    by_cases z : c = 0
    · rw [if_pos (by omega)]
      exact j 4 (by rw [if_pos z])
    · rw [if_neg (by omega)]
      exact j 5 (by rw [if_neg z])
  | succ d ih =>
    intro f F l w hf hF he hR hl
    obtain ⟨F, rfl⟩ : ∃ n, F = n + 1 := ⟨F - 1, by omega⟩
    have e14 : w (sc + 1) 14 = ((gs.length + la : Nat) : Int) := by rw [he _ _ (by omega) (by omega) (by omega) (by omega) (by omega) (by omega)]; exact h14
    have eg : pw_cg (pw_D fb yv) (fun f => pw_E gs t fb sb yv la si mk sp (fb f)) yv k c (d + 1) f = (if c.testBit f = true then (if f = pw_lo c 24 0 then pw_tx 7 ++ (pw_nu k ++ pw_tx 8) else pw_tx 6) ++ pw_c1 (pw_D fb yv) (fun f => pw_E gs t fb sb yv la si mk sp (fb f)) yv f else []) ++ pw_cg (pw_D fb yv) (fun f => pw_E gs t fb sb yv la si mk sp (fb f)) yv k c d (f + 1) := rfl
    rw [eg] at hl ⊢
    unfold fm_Writer_showForm_l48
    rw [a6, e14, pb_wr (by omega), pb_wr (by omega), if_neg (by omega), pf_hb (by omega) (by omega)]
    by_cases z : c.testBit f = true
    · rw [if_pos z] at hl ⊢
      rw [if_pos z]
      have c0 : 0 < c := by
        rcases Nat.eq_zero_or_pos c with q | q
        · rw [q, Nat.zero_testBit] at z; cases z
        · exact q
      obtain ⟨q, q1, q2, q3, q4⟩ := pf_lowest c24 c0 w
      have lo := pw_lo_eq q2 q3 24 0 (by omega) (by omega)
      rw [q4, pb_wr (by omega), lo]
      rw [lo] at hl
      have step : ∀ b : Bool, (b = true ↔ f = q) → ∃ w', fm_Writer_showForm_j92 sc a2 (fun x3 x4 x5 w9 => fm_Writer_showForm_l48 sc a2 k14 F x3 x4 x5 w9) (k : Int) (c : Int) (f : Int) (if b = true then (k : Int) else -1) (f : Int) w = k14 ((k + 1 : Nat) : Int) w' ∧ px_RL 3 (l ++ (((if f = q then pw_tx 7 ++ (pw_nu k ++ pw_tx 8) else pw_tx 6) ++ pw_c1 (pw_D fb yv) (fun f => pw_E gs t fb sb yv la si mk sp (fb f)) yv f) ++ pw_cg (pw_D fb yv) (fun f => pw_E gs t fb sb yv la si mk sp (fb f)) yv k c d (f + 1) ++ (if c = 0 then pw_tx 4 else pw_tx 5))) w' ∧ pw_fw w0 w' := fun b hb => by
        have eb : (if f = q then pw_tx 7 ++ (pw_nu k ++ pw_tx 8) else pw_tx 6) = (if b = true then pw_tx 7 ++ (pw_nu k ++ pw_tx 8) else pw_tx 6) := by
          by_cases y : f = q
          · rw [if_pos y, if_pos (hb.mpr y)]
          · rw [if_neg y, if_neg (fun h => y (hb.mp h))]
        rw [eb] at hl ⊢
        rw [List.length_append, List.length_append] at hl
        obtain ⟨w1, p1, p2, p3⟩ := px_case (a2 := a2) (k48 := fun x3 x4 x5 w9 => fm_Writer_showForm_l48 sc a2 k14 F x3 x4 x5 w9) (c := (c : Int)) (f := f) H (by omega) he b hk hR (by omega)
        obtain ⟨w2, r1, r2, r3⟩ := ih (f + 1) F _ w1 (by omega) (by omega) p3 p2 (by simp only [List.length_append] at hl ⊢; omega)
        refine ⟨w2, ?_, ?_, r3⟩
        · rw [p1]; exact r1
        · rw [List.append_assoc, ← List.append_assoc l]
          exact r2
      by_cases y : f = q
      · rw [if_pos (by omega)]
        exact step true ⟨fun _ => y, fun _ => rfl⟩
      · rw [if_neg (by omega)]
        exact step false ⟨(fun h => by cases h), fun h => absurd h y⟩
    · rw [if_neg z, List.nil_append] at hl
      rw [if_neg z, if_neg z, List.nil_append, pf_let_eq]
      exact ih (f + 1) F l w (by omega) (by omega) he hR hl
theorem px_form_14 {sc sp : Nat} {gs : ps_G} {t : pt_T} {la li si nd mk CL : Nat} {ins os : List Nat} {fb : Nat → pt_T} {sb : pf_sT} {yv : Nat → Nat} {w0 : fa_W} (H : px_FO sc sp gs t la li si nd mk CL ins os fb sb yv w0) : ∀ (r : List Nat) (k F : Nat) (l : List Nat) (w : fa_W), (pg_g gs t (pf_A fb t sb (gs.length + la)) si (gs.length + la) mk sp).drop k = r → k ≤ (pg_g gs t (pf_A fb t sb (gs.length + la)) si (gs.length + la) mk sp).length → r.length < F → pw_fw w0 w → px_RL 3 l w → l.length + (pw_gl (pw_D fb yv) (fun f => pw_E gs t fb sb yv la si mk sp (fb f)) yv (gs.length + la) CL r k ++ pw_E gs t fb sb yv la si mk sp t).length ≤ 6990 → ∃ w', fm_Writer_showForm_l14 sc (sp : Int) F (k : Int) w = some (((l ++ (pw_gl (pw_D fb yv) (fun f => pw_E gs t fb sb yv la si mk sp (fb f)) yv (gs.length + la) CL r k ++ pw_E gs t fb sb yv la si mk sp t)).length : Int), w') ∧ px_RL 3 (l ++ (pw_gl (pw_D fb yv) (fun f => pw_E gs t fb sb yv la si mk sp (fb f)) yv (gs.length + la) CL r k ++ pw_E gs t fb sb yv la si mk sp t)) w' ∧ pw_fw w0 w' := by
  have H0 := H
  obtain ⟨hsc, hV, hG, hX, hy, ⟨hsp, h37⟩, ⟨hC, hC6⟩, WP⟩ := H0
  have sc54 : 54 < sc := by rcases hsc with h | h <;> omega
  obtain ⟨a1, _, _, _, _, a6, _, a8, a9⟩ := px_sK_all hsc
  have v1 := hV.1
  have v2 := hV.2.1
  have fo : ∀ {w : fa_W}, pw_fw w0 w → px_SC sc gs t la li si nd ins os fb sb mk w := fun {w} e => px_SC_ob hV (fun i j q1 q2 => e i j (by omega) (by omega) (by omega) (by omega) (by omega) (by omega)) hX
  obtain ⟨FU, hFU⟩ : ∃ FU, FU = fa_FU := ⟨_, rfl⟩
  have hFU2 : 100 < FU := by rw [hFU]; unfold fa_FU; omega
  have p24 : 2 ^ (gs.length + la) ≤ 2 ^ 24 := Nat.pow_le_pow_right (by omega) (by omega)
  intro r
  induction r with
  | nil =>
    intro k F l w hr hk hF he hR hl
    obtain ⟨F, rfl⟩ : ∃ n, F = n + 1 := ⟨F - 1, by omega⟩
    have GX := px_GX_SC hsc hV (fo he) hsp
    have kl : (pg_g gs t (pf_A fb t sb (gs.length + la)) si (gs.length + la) mk sp).length ≤ k := List.drop_eq_nil_iff.mp hr
    have glen := GX.2.2.2.1
    obtain ⟨c, c1, c2, c3⟩ := (px_expr_at hV hG (fo he)).2
    obtain ⟨c', c1', c2', c3'⟩ := (px_expr_at hV hG hX).2
    have ce : c = c' := by
      have : w (sc + 1) 16 = w0 (sc + 1) 16 := he _ _ (by omega) (by omega) (by omega) (by omega) (by omega) (by omega)
      have p := pt_sz_pos t
      rw [c2, c2'] at this
      omega
    subst ce
    obtain ⟨w', p1, p2, p3⟩ := px_putExpr WP (by omega) t hG.2.2.2.1.1 c3' c1 hG.2.2.2.1.2.2.1 hV.2.2.2.2.2.2.1 (by unfold pk_gn; rw [List.length_map]; exact Nat.le_refl _) he hR hl
    refine ⟨w', ?_, p3, p2⟩
    unfold fm_Writer_showForm_l14
    rw [a9, (px_gmany GX).1, pb_wr (by omega), pb_wr (by omega), if_pos (by omega), a6, c2, p1, Option.bind_some]
    show some (w' 3 1, w') = _
    rw [p3.1]
    rfl
  | cons m r ih =>
    intro k F l w hr hk hF he hR hl
    obtain ⟨F, rfl⟩ : ∃ n, F = n + 1 := ⟨F - 1, by omega⟩
    have GX := px_GX_SC hsc hV (fo he) hsp
    have glen := GX.2.2.2.1
    have kl : k < (pg_g gs t (pf_A fb t sb (gs.length + la)) si (gs.length + la) mk sp).length := by
      by_cases z : k < (pg_g gs t (pf_A fb t sb (gs.length + la)) si (gs.length + la) mk sp).length
      · exact z
      · rw [List.drop_eq_nil_iff.mpr (by omega)] at hr; cases hr
    have hm : (pg_g gs t (pf_A fb t sb (gs.length + la)) si (gs.length + la) mk sp).getD k 0 = m := by
      rw [List.drop_eq_getElem_cons kl] at hr
      rw [List.getD_eq_getElem?_getD, List.getElem?_eq_getElem kl]
      exact (List.cons.inj hr).1
    have hr' : (pg_g gs t (pf_A fb t sb (gs.length + la)) si (gs.length + la) mk sp).drop (k + 1) = r := by
      rw [List.drop_eq_getElem_cons kl] at hr
      exact (List.cons.inj hr).2
    have mlt : m < 2 ^ (gs.length + la) := by rw [← hm]; exact GX.2.2.2.2.1 k kl
    have ea : fa_iand (fm_Groups_members (fa_rf sc 3) (sp : Int) (k : Int) w) (w (fa_rf sc 2) 6) = ((m &&& CL : Nat) : Int) := by
      rw [a9, px_members GX kl, hm, a8, he _ _ (by omega) (by omega) (by omega) (by omega) (by omega) (by omega), hC6, pb_and (by omega) (by omega)]
    have eg : pw_gl (pw_D fb yv) (fun f => pw_E gs t fb sb yv la si mk sp (fb f)) yv (gs.length + la) CL (m :: r) k = (pw_cg (pw_D fb yv) (fun f => pw_E gs t fb sb yv la si mk sp (fb f)) yv k (m &&& CL) (gs.length + la) 0 ++ (if m &&& CL = 0 then pw_tx 4 else pw_tx 5)) ++ pw_gl (pw_D fb yv) (fun f => pw_E gs t fb sb yv la si mk sp (fb f)) yv (gs.length + la) CL r (k + 1) := rfl
    rw [eg] at hl ⊢
    rw [List.append_assoc, List.length_append] at hl
    obtain ⟨w1, p1, p2, p3⟩ := px_form_48 (a2 := (sp : Int)) (k14 := fun x3 w9 => fm_Writer_showForm_l14 sc (sp : Int) F x3 w9) (k := k) (c := m &&& CL) H (by omega) (Nat.lt_of_le_of_lt Nat.and_le_right hC) (gs.length + la) 0 FU l w (by omega) (by omega) he hR (by omega)
    obtain ⟨w2, q1, q2, q3⟩ := ih (k + 1) F _ w1 hr' (by omega) (by rw [List.length_cons] at hF; omega) p3 p2 (by rw [List.length_append (bs := _ ++ _)]; simp only [List.length_append] at hl ⊢; omega)
    rw [List.append_assoc, ← List.append_assoc l]
    refine ⟨w2, ?_, q2, q3⟩
    unfold fm_Writer_showForm_l14
    rw [a9, (px_gmany GX).1, pb_wr (by omega), pb_wr (by omega), if_neg (by omega), ← a9, pf_let_eq, ea, ← hFU]
    exact p1.trans q1
theorem px_showForm {sc sp : Nat} {gs : ps_G} {t : pt_T} {la li si nd mk CL : Nat} {ins os : List Nat} {fb : Nat → pt_T} {sb : pf_sT} {yv : Nat → Nat} {w wm : fa_W} (hsc : px_sK sc) (hV : pn_V gs t la li si nd) (hG : pf_G gs t la li si fb sb) (hW : pm_Pw gs t la li si nd wm) (hX : px_SC sc gs t la li si nd ins os fb sb mk w) (hy : ∀ f, f < gs.length + la → (∀ v ∈ pd_fl f (fb f), pd_yq gs t v (yv v)) ∧ pd_yq gs t f (yv f)) (hsp : sp < 3) (hC : CL < 2 ^ (gs.length + la)) (hC6 : w (sc + 45) 6 = (CL : Int)) : ∃ w', fm_Writer_showForm sc (sp : Int) w = some (((pw_F gs t fb sb yv la si mk CL sp).length : Int), w') ∧ px_RL 3 (pw_F gs t fb sb yv la si mk CL sp) w' ∧ ∀ i j, i ≠ 3 → i ≠ 4 → i ≠ 38 → i ≠ 39 → i ≠ 42 → i ≠ 43 → ¬ (i = 37 ∧ j = 4) → w' i j = w i j := by
  have len := pw_F_len (nd := nd) (li := li) (mk := mk) (sp := sp) (yv := yv) hV hG hC
  obtain ⟨w0, hw0⟩ : ∃ w0, w0 = fa_st (fa_st w 3 1 0) 37 4 (sp : Int) := ⟨_, rfl⟩
  have o0 : ∀ i j, ¬ (i = 3 ∧ j = 1) → ¬ (i = 37 ∧ j = 4) → w0 i j = w i j := fun i j p q => by rw [hw0, fa_st_ne q, fa_st_ne p]
  have s54 : 54 < sc := by rcases hsc with h | h <;> omega
  have X0 := px_SC_ob (w' := w0) hV (fun i j p q => o0 i j (by omega) (by omega)) hX
  have H : px_FO sc sp gs t la li si nd mk CL ins os fb sb yv w0 := ⟨hsc, hV, hG, X0, hy, ⟨hsp, by rw [hw0, fa_st_eq]⟩, ⟨hC, by rw [o0 _ _ (by omega) (by omega)]; exact hC6⟩, px_wP_SC hsc hV hG hW X0 hy hsp (by rw [hw0, fa_st_eq])⟩
  have GX := px_GX_SC hsc hV hX hsp
  have glen := GX.2.2.2.1
  have v1 := hV.1
  have v2 := hV.2.1
  obtain ⟨w', p1, p2, p3⟩ := px_form_14 H _ 0 fa_FU [] w0 (List.drop_zero ..) (Nat.zero_le _) (by unfold fa_FU; omega) (fun _ _ _ _ _ _ _ _ => rfl) ⟨by rw [hw0, fa_st_ne (by omega), fa_st_eq]; rfl, fun i x q => by cases q⟩ (by rw [List.length_nil, Nat.zero_add]; exact len)
  rw [List.nil_append] at p1 p2
  refine ⟨w', ?_, p2, fun i j q1 q2 q3 q4 q5 q6 q7 => (p3 i j q1 q2 q3 q4 q5 q6).trans (o0 i j (by omega) q7)⟩
  unfold fm_Writer_showForm
  rw [pf_rc_eq, pf_let_eq, pf_let_eq, ← hw0]
  exact p1
