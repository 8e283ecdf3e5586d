/-! show: the class -/
theorem px_names {gs : ps_G} {t : pt_T} {la li si nd : Nat} (hV : pn_V gs t la li si nd) : ∀ g x v e, gs[g]? = some (x, v, e) → pk_nm x ∧ pk_nm v ∧ e = pn_tr gs t g := by
  obtain ⟨_, _, _, _, _, _, _, k1, v8, _⟩ := hV
  have key : ∀ (gs : ps_G) (gl : List Nat) (k k1 : pk_K), pn_GW gs.length gs gl k k1 → True := fun _ _ _ _ _ => trivial
  have main : ∀ (B : Nat) (gs : ps_G) (gl : List Nat) (k k1 : pk_K), pn_GW B gs gl k k1 → ∀ g x v e, gs[g]? = some (x, v, e) → pk_nm x ∧ pk_nm v ∧ e = pn_tr gs t g := by
    intro B gs
    induction gs with
    | nil => intro gl k k1 _ g x v e h; cases h
    | cons a r ih =>
      intro gl k k1 h g x v e q
      obtain ⟨y, u, b⟩ := a
      obtain ⟨n1, _, n2, _, _, k2, _, c2⟩ := h
      cases g with
      | zero => cases q; exact ⟨n1, n2, rfl⟩
      | succ g =>
        obtain ⟨i1, i2, i3⟩ := ih _ _ _ c2 g x v e q
        exact ⟨i1, i2, i3⟩
  exact main _ gs [] _ _ v8
theorem px_showProg_l {sc o : Nat} {gs : ps_G} {t : pt_T} {la li si nd : Nat} {ins os : List Nat} {fb : Nat → pt_T} {sb : pf_sT} {w0 : fa_W} (hsc : px_sK sc) (ho : o = sc + 1) (hV : pn_V gs t la li si nd) (hG : pf_G gs t la li si fb sb) (hX : px_V o gs t la li si nd ins os w0) (h37 : w0 37 4 = -1) : ∀ (d g F : Nat) (l : List Nat) (w : fa_W), g + d = gs.length → d < F → pw_fw w0 w → px_RL 3 l w → l.length + ((pw_g pw_al pw_al (gs.drop g) g).length + (pw_e pw_al t).length) ≤ 6900 → ∃ w', fm_Writer_showProgram_l19 sc F (g : Int) w = some (((l ++ (pw_g pw_al pw_al (gs.drop g) g ++ pw_e pw_al t)).length : Int), w') ∧ px_RL 3 (l ++ (pw_g pw_al pw_al (gs.drop g) g ++ pw_e pw_al t)) w' ∧ pw_fw w0 w' := by
  obtain ⟨a1, a2, a3, a4, a5, a6, a7, a8, a9⟩ := px_sK_all hsc
  have o54 : 54 < o := by rw [ho]; rcases hsc with h | h <;> omega
  have hp : px_po o := by rw [ho]; exact a1
  have hsc0 : fa_rf sc 0 = o := by rw [ho]; exact a6
  obtain ⟨⟨z1, z2, z3, z4, z5, z6, z7, z8, z9, z10⟩, ⟨y1, y2, y3⟩, h3, h4, h5, h6, h7, h8, h9, h10⟩ := id hX
  have v1 := hV.1
  have v2 := hV.2.1
  have v3 := hV.2.2.1
  have hxi : ∀ v, px_xi ins v < 74 := px_xi_lt h8
  obtain ⟨_, _, _, _, _, v6, v7, kk1, v8, v9⟩ := id hV
  obtain ⟨K, K', it, _⟩ := pn_items gs [] _ _ _ v8 v6 v7 v9
  have el : ([] : List Nat).length = 0 := rfl
  have WP : px_wP sc o nd (gs.length + la) si gs.length ins false pw_0 pw_0 w0 := ⟨hsc0, hp, by omega, ⟨z1, z2, z3, z4, z5, v3⟩, hxi, z7, ⟨v1, z9⟩, by rw [if_neg (by decide)]; exact h37, fun z => by cases z⟩
  have item : ∀ g, g ≤ gs.length → ∃ c hh gl sco, c + pt_sz (pn_tr gs t g) ≤ nd ∧ px_P o ins (pn_tr gs t g) hh c w0 ∧ (if g < gs.length then w0 (o + 20) g else w0 o 16) = ((c + pt_sz (pn_tr gs t g) - 1 : Nat) : Int) ∧ pf_W (gs.length + la) (24 + li) si (pn_tr gs t g) ∧ pk_wfs (pn_tr gs t g) gl sco ∧ gl.length ≤ gs.length ∧ pt_tw (pn_tr gs t g) := fun g hg => by
    obtain ⟨b1, _, _, _, gl', sc', b5, b6, _, _⟩ := it g hg
    obtain ⟨c, c1, c2, c3⟩ := px_L_in os 0 h7 g ((h5 g).mpr hg)
    refine ⟨c, _, gl', sc', by rw [h6] at c1; omega, c2, c3, ?_, b5, by rw [el] at b6; omega, b1⟩
    by_cases q : g < gs.length
    · rw [← hG.1 g q]; exact (hG.2.2.1 g (by omega)).2.1
    · have : g = gs.length := by omega
      rw [this, pn_tr_len]; exact hG.2.2.2.1.2.2.1
  have fo : ∀ {w : fa_W}, pw_fw w0 w → ∀ i j, 44 ≤ i → w i j = w0 i j := fun {w} e i j q => e i j (by omega) (by omega) (by omega) (by omega) (by omega) (by omega)
  have ffr : ∀ {w w' : fa_W}, pw_fw w0 w → pw_fr w w' → pw_fw w0 w' := fun {w w'} e f i j q1 q2 q3 q4 q5 q6 => (f i j q1 q2).trans (e i j q1 q2 q3 q4 q5 q6)
  intro d
  induction d with
  | zero =>
    intro g F l w hg hF hf hR hl
    obtain ⟨F, rfl⟩ : ∃ G, F = G + 1 := ⟨F - 1, by omega⟩
    have hgl : g = gs.length := by omega
    subst hgl
    rw [List.drop_length] at hl ⊢
    obtain ⟨c, hh, gl, sco, i1, i2, i3, i4, i5, i6, i7⟩ := item gs.length (Nat.le_refl _)
    rw [if_neg (by omega)] at i3
    rw [pn_tr_len] at i1 i2 i3 i4 i5 i7
    change l.length + (0 + (pw_e pw_al t).length) ≤ 6900 at hl
    obtain ⟨w', p1, p2, p3⟩ := px_putExpr WP (by omega) t i7 i2 i1 i4 i5 i6 hf hR (by show l.length + (pw_e pw_al t).length ≤ 6990; omega)
    have p3' : px_RL 3 (l ++ ([] ++ pw_e pw_al t)) w' := p3
    refine ⟨w', ?_, p3', p2⟩
    conv => lhs; unfold fm_Writer_showProgram_l19
    rw [hsc0, fo hf _ _ (by omega), y1, pb_wr (by omega), if_pos (by omega), fo hf _ _ (by omega), i3, p1, Option.bind_some]
    show some (w' 3 1, w') = _
    rw [p3'.1]
    rfl
  | succ d ih =>
    intro g F l w hg hF hf hR hl
    obtain ⟨F, rfl⟩ : ∃ G, F = G + 1 := ⟨F - 1, by omega⟩
    have hlt : g < gs.length := by omega
    obtain ⟨⟨x, v, e⟩, hge⟩ : ∃ e, gs[g]? = some e := ⟨gs[g], List.getElem?_eq_getElem hlt⟩
    have hge' : gs[g] = (x, v, e) := by
      rw [List.getElem?_eq_getElem hlt] at hge
      exact Option.some.inj hge
    obtain ⟨nx, nv, ne⟩ := px_names hV g x v e hge
    obtain ⟨g1, g2⟩ := px_gn_nam gs 0 h3 g x v e hge
    rw [Nat.zero_add] at g1 g2
    have hdr : pw_g pw_al pw_al (gs.drop g) g = (pw_tx 0 ++ (pw_nm x ++ (pw_tx 1 ++ (pw_nm v ++ (pw_tx 2 ++ (pw_e pw_al e ++ pw_tx 3)))))) ++ pw_g pw_al pw_al (gs.drop (g + 1)) (g + 1) := by
      rw [List.drop_eq_getElem_cons hlt, hge']
      rfl
    rw [hdr] at hl ⊢
    simp only [List.length_append] at hl
    obtain ⟨c, hh, gl, sco, i1, i2, i3, i4, i5, i6, i7⟩ := item g (by omega)
    rw [if_pos hlt] at i3
    rw [← ne] at i1 i2 i3 i4 i5 i7
    obtain ⟨w1, b1, b2, b3⟩ := px_putText 0 hR (by omega)
    have f1 := ffr hf b3
    obtain ⟨w2, c1, c2, c3⟩ := px_putName nx.1 b2 (by rw [List.length_append]; omega)
    have f2 := ffr f1 c3
    obtain ⟨w3, d1, d2, d3⟩ := px_putText 1 c2 (by simp only [List.length_append]; omega)
    have f3 := ffr f2 d3
    obtain ⟨w4, e1, e2, e3⟩ := px_putName nv.1 d2 (by simp only [List.length_append]; omega)
    have f4 := ffr f3 e3
    obtain ⟨w5, m1, m2, m3⟩ := px_putText 2 e2 (by simp only [List.length_append]; omega)
    have f5 := ffr f4 m3
    obtain ⟨w6, n1, n2, n3⟩ := px_putExpr WP (by omega) e i7 i2 i1 i4 i5 i6 f5 m2 (by show _ + (pw_e pw_al e).length ≤ 6990; simp only [List.length_append]; omega)
    have n3' : px_RL 3 (l ++ pw_tx 0 ++ pw_nm x ++ pw_tx 1 ++ pw_nm v ++ pw_tx 2 ++ pw_e pw_al e) w6 := n3
    obtain ⟨w7, q1, q2, q3⟩ := px_putText 3 n3' (by simp only [List.length_append]; omega)
    have f7 := ffr n2 q3
    obtain ⟨w', r1, r2, r3⟩ := ih (g + 1) F _ w7 (by omega) (by omega) f7 q2 (by simp only [List.length_append]; omega)
    have ea : l ++ ((pw_tx 0 ++ (pw_nm x ++ (pw_tx 1 ++ (pw_nm v ++ (pw_tx 2 ++ (pw_e pw_al e ++ pw_tx 3)))))) ++ pw_g pw_al pw_al (gs.drop (g + 1)) (g + 1) ++ pw_e pw_al t) = (l ++ pw_tx 0 ++ pw_nm x ++ pw_tx 1 ++ pw_nm v ++ pw_tx 2 ++ pw_e pw_al e ++ pw_tx 3) ++ (pw_g pw_al pw_al (gs.drop (g + 1)) (g + 1) ++ pw_e pw_al t) := by simp only [List.append_assoc]
    rw [ea]
    refine ⟨w', ?_, r2, r3⟩
    conv => lhs; unfold fm_Writer_showProgram_l19
    have gn := px_gnat hp (by omega) v1 hlt z9 g1 f1
    have vn : fr_at (fa_rf o 6) (g : Int) w3 = (v : Int) := by
      obtain ⟨r1, r2, r3⟩ := px_po_r6 hp
      rw [r1, pb_at (n := 74) (by rw [fo f3 _ _ (by omega)]; exact z7) (by omega) (by omega), r2, fo f3 _ _ (by omega)]
      exact g2
    have bn : fr_at (fa_rf o 9) (g : Int) w5 = ((c + pt_sz e - 1 : Nat) : Int) := by
      obtain ⟨r1, r2, r3⟩ := px_po_r9 hp
      rw [r1, pb_at (n := 24) (by rw [fo f5 _ _ (by omega)]; exact z10) (by omega) (by omega), r2, fo f5 _ _ (by omega)]
      exact i3
    rw [hsc0, fo hf _ _ (by omega), y1, pb_wr (by omega), pb_wr (by omega), if_neg (by omega), b1, Option.bind_some, gn, c1, Option.bind_some, d1, Option.bind_some, vn, e1, Option.bind_some, m1, Option.bind_some, bn, n1, Option.bind_some, q1, Option.bind_some, pf_let_eq]
    exact r1
theorem px_showProgram {sc : Nat} {gs : ps_G} {t : pt_T} {la li si nd : Nat} {ins os : List Nat} {w : fa_W} (hsc : px_sK sc) (hV : pn_V gs t la li si nd) (hX : px_V (sc + 1) gs t la li si nd ins os w) : ∃ w', fm_Writer_showProgram sc w = some (((pw_pr pw_al pw_al gs t).length : Int), w') ∧ px_RL 3 (pw_pr pw_al pw_al gs t) w' ∧ ∀ i j, i ≠ 3 → i ≠ 4 → i ≠ 38 → i ≠ 39 → i ≠ 42 → i ≠ 43 → ¬ (i = 37 ∧ j = 4) → w' i j = w i j := by
  obtain ⟨fb, sb, hG⟩ := pf_G_ex hV
  have len := pw_pr_len pw_al pw_al hV
  obtain ⟨w0, hw0⟩ : ∃ w0, w0 = fa_st (fa_st w 3 1 0) 37 4 (-1) := ⟨_, rfl⟩
  have o0 : ∀ i j, ¬ (i = 3 ∧ j = 1) → ¬ (i = 37 ∧ j = 4) → w0 i j = w i j := fun i j p q => by rw [hw0, fa_st_ne q, fa_st_ne p]
  have s54 : 54 < sc := by rcases hsc with h | h <;> omega
  have twt := fun g => pn_tr_tw hV.2.2.2.2.2.1 gs [] _ _ hV.2.2.2.2.2.2.2.choose_spec.1 g
  have X0 := px_V_ob (w' := w0) twt (fun i j p q => o0 i j (by omega) (by omega)) hX
  obtain ⟨w', p1, p2, p3⟩ := px_showProg_l (o := sc + 1) (w0 := w0) hsc rfl hV hG X0 (by rw [hw0, fa_st_eq]) gs.length 0 fa_FU [] w0 (by omega) (by have := hV.1; unfold fa_FU; omega) (fun _ _ _ _ _ _ _ _ => rfl) ⟨by rw [hw0, fa_st_ne (by omega), fa_st_eq]; rfl, fun i x q => by cases q⟩ (by rw [List.drop_zero, List.length_nil]; omega)
  rw [List.drop_zero, List.nil_append] at p1 p2
  refine ⟨w', ?_, p2, fun i j q1 q2 q3 q4 q5 q6 q7 => (p3 i j q1 q2 q3 q4 q5 q6).trans (o0 i j (by omega) q7)⟩
  unfold fm_Writer_showProgram
  rw [pf_rc_eq, pf_let_eq, pf_let_eq, ← hw0]
  exact p1
