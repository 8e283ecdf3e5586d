/-! THE FORM by the reference: SITES -/
theorem pm_GX_of {sp : Nat} {gs : ps_G} {t : pt_T} {la li si nd mk : Nat} {fb : Nat → pt_T} {sb : pf_sT} {w : fa_W} (hV : pn_V gs t la li si nd) (hN : pm_AN gs t la li si nd fb sb mk w) (hsp : sp < 3) : pm_GX (gs.length + la) sp (pg_g gs t (pf_A fb t sb (gs.length + la)) si (gs.length + la) mk sp) w := by
  have v1 := hV.1
  have v2 := hV.2.1
  obtain ⟨p16, p17, p18, _⟩ := hN.1
  exact ⟨by omega, hsp, pg_l_len _ _ _, fun k hk => pg_l_lt (pg_g_E gs t _ si _ mk sp) hk, pg_D_of (pg_g_E gs t (pf_A fb t sb (gs.length + la)) si (gs.length + la) mk sp) (gs.length + la) (Nat.le_refl _), by rw [p17, p18]; omega, hN.2.2.2.2.1 sp hsp⟩
theorem pm_GX_wo {nf sp : Nat} {l : List Nat} {w0 w : fa_W} (h : pm_GX nf sp l w0) (o : pm_wo w0 w) : pm_GX nf sp l w := by
  obtain ⟨h1, h2, h3, h4, h5, h6, h7, h8⟩ := h
  exact ⟨h1, h2, h3, h4, h5, by rw [o _ _ (by omega) (by omega), o _ _ (by omega) (by omega)]; exact h6, by rw [o _ _ (by omega) (by omega)]; exact h7, fun f hf => by rw [o _ _ (by omega) (by omega)]; exact h8 f hf⟩
theorem pm_apply_l {nf sp i A : Nat} {gl : List Nat} {g : Int} {rc : Int → Int → fa_W → Option fa_W} {w : fa_W} (hX : pm_GX nf sp gl w) (hA : A < 2 ^ nf) (hg : ∀ f, A.testBit f = true → pf_fi f gl 0 = g ∧ 0 ≤ g ∧ g < 100) : ∀ (d F : Nat) (x4 : Int), d ≤ nf → d < F → ((x4 = -1 ∧ ∀ q, d ≤ q → ¬ A.testBit q = true) ∨ (x4 = g ∧ ∃ q, A.testBit q = true)) → ∃ x4', fm_Mod_writesApply_l23 (i : Int) ((sp + 2 : Nat) : Int) rc F (A : Int) x4 ((d : Int) - 1) w = fm_Mod_writesApply_l23 (i : Int) ((sp + 2 : Nat) : Int) rc 1 (A : Int) x4' (-1) w ∧ ((x4' = -1 ∧ ∀ q, ¬ A.testBit q = true) ∨ (x4' = g ∧ ∃ q, A.testBit q = true)) := by
  have h24 := hX.1
  have A24 : A < 2 ^ 24 := Nat.lt_of_lt_of_le hA (Nat.pow_le_pow_right (by omega) h24)
  intro d
  induction d with
  | zero =>
    intro F x4 hd hF hx
    obtain ⟨F, rfl⟩ : ∃ n, F = n + 1 := ⟨F - 1, by omega⟩
    refine ⟨x4, ?_, ?_⟩
    · show fm_Mod_writesApply_l23 (i : Int) ((sp + 2 : Nat) : Int) rc (F + 1) (A : Int) x4 (-1) w = _
      unfold fm_Mod_writesApply_l23
      rw [if_pos (by decide), if_pos (by decide)]
    · rcases hx with ⟨h1, h2⟩ | h
      · exact Or.inl ⟨h1, fun q => h2 q (Nat.zero_le _)⟩
      · exact Or.inr h
  | succ d ih =>
    intro F x4 hd hF hx
    obtain ⟨F, rfl⟩ : ∃ n, F = n + 1 := ⟨F - 1, by omega⟩
    have ed : ((d + 1 : Nat) : Int) - 1 = (d : Int) := by omega
    have eg := pm_groupAt (f := d) hX (by omega)
    have esp : ((sp + 2 : Nat) : Int) - 2 = (sp : Int) := by omega
    rw [ed]
    conv => enter [1, x4', 1, 1]; unfold fm_Mod_writesApply_l23
    rw [pb_wr (show d < 2147483648 by omega), if_neg (show ¬ (d : Int) < 0 by omega), pf_hd (by omega) (by omega)]
    by_cases z : A.testBit d = true
    · obtain ⟨g1, g2, g3⟩ := hg d z
      rw [g1] at eg
      have r := ih F g (by omega) (by omega) (Or.inr ⟨rfl, d, z⟩)
      have j57 : fm_Mod_writesApply_j57 (i : Int) ((sp + 2 : Nat) : Int) rc (fun x3 x4 x5 w9 => fm_Mod_writesApply_l23 (i : Int) ((sp + 2 : Nat) : Int) rc F x3 x4 x5 w9) (A : Int) (d : Int) w = fm_Mod_writesApply_l23 (i : Int) ((sp + 2 : Nat) : Int) rc F (A : Int) g ((d : Int) - 1) w := by
        unfold fm_Mod_writesApply_j57
        rw [esp, eg, Option.bind_some, pf_let_eq]
        rfl
      rw [if_pos z]
      rcases hx with ⟨h1, h2⟩ | ⟨h1, h2⟩
      · rw [h1, pb_wr1, if_pos rfl, j57]
        exact r
      · rw [h1, fa_wr_id (by omega) (by omega), if_neg (by omega), esp, eg, Option.bind_some, fa_wr_id (by omega) (by omega), if_pos (by omega), pf_let_eq]
        exact r
    · rw [if_neg z, pf_let_eq]
      exact ih F x4 (by omega) (by omega) (by
        rcases hx with ⟨h1, h2⟩ | h
        · refine Or.inl ⟨h1, fun q hq => ?_⟩
          by_cases y : q = d
          · rw [y]; exact z
          · exact h2 q (by omega)
        · exact Or.inr h)
theorem pm_apply {sp s i : Nat} {gs : ps_G} {t : pt_T} {la li si nd mk : Nat} {fb : Nat → pt_T} {sb : pf_sT} {rc : Int → Int → fa_W → Option fa_W} {l : List Nat} {w0 w : fa_W} (hV : pn_V gs t la li si nd) (hG : pf_G gs t la li si fb sb) (hN : pm_AN gs t la li si nd fb sb mk w0) (hmk : mk < 2 ^ (gs.length + la)) (hM : ∀ f, mk.testBit f = true ↔ pf_M fb t f) (hsp : sp < 3) (hs : s < si) (hi : w0 188 i = (s : Int)) (hi101 : i < 101) (o : pm_wo w0 w) (hO : pm_O l w) (hl : l.length + (pw_A gs t fb sb la si mk sp s).length ≤ 39990) : ∃ w1, fm_Mod_writesApply_b rc (i : Int) ((sp + 2 : Nat) : Int) w = fm_Mod_writesApply_j106 (i : Int) ((sp + 2 : Nat) : Int) rc w1 ∧ pm_O (l ++ pw_A gs t fb sb la si mk sp s) w1 ∧ pm_wo w0 w1 := by
  have v1 := hV.1
  have v2 := hV.2.1
  have v4 := hV.2.2.2.1
  obtain ⟨_, _, _, x7, _, _, x21⟩ := pw_txn
  have GX := pm_GX_wo (pm_GX_of hV hN hsp) o
  have site := fun f g hf hg => pg_site (hb := fun _ => 0) (ho := fun _ => 0) (mk := mk) (sp := sp) (f := f) (g := g) hV hG hN.1 hmk hM hs hsp hf hg
  have eA : w 209 s = ((pf_A fb t sb (gs.length + la) s : Nat) : Int) := by rw [o _ _ (by omega) (by omega)]; exact (hN.2.2.1.2 s hs).2.1
  have eF : fm_Mod_functions w = ((gs.length + la : Nat) : Int) := GX.2.2.2.2.2.1
  unfold pw_A at hl ⊢
  obtain ⟨A, hA⟩ : ∃ A, A = pf_A fb t sb (gs.length + la) s := ⟨_, rfl⟩
  have A24 : A < 2 ^ (gs.length + la) := by rw [hA]; exact pf_num_lt _ _
  have A24' : A < 2 ^ 24 := Nat.lt_of_lt_of_le A24 (Nat.pow_le_pow_right (by omega) (by omega))
  rw [← hA] at site eA hl ⊢
  obtain ⟨gl, hgl⟩ : ∃ gl, gl = pg_g gs t (pf_A fb t sb (gs.length + la)) si (gs.length + la) mk sp := ⟨_, rfl⟩
  rw [← hgl] at site GX hl ⊢
  have glen := GX.2.2.1
  obtain ⟨g, hgd⟩ : ∃ g, g = pf_fi (pw_lo A 24 0) gl 0 := ⟨_, rfl⟩
  have lo : (∃ q, A.testBit q = true) → A.testBit (pw_lo A 24 0) = true := fun ⟨q, hq⟩ => by
    have A0 : 0 < A := by
      rcases Nat.eq_zero_or_pos A with z | z
      · rw [z, Nat.zero_testBit] at hq; cases hq
      · exact z
    obtain ⟨k, k1, k2, k3, _⟩ := pf_lowest A24' A0 w
    rw [pw_lo_eq k2 k3 24 0 (by omega) (by omega)]
    exact k2
  have hg : ∀ f, A.testBit f = true → pf_fi f gl 0 = g ∧ 0 ≤ g ∧ g < 100 := fun f hf => by
    obtain ⟨h1, k, h2, h3⟩ := site (pw_lo A 24 0) f (lo ⟨f, hf⟩) hf
    rw [← hgd] at h1 h3
    exact ⟨h1.symm, by omega, by omega⟩
  obtain ⟨x4', L1, L2⟩ := pm_apply_l (i := i) (rc := rc) GX A24 hg (gs.length + la) fa_FU (-1) (Nat.le_refl _) (by unfold fa_FU; omega) (Or.inl ⟨rfl, fun q hq => by
    rw [Nat.testBit_lt_two_pow (Nat.lt_of_lt_of_le A24 (Nat.pow_le_pow_right (by omega) hq))]
    decide⟩)
  have start : fm_Mod_writesApply_b rc (i : Int) ((sp + 2 : Nat) : Int) w = fm_Mod_writesApply_l23 (i : Int) ((sp + 2 : Nat) : Int) rc 1 (A : Int) x4' (-1) w := by
    rw [← L1]
    unfold fm_Mod_writesApply_b
    rw [pb_ix hi101 (by omega), Option.bind_some, o 188 i (by omega) (by omega), hi, pb_ix (show s < 101 by omega) (by omega), Option.bind_some, pf_let_eq, pf_let_eq, eA, eF]
  rw [start]
  unfold fm_Mod_writesApply_l23
  rw [if_pos (by decide)]
  unfold pw_sa at hl ⊢
  rcases L2 with ⟨y1, y2⟩ | ⟨y1, y2⟩
  · have A0 : A = 0 := by
      rcases Nat.eq_zero_or_pos A with z | z
      · exact z
      · obtain ⟨k, _, k2, _⟩ := pf_lowest A24' z w
        exact absurd k2 (y2 k)
    rw [if_pos A0, x21] at hl ⊢
    rw [List.length_append, List.length_singleton, List.length_singleton] at hl
    obtain ⟨w1, p1, p2, p3⟩ := pm_say hO (by omega) (b := 97) (by omega) (x := 97) rfl
    obtain ⟨w2, q1, q2, q3⟩ := pm_say p2 (by rw [List.length_append, List.length_singleton]; omega) (b := 110) (by omega) (x := 110) rfl
    refine ⟨w2, ?_, by rw [← List.append_assoc]; exact q2, fun a j u v => (q3 a j u v).trans ((p3 a j u v).trans (o a j u v))⟩
    rw [p1, Option.bind_some, y1, pb_wr1, if_pos rfl, q1, Option.bind_some]
  · have A0 : ¬ A = 0 := fun z => by
      obtain ⟨q, hq⟩ := y2
      rw [z, Nat.zero_testBit] at hq
      cases hq
    obtain ⟨g1, g2, g3⟩ := hg _ (lo y2)
    rw [if_neg A0, x7, ← hgd] at hl ⊢
    rw [List.length_append, List.length_singleton] at hl
    obtain ⟨w1, p1, p2, p3⟩ := pm_say hO (by omega) (b := 97) (by omega) (x := 97) rfl
    obtain ⟨w2, q1, q2, q3⟩ := pm_sayNum (v := g.toNat) (by omega) p2 (by rw [List.length_append, List.length_singleton]; have := (pw_nu_len g.toNat).1; omega) (x := g) (by omega)
    refine ⟨w2, ?_, by rw [← List.append_assoc]; exact q2, fun a j u v => (q3 a j u v).trans ((p3 a j u v).trans (o a j u v))⟩
    rw [p1, Option.bind_some, y1, fa_wr_id (by omega) (by omega), if_neg (by omega), q1, Option.bind_some]
