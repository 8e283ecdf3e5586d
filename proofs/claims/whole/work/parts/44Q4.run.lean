/-! HOME of a FUNCTION on both sides -/
theorem lw_home_t {o B : Nat} {ins : List Nat} {wx wm : fa_W} (t : pt_T) (tt : pt_tw t) : ∀ (k k' : pk_K) (h : Int) (a a' : Nat), pn_can B t k k' → px_P o ins t h a wx → pm_H t h a' wm → ∀ f, B + k.1 ≤ f → f < B + k'.1 → ∃ i : Nat, i < a + pt_sz t ∧ wx (o + 16) f = (i : Int) ∧ wx (o + 6) i = wm 191 f := by
  induction t, tt using pt_indh with
  | num v => intro k k' h a a' hc _ _ f p q; cases hc; dsimp only at q; omega
  | var v x => intro k k' h a a' hc _ _ f p q; cases hc; dsimp only at q; omega
  | glo g x => intro k k' h a a' hc _ _ f p q; cases hc; dsimp only at q; omega
  | dead d => intro k k' h a a' hc _ _ f p q; cases hc.2; dsimp only at q; omega
  | lam f0 x b tb ih =>
    intro k k' h a a' hc hP hH f p q
    obtain ⟨ef, k1, h1, rfl⟩ := hc
    have e : pt_sz (pt_lam f0 x b) = pt_sz b + 1 := rfl
    by_cases z : f = f0
    · subst z
      exact ⟨a + pt_sz b, by omega, hP.2.2.2.1, hP.2.1.2.2.1.trans hH.2.2.2.2.1.symm⟩
    · obtain ⟨i, i1, i2⟩ := ih _ _ _ a a' h1 hP.1 hH.1 f (by dsimp only; omega) q
      exact ⟨i, by omega, i2⟩
  | ife a0 b c ta tb tc iha ihb ihc =>
    intro k k' h a a' hc hP hH f p q
    obtain ⟨k1, k2, k3, h1, h2, h3, rfl⟩ := hc
    have e : pt_sz (pt_ife a0 b c) = pt_sz a0 + pt_sz b + pt_sz c + 1 := rfl
    by_cases z : f < B + k1.1
    · obtain ⟨i, i1, i2⟩ := iha _ _ h a a' h1 hP.1 hH.1 f p z
      exact ⟨i, by omega, i2⟩
    · by_cases z2 : f < B + k2.1
      · obtain ⟨i, i1, i2⟩ := ihb _ _ h _ _ h2 hP.2.1 hH.2.1 f (by omega) z2
        exact ⟨i, by omega, i2⟩
      · obtain ⟨i, i1, i2⟩ := ihc _ _ h _ _ h3 hP.2.2.1 hH.2.2.1 f (by omega) q
        exact ⟨i, by omega, i2⟩
  | lt v x a0 b ta tb iha ihb =>
    intro k k' h a a' hc hP hH f p q
    obtain ⟨k1, k2, h1, _, h2, rfl⟩ := hc
    have e : pt_sz (pt_let v x a0 b) = pt_sz a0 + pt_sz b + 1 := rfl
    by_cases z : f < B + k1.1
    · obtain ⟨i, i1, i2⟩ := iha _ _ h a a' h1 hP.1 hH.1 f p z
      exact ⟨i, by omega, i2⟩
    · obtain ⟨i, i1, i2⟩ := ihb _ _ h _ _ h2 hP.2.1 hH.2.1 f (by dsimp only; omega) q
      exact ⟨i, by omega, i2⟩
  | op s a0 b ta tb iha ihb =>
    intro k k' h a a' hc hP hH f p q
    obtain ⟨k1, k2, h1, h2, rfl⟩ := hc
    have e : pt_sz (pt_op s a0 b) = pt_sz a0 + pt_sz b + 1 := rfl
    by_cases z : f < B + k1.1
    · obtain ⟨i, i1, i2⟩ := iha _ _ h a a' h1 hP.1 hH.1 f p z
      exact ⟨i, by omega, i2⟩
    · obtain ⟨i, i1, i2⟩ := ihb _ _ h _ _ h2 hP.2.1 hH.2.1 f (by omega) q
      exact ⟨i, by omega, i2⟩
  | site s a0 b ta tb iha ihb =>
    intro k k' h a a' hc hP hH f p q
    obtain ⟨k1, k2, h1, _, h2, rfl⟩ := hc
    have e : pt_sz (pt_site s a0 b) = pt_sz a0 + pt_sz b + 1 := rfl
    by_cases z : f < B + k1.1
    · obtain ⟨i, i1, i2⟩ := iha _ _ h a a' h1 hP.1 hH.1 f p z
      exact ⟨i, by omega, i2⟩
    · obtain ⟨i, i1, i2⟩ := ihb _ _ h _ _ h2 hP.2.1 hH.2.1 f (by dsimp only; omega) q
      exact ⟨i, by omega, i2⟩
theorem px_gn_16 {o : Nat} {w : fa_W} : ∀ (gs : ps_G) (g : Nat), px_gn o gs g w → ∀ i, i < gs.length → w (o + 16) (g + i) = -1 := by
  intro gs
  induction gs with
  | nil => intro g _ i hi; exact absurd hi (Nat.not_lt_zero _)
  | cons e r ih =>
    intro g h i hi
    obtain ⟨x, v, t⟩ := e
    cases i with
    | zero => exact h.2.2.1
    | succ i =>
      have := ih (g + 1) h.2.2.2 i (by rw [List.length_cons] at hi; omega)
      rw [show g + 1 + i = g + (i + 1) by omega] at this
      exact this
theorem lw_home {sc f : Nat} {gs : ps_G} {t : pt_T} {la li si nd mk : Nat} {ins os : List Nat} {fb : Nat → pt_T} {sb : pf_sT} {w wm : fa_W} (hsc : px_sK sc) (hV : pn_V gs t la li si nd) (hG : pf_G gs t la li si fb sb) (hX : px_SC sc gs t la li si nd ins os fb sb mk w) (hW : pm_Pw gs t la li si nd wm) (hf : f < gs.length + la) : fm_Program_home (sc + 1) (f : Int) w = wm 191 f := by
  obtain ⟨a1, _⟩ := px_sK_all hsc
  have v1 := hV.1
  have v2 := hV.2.1
  have v3 := hV.2.2.1
  obtain ⟨⟨z1, z2, z3, z4, z5, z6, z7, z8, z9, z10⟩, _, h3, _, h5, h6, h7, _⟩ := id hX.1
  obtain ⟨_, _, _, _, _, v6, v7, kk1, v8, v9⟩ := id hV
  have r7 := px_po_r7 a1
  have r2 := px_po_r2 a1
  have e7 : fr_at (fa_rf (sc + 1) 7) (f : Int) w = w (sc + 1 + 16) f := by
    rw [r7.1, pb_at (n := 74) z8 (by omega) (by rw [r7.2.2]; omega), r7.2.1]
  unfold fm_Program_home fm_Program_owner
  rw [e7]
  by_cases c : f < gs.length
  · have e16 := px_gn_16 gs 0 h3 f c
    rw [Nat.zero_add] at e16
    obtain ⟨⟨x, v, e⟩, he⟩ : ∃ e, gs[f]? = some e := ⟨gs[f], List.getElem?_eq_getElem c⟩
    obtain ⟨_, g2, _⟩ := pm_GH_at gs 0 0 hW.2.2.2.2.2.2.2.1 f x v e he
    rw [Nat.zero_add] at g2
    rw [e16, g2]
    unfold fr_at
    rw [if_neg (by rw [pb_wr1]; omega)]
  · obtain ⟨g, g1, ka, kb, g2, g3, g4⟩ := pn_lam_item gs _ _ _ _ v8 v9 f (by dsimp only; omega) (by dsimp only; exact hf)
    obtain ⟨cx, c1, c2, _⟩ := px_L_in os 0 h7 g ((h5 g).mpr g1)
    obtain ⟨L1, L2, L3⟩ := pm_Pw_L hV hW
    obtain ⟨cm, m1, m2, _⟩ := pm_L_in _ 0 L1 g (List.mem_range.mpr (by omega))
    obtain ⟨i, i1, i2, i3⟩ := lw_home_t (wx := w) (wm := wm) _ (pn_tr_tw v6 gs [] _ _ v8 g) ka kb _ cx cm g2 c2 m2 f g3 g4
    rw [h6] at c1
    rw [i2, r2.1, pb_at (n := nd) z3 (by omega) (by rw [r2.2.2]; omega), r2.2.1]
    exact i3
