/-! alike(), on both sides -/
theorem pf_l2_eq {A B C : Type} (a : A) (b : B) (f : A → B → C) : fa_l2 (a, b) f = f a b := rfl
theorem px_SC_14 {sc : Nat} {gs : ps_G} {t : pt_T} {la li si nd mk : Nat} {ins os : List Nat} {fb : Nat → pt_T} {sb : pf_sT} {w : fa_W} (h6 : fa_sc (w 0 6) = sc) (h : px_SC sc gs t la li si nd ins os fb sb mk w) : w (fa_rf (fa_sc (w 0 6)) 0) 14 = ((gs.length + la : Nat) : Int) := by
  have s := px_sK_sc (w 0 6)
  obtain ⟨_, _, _, _, _, r0, _⟩ := px_sK_all s
  rw [r0, h6]
  exact h.1.2.1.2.1
theorem px_callAlike {sc : Nat} {gs : ps_G} {t : pt_T} {la li si nd mk : Nat} {ins os : List Nat} {fb : Nat → pt_T} {sb : pf_sT} {w : fa_W} {a1 a2 : Int} (hV : pn_V gs t la li si nd) (h6 : fa_sc (w 0 6) = sc) (h : px_SC sc gs t la li si nd ins os fb sb mk w) (b1 : -2147483648 ≤ a1 ∧ a1 < 2147483648) (b2 : -2147483648 ≤ a2 ∧ a2 < 2147483648) : (¬ (pa_in (gs.length + la) a1 ∧ pa_in (gs.length + la) a2) → fm_Face_alike a1 a2 w = some (1, false, w)) ∧ ∀ f g : Nat, f < gs.length + la → g < gs.length + la → a1 = (f : Int) → a2 = (g : Int) → ∃ b, fm_Face_alike a1 a2 w = some (0, b, w) ∧ (b = true ↔ pv_al gs t f g) := by
  have h24 : gs.length + la ≤ 24 := by have := hV.1; have := hV.2.1; omega
  have h14 := px_SC_14 h6 h
  have n1 := px_need h24 h14 b1
  have n2 := px_need h24 h14 b2
  constructor
  · intro q
    unfold fm_Face_alike
    by_cases c : pa_in (gs.length + la) a1
    · rw [n1.1 c, pb_bds, if_pos rfl, n2.2 (fun z => q ⟨c, z⟩), pb_bds, if_neg (by decide)]
    · rw [n1.2 c, pb_bds, if_neg (by decide)]
  · intro f g hf hg e1 e2
    have s := px_sK_sc (w 0 6)
    obtain ⟨_, hto, _, _, _, _, r1, _⟩ := px_sK_all s
    obtain ⟨b, e3, e4⟩ := px_same hto (by rw [h6]; exact h.2.1) hf hg
    refine ⟨b, ?_, e4⟩
    unfold fm_Face_alike
    have i1 : pa_in (gs.length + la) a1 := by unfold pa_in; omega
    have i2 : pa_in (gs.length + la) a2 := by unfold pa_in; omega
    rw [n1.1 i1, pb_bds, if_pos rfl, n2.1 i2, pb_bds, if_pos rfl, r1, e1, e2, e3, Option.bind_some]
theorem pm_callAlike {gs : ps_G} {t : pt_T} {la li si nd mk : Nat} {fb : Nat → pt_T} {sb : pf_sT} {w : fa_W} {a1 a2 : Int} (hV : pn_V gs t la li si nd) (h : pm_AN gs t la li si nd fb sb mk w) (b1 : -2147483648 ≤ a1 ∧ a1 < 2147483648) (b2 : -2147483648 ≤ a2 ∧ a2 < 2147483648) : (¬ (pa_in (gs.length + la) a1 ∧ pa_in (gs.length + la) a2) → fm_Mod_alike a1 a2 w = some (false, fa_st (fa_st w 181 0 0) 181 0 1)) ∧ ∀ f g : Nat, f < gs.length + la → g < gs.length + la → a1 = (f : Int) → a2 = (g : Int) → ∃ b, fm_Mod_alike a1 a2 w = some (b, fa_st w 181 0 0) ∧ (b = true ↔ pv_al gs t f g) := by
  have h24 : gs.length + la ≤ 24 := by have := hV.1; have := hV.2.1; omega
  have h17 : fa_st w 181 0 0 181 17 + fa_st w 181 0 0 181 18 = ((gs.length + la : Nat) : Int) := by
    rw [fa_st_ne (by omega), fa_st_ne (by omega), h.1.2.1, h.1.2.2.1]; omega
  have n1 := pm_noF h24 h17 b1
  have n2 := pm_noF h24 h17 b2
  constructor
  · intro q
    unfold fm_Mod_alike
    by_cases c : pa_in (gs.length + la) a1
    · have z := n2.2 (fun z => q ⟨c, z⟩)
      rw [pf_let_eq, n1.1 c, pf_l2_eq, if_neg (by decide), z, pf_l2_eq, if_pos rfl]
    · rw [pf_let_eq, n1.2 c, pf_l2_eq, if_pos rfl]
  · intro f g hf hg e1 e2
    have TV := pm_TV_of (w' := fa_st w 181 0 0) h.2.1 (fun i j q => fa_st_ne (by omega))
    obtain ⟨b, e3, e4⟩ := pm_alike TV hf hg
    have i1 : pa_in (gs.length + la) a1 := by unfold pa_in; omega
    have i2 : pa_in (gs.length + la) a2 := by unfold pa_in; omega
    refine ⟨b, ?_, e4⟩
    unfold fm_Mod_alike
    rw [pf_let_eq, n1.1 i1, pf_l2_eq, if_neg (by decide), n2.1 i2, pf_l2_eq, if_neg (by decide), e1, e2, pb_ix (show f < 24 by omega) (by omega), Option.bind_some, pb_ix (show g < 24 by omega) (by omega), Option.bind_some, e3, Option.bind_some]
    cases b <;> rfl
