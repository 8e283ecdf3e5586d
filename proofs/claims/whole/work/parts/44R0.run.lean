/-! count() in the law -/
theorem lw_madeX {gs : ps_G} {t : pt_T} {la li si nd mk : Nat} {fb : Nat → pt_T} {sb : pf_sT} {ins os : List Nat} {w : fa_W} (hV : pn_V gs t la li si nd) (hG : pf_G gs t la li si fb sb) (hmk : mk < 2 ^ (gs.length + la)) (hS : px_SC (fa_sc (w 0 6)) gs t la li si nd ins os fb sb mk w) : ∃ w1, fm_Face_countMadeFields w = some (((pw_sm (fun f => if mk.testBit f = true then (pd_fl f (fb f)).length else 0) (gs.length + la) 0 : Nat) : Int), w1) ∧ ∀ i j, i ≠ 5 → i ≠ 6 → w1 i j = w i j := by
  have v1 := hV.1
  have v2 := hV.2.1
  have p24 : 2 ^ (gs.length + la) ≤ 2 ^ 24 := Nat.pow_le_pow_right (by omega) (by omega)
  have hsc := px_sK_sc (w 0 6)
  have s54 : 54 < fa_sc (w 0 6) := by rcases hsc with h | h <;> omega
  obtain ⟨a1, a2, a3, a4, a5, a6, a7, a8, a9⟩ := px_sK_all hsc
  have key : ∀ (d f F x1 : Nat) (w0 : fa_W), f + d = gs.length + la → d < F → (∀ i j, i ≠ 5 → i ≠ 6 → w0 i j = w i j) → ∃ w1, fm_Face_countMadeFields_l4 F (x1 : Int) (f : Int) w0 = some (((x1 + pw_sm (fun f => if mk.testBit f = true then (pd_fl f (fb f)).length else 0) d f : Nat) : Int), w1) ∧ ∀ i j, i ≠ 5 → i ≠ 6 → w1 i j = w i j := by
    intro d
    induction d with
    | zero =>
      intro f F x1 w0 hf hF e
      obtain ⟨F, rfl⟩ : ∃ n, F = n + 1 := ⟨F - 1, by omega⟩
      refine ⟨w0, ?_, e⟩
      unfold fm_Face_countMadeFields_l4
      rw [e 0 6 (by omega) (by omega), a6, e _ _ (by omega) (by omega), hS.1.2.1.2.1, pb_wr (by omega), pb_wr (by omega), if_pos (by omega)]
      rfl
    | succ d ih =>
      intro f F x1 w0 hf hF e
      obtain ⟨F, rfl⟩ : ∃ n, F = n + 1 := ⟨F - 1, by omega⟩
      have S0 := px_SC_ob (w' := w0) hV (fun i j p q => e i j (by omega) (by omega)) hS
      obtain ⟨zz, tb, cal, rg, z1, _, ok, lz, T3, _⟩ := id S0.2.2.1
      obtain ⟨cl, hC, m1, m2⟩ := px_masks hS
      conv => enter [1, w1, 1, 1]; unfold fm_Face_countMadeFields_l4
      rw [e 0 6 (by omega) (by omega), a6, a8, e _ 14 (by omega) (by omega), hS.1.2.1.2.1, pb_wr (by omega), pb_wr (by omega), if_neg (by omega), e _ 5 (by omega) (by omega), m1, pf_hb (by omega) (by omega)]
      show ∃ w1, _ = some (((x1 + ((if mk.testBit f = true then (pd_fl f (fb f)).length else 0) + pw_sm _ d (f + 1)) : Nat) : Int), w1) ∧ _
      by_cases z : mk.testBit f = true
      · rw [if_pos z, if_pos z]
        obtain ⟨w1, p1, p2, p3, p4⟩ := px_fields (r := 5) a1 (by decide +kernel) (by decide +kernel) (by omega) hV hG S0.1 T3 (f := f) (by omega)
        obtain ⟨w2, q1, q2⟩ := ih (f + 1) F (x1 + (pd_fl f (fb f)).length) w1 (by omega) (by omega) (fun i j u v => (p2 i j u v).trans (e i j u v))
        refine ⟨w2, ?_, q2⟩
        have s5 : fm_Row_size 5 w1 = ((pd_fl f (fb f)).length : Int) := by
          show w1 5 1 = _
          rw [p3.1, List.length_map]
        unfold fm_Face_countFields
        rw [p1, Option.bind_some, pf_bd_eq, s5, pf_let_eq, pf_let_eq, ← Nat.add_assoc]
        exact q1
      · rw [if_neg z, if_neg z, pf_let_eq, Nat.zero_add]
        exact ih (f + 1) F x1 w0 (by omega) (by omega) e
  obtain ⟨w1, q1, q2⟩ := key (gs.length + la) 0 fa_FU 0 w (by omega) (by unfold fa_FU; omega) (fun _ _ _ _ => rfl)
  rw [Nat.zero_add] at q1
  exact ⟨w1, q1, q2⟩
theorem lw_madeM {gs : ps_G} {t : pt_T} {la li si nd mk : Nat} {fb : Nat → pt_T} {sb : pf_sT} {w : fa_W} (hV : pn_V gs t la li si nd) (hmk : mk < 2 ^ (gs.length + la)) (hN : pm_AN gs t la li si nd fb sb mk w) : fm_Mod_fieldsOfMade w = some ((pw_sm (fun f => if mk.testBit f = true then (pd_fl f (fb f)).length else 0) (gs.length + la) 0 : Nat) : Int) := by
  have v1 := hV.1
  have v2 := hV.2.1
  have p24 : 2 ^ (gs.length + la) ≤ 2 ^ 24 := Nat.pow_le_pow_right (by omega) (by omega)
  obtain ⟨cl, hC, m3, m4⟩ := pm_masks hN
  have eF : fm_Mod_functions w = ((gs.length + la : Nat) : Int) := by
    show w 181 17 + w 181 18 = _
    rw [hN.1.2.1, hN.1.2.2.1]
    omega
  have key : ∀ (d f F x1 : Nat), f + d = gs.length + la → d < F → fm_Mod_fieldsOfMade_l4 w F (x1 : Int) (f : Int) = some (((x1 + pw_sm (fun f => if mk.testBit f = true then (pd_fl f (fb f)).length else 0) d f : Nat) : Int)) := by
    intro d
    induction d with
    | zero =>
      intro f F x1 hf hF
      obtain ⟨F, rfl⟩ : ∃ n, F = n + 1 := ⟨F - 1, by omega⟩
      unfold fm_Mod_fieldsOfMade_l4
      rw [eF, pb_wr (by omega), pb_wr (by omega), if_pos (by omega)]
      rfl
    | succ d ih =>
      intro f F x1 hf hF
      obtain ⟨F, rfl⟩ : ∃ n, F = n + 1 := ⟨F - 1, by omega⟩
      unfold fm_Mod_fieldsOfMade_l4
      rw [eF, pb_wr (by omega), pb_wr (by omega), if_neg (by omega), m3, pf_hd (by omega) (by omega)]
      show _ = some (((x1 + ((if mk.testBit f = true then (pd_fl f (fb f)).length else 0) + pw_sm _ d (f + 1)) : Nat) : Int))
      by_cases z : mk.testBit f = true
      · rw [if_pos z, if_pos z, pb_ix (show f < 24 by omega) (by omega), Option.bind_some, (hN.2.2.2.1 f (by omega)).1, pf_let_eq, pf_let_eq, ← Nat.add_assoc]
        exact ih (f + 1) F (x1 + (pd_fl f (fb f)).length) (by omega) (by omega)
      · rw [if_neg z, if_neg z, pf_let_eq, pf_let_eq, Nat.zero_add]
        exact ih (f + 1) F (x1 + 0) (by omega) (by omega)
  have K := key (gs.length + la) 0 fa_FU 0 (by omega) (by unfold fa_FU; omega)
  rw [Nat.zero_add] at K
  exact K
