/-! FUNCTIONS that are asked for by number -/
theorem pa_i32 (x : Int32) : -2147483648 ≤ x.toInt ∧ x.toInt < 2147483648 := by
  have h1 := Int32.le_toInt x
  have h2 := Int32.toInt_lt x
  omega
def pa_in (nf : Nat) (a : Int) : Prop := 0 ≤ a ∧ a < (nf : Int)
theorem pa_in_nat {nf : Nat} {a : Int} (h : pa_in nf a) : ∃ f : Nat, a = (f : Int) ∧ f < nf := by
  unfold pa_in at h
  exact ⟨a.toNat, by omega, by omega⟩
theorem px_need {nf : Nat} {a : Int} {w : fa_W} (h24 : nf ≤ 24) (h14 : w (fa_rf (fa_sc (w 0 6)) 0) 14 = (nf : Int)) (ha : -2147483648 ≤ a ∧ a < 2147483648) : (pa_in nf a → fm_Face_needFunction a w = some (0, w)) ∧ (¬ pa_in nf a → fm_Face_needFunction a w = some (1, w)) := by
  unfold pa_in fm_Face_needFunction
  rw [h14, fa_wr_id (x := a) (by omega) (by omega), pb_wr (by omega)]
  constructor
  · intro h
    rw [if_neg (by omega), if_pos h.2]
  · intro h
    by_cases c : a < 0
    · rw [if_pos c]; rfl
    · rw [if_neg c, if_neg (by omega)]; rfl
theorem pm_noF {nf : Nat} {a : Int} {w : fa_W} (h24 : nf ≤ 24) (h17 : w 181 17 + w 181 18 = (nf : Int)) (ha : -2147483648 ≤ a ∧ a < 2147483648) : (pa_in nf a → fm_Mod_noFunction a w = (false, w)) ∧ (¬ pa_in nf a → fm_Mod_noFunction a w = (true, fa_st w 181 0 1)) := by
  have e0 : fa_wr 0 = 0 := fa_wr_id (by omega) (by omega)
  have e1 : fa_wr ((nf : Int) - 1) = (nf : Int) - 1 := fa_wr_id (by omega) (by omega)
  have e2 : fa_wr a = a := fa_wr_id (by omega) (by omega)
  unfold pa_in
  constructor
  · intro h
    have q : fm_Mod_in a 0 ((nf : Int) - 1) w = true := by
      unfold fm_Mod_in
      rw [e0, e1, e2, if_neg (show ¬ a < 0 by omega), if_neg (show ¬ (nf : Int) - 1 < a by omega)]
    unfold fm_Mod_noFunction fm_Mod_functions
    rw [h17, q, if_pos rfl]
    rfl
  · intro h
    have q : fm_Mod_in a 0 ((nf : Int) - 1) w = false := by
      unfold fm_Mod_in
      rw [e0, e1, e2]
      by_cases c : a < 0
      · rw [if_pos c]
      · rw [if_neg c, if_pos (show (nf : Int) - 1 < a by omega)]
    unfold fm_Mod_noFunction fm_Mod_functions
    rw [h17, q, if_neg (by decide)]
    rfl
