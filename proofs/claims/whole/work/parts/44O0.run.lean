/-! copying texts in the reference -/
def pm_cp (dst src : Nat) : Nat → Nat → fa_W → fa_W
  | 0, _, w => w
  | d + 1, k, w => pm_cp dst src d (k + 1) (fa_st w dst k (fa_i2b (w src k)))
theorem pm_cp_at {dst src : Nat} (h : dst ≠ src) : ∀ (d k : Nat) (w : fa_W), (∀ i j, ¬ (i = dst ∧ k ≤ j ∧ j < k + d) → pm_cp dst src d k w i j = w i j) ∧ ∀ j, k ≤ j → j < k + d → pm_cp dst src d k w dst j = fa_i2b (w src j) := by
  intro d
  induction d with
  | zero => intro k w; exact ⟨fun _ _ _ => rfl, fun j a b => by omega⟩
  | succ d ih =>
    intro k w
    obtain ⟨i1, i2⟩ := ih (k + 1) (fa_st w dst k (fa_i2b (w src k)))
    refine ⟨fun i j q => ?_, fun j a b => ?_⟩
    · show pm_cp dst src d (k + 1) _ i j = _
      rw [i1 i j (by omega), fa_st_ne (by omega)]
    · show pm_cp dst src d (k + 1) _ dst j = _
      by_cases z : j = k
      · subst z
        rw [i1 dst j (by omega), fa_st_eq]
      · rw [i2 j (by omega) (by omega), fa_st_ne (by omega)]
theorem pm_keeps_l {n : Nat} (hn : n ≤ 40000) : ∀ (d k F : Nat) (w : fa_W), k + d = n → d < F → w 181 25 = (n : Int) → fm_Mod_keeps_l10 F (k : Int) w = some (fa_st (pm_cp 224 196 d k w) 181 70 0) := by
  intro d
  induction d with
  | zero =>
    intro k F w hk hF h25
    obtain ⟨F, rfl⟩ : ∃ m, F = m + 1 := ⟨F - 1, by omega⟩
    unfold fm_Mod_keeps_l10
    rw [h25, pb_wr (by omega), pb_wr (by omega), if_pos (by omega), pf_let_eq]
    rfl
  | succ d ih =>
    intro k F w hk hF h25
    obtain ⟨F, rfl⟩ : ∃ m, F = m + 1 := ⟨F - 1, by omega⟩
    unfold fm_Mod_keeps_l10
    rw [h25, pb_wr (by omega), pb_wr (by omega), if_neg (by omega), pb_ix (show k < 40000 by omega) (by omega), Option.bind_some, Option.bind_some, pf_let_eq, pf_let_eq]
    exact ih (k + 1) F _ (by omega) (by omega) (by rw [fa_st_ne (by omega)]; exact h25)
theorem pm_goesBack_l {n : Nat} (hn : n ≤ 40000) : ∀ (d k F : Nat) (w : fa_W), k + d = n → d < F → w 181 25 = (n : Int) → fm_Mod_goesBack_l10 F (k : Int) w = (fm_Mod_readsAll true (pm_cp 196 224 d k w)).bind fun q => some q.2 := by
  intro d
  induction d with
  | zero =>
    intro k F w hk hF h25
    obtain ⟨F, rfl⟩ : ∃ m, F = m + 1 := ⟨F - 1, by omega⟩
    unfold fm_Mod_goesBack_l10
    rw [h25, pb_wr (by omega), pb_wr (by omega), if_pos (by omega)]
    rfl
  | succ d ih =>
    intro k F w hk hF h25
    obtain ⟨F, rfl⟩ : ∃ m, F = m + 1 := ⟨F - 1, by omega⟩
    unfold fm_Mod_goesBack_l10
    rw [h25, pb_wr (by omega), pb_wr (by omega), if_neg (by omega), pb_ix (show k < 40000 by omega) (by omega), Option.bind_some, Option.bind_some, pf_let_eq, pf_let_eq]
    exact ih (k + 1) F _ (by omega) (by omega) (by rw [fa_st_ne (by omega)]; exact h25)
theorem pm_take_l {n : Nat} (hn : n ≤ 40000) : ∀ (d k F : Nat) (w : fa_W), k + d = n → d < F → w 181 70 = (n : Int) → fm_Mod_take_l19 F (k : Int) w = (fm_Mod_readsAll true (pm_cp 196 197 d k w)).bind fun q => (fm_Mod_keeps q.2).bind fun w10 => some (fm_Mod_functions w10, w10) := by
  intro d
  induction d with
  | zero =>
    intro k F w hk hF h25
    obtain ⟨F, rfl⟩ : ∃ m, F = m + 1 := ⟨F - 1, by omega⟩
    unfold fm_Mod_take_l19
    rw [h25, pb_wr (by omega), pb_wr (by omega), if_pos (by omega)]
    rfl
  | succ d ih =>
    intro k F w hk hF h25
    obtain ⟨F, rfl⟩ : ∃ m, F = m + 1 := ⟨F - 1, by omega⟩
    unfold fm_Mod_take_l19
    rw [h25, pb_wr (by omega), pb_wr (by omega), if_neg (by omega), pb_ix (show k < 40000 by omega) (by omega), Option.bind_some, Option.bind_some, pf_let_eq, pf_let_eq]
    exact ih (k + 1) F _ (by omega) (by omega) (by rw [fa_st_ne (by omega)]; exact h25)
def pm_rdK (w : fa_W) : Option (Int × fa_W) := (fm_Mod_readsAll false w).bind fun q => if q.1 = true then (fm_Mod_keeps (fa_st q.2 181 69 (q.2 181 28))).bind fun w11 => some (fm_Mod_functions w11, w11) else if fa_wr (q.2 181 28) = (-1) then fm_Mod_read_j78 2 (fa_st q.2 181 69 (q.2 181 28)) else fm_Mod_read_j78 1 (fa_st q.2 181 69 (q.2 181 28))
theorem pm_read_l {n : Nat} (hn : n ≤ 400) : ∀ (d k F : Nat) (w : fa_W), k + d = n → d < F → w 181 2 = (n : Int) → fm_Mod_read_l15 F (k : Int) w = pm_rdK (fa_st (pm_cp 196 182 d k w) 181 2 0) := by
  intro d
  induction d with
  | zero =>
    intro k F w hk hF h25
    obtain ⟨F, rfl⟩ : ∃ m, F = m + 1 := ⟨F - 1, by omega⟩
    unfold fm_Mod_read_l15 pm_rdK
    rw [h25, pb_wr (by omega), pb_wr (by omega), if_pos (by omega), pf_let_eq]
    show fa_bd (fm_Mod_readsAll false (fa_st w 181 2 0)) _ = (fm_Mod_readsAll false (fa_st w 181 2 0)).bind _
    cases fm_Mod_readsAll false (fa_st w 181 2 0) with
    | none => rfl
    | some q =>
      obtain ⟨v, u⟩ := q
      rw [pf_bd_eq, Option.bind_some, pf_let_eq, fa_st_eq]
  | succ d ih =>
    intro k F w hk hF h25
    obtain ⟨F, rfl⟩ : ∃ m, F = m + 1 := ⟨F - 1, by omega⟩
    unfold fm_Mod_read_l15
    rw [h25, pb_wr (by omega), pb_wr (by omega), if_neg (by omega), pb_ix (show k < 400 by omega) (by omega), Option.bind_some, pb_ix (show k < 40000 by omega) (by omega), Option.bind_some, pf_let_eq, pf_let_eq]
    exact ih (k + 1) F _ (by omega) (by omega) (by rw [fa_st_ne (by omega)]; exact h25)
