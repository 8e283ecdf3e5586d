/-! ROWS are total: no index is ever wrong -/
def fr_in (o : Nat) (k : Int) (w : fa_W) : Prop := 0 ≤ fa_wr k ∧ fa_wr k < fa_wr (w o 1) ∧ fa_wr k < fa_cp o
def fr_at (o : Nat) (k : Int) (w : fa_W) : Int := if 0 ≤ fa_wr k ∧ fa_wr k < fa_wr (w o 1) ∧ fa_wr k < fa_cp o then w (fa_rf o 0) (fa_wr k).toNat else -1
def fr_bits (o : Nat) (k : Int) (w : fa_W) : Int := if 0 ≤ fa_wr k ∧ fa_wr k < fa_wr (w o 1) ∧ fa_wr k < fa_cp o then w (fa_rf o 0) (fa_wr k).toNat else 0
def fr_set (o : Nat) (k v : Int) (w : fa_W) : fa_W := if 0 ≤ fa_wr k ∧ fa_wr k < fa_wr (w o 1) ∧ fa_wr k < fa_cp o then fa_st w (fa_rf o 0) (fa_wr k).toNat v else w
def fr_add (o : Nat) (v : Int) (w : fa_W) : fa_W := if 0 ≤ fa_wr (w o 1) ∧ fa_wr (w o 1) < fa_cp o then fa_st (fa_st w (fa_rf o 0) (fa_wr (w o 1)).toNat v) o 1 (fa_st w (fa_rf o 0) (fa_wr (w o 1)).toNat v o 1 + 1) else w
def fr_drop (o : Nat) (w : fa_W) : Int × fa_W := (fr_at o (w o 1 - 1) w, fm_Row_cut o (w o 1 - 1) w)
def fr_last (o : Nat) (w : fa_W) : Int := fr_at o (w o 1 - 1) w
def fr_fill (o : Nat) (v : Int) : Nat → fa_W → fa_W
  | 0, w => w
  | n + 1, w => fr_fill o v n (fr_add o v w)
def fr_refill (o : Nat) (n v : Int) (w : fa_W) : fa_W := fr_fill o v (fa_wr n).toNat (fm_Row_clear o w)
/-- the first of n places from k on that holds a -/
def fr_seek (o : Nat) (a : Int) (w : fa_W) : Nat → Nat → Int
  | 0, _ => -1
  | n + 1, k => if fa_wr (w (fa_rf o 0) k) = fa_wr a then (k : Int) else fr_seek o a w n (k + 1)
def fr_find (o : Nat) (a : Int) (w : fa_W) : Int := fr_seek o a w (min (fa_wr (w o 1)) (fa_cp o)).toNat 0
theorem fa_wr_lo (x : Int) : -2147483648 ≤ fa_wr x := Int32.le_toInt _
theorem fa_wr_hi (x : Int) : fa_wr x < 2147483648 := Int32.toInt_lt _
theorem fa_wr_id {x : Int} (h1 : -2147483648 ≤ x) (h2 : x < 2147483648) : fa_wr x = x := Int32.toInt_ofInt_of_le h1 h2
theorem fa_wr_wr (x : Int) : fa_wr (fa_wr x) = fa_wr x := fa_wr_id (fa_wr_lo x) (fa_wr_hi x)
theorem fa_cp_hi (o : Nat) : fa_cp o ≤ 55000 := by
  unfold fa_cp
  have h : ∀ o, (fa_sh o).2 ≤ 55000 := fa_all (by decide +kernel) (fun o h => by rw [fa_nd o h]; exact Nat.zero_le _)
  exact h _
theorem fa_ix_some {x : Int} {n : Nat} (h : 0 ≤ fa_wr x ∧ fa_wr x < n) : fa_ix x n = some (fa_wr x).toNat := by unfold fa_ix; rw [if_pos h]
theorem ft_at (o : Nat) (k : Int) (w : fa_W) : fm_Row_at o k w = some (fr_at o k w) := by
  unfold fm_Row_at fr_at
  by_cases h1 : fa_wr k < 0
  · rw [if_pos h1, if_neg (by omega)]
  · by_cases h2 : fa_wr (w o 1) ≤ fa_wr k
    · rw [if_neg h1, if_pos h2, if_neg (by omega)]
    · have e : fa_wr (fa_cp o : Int) = fa_cp o := fa_wr_id (by omega) (by have := fa_cp_hi o; omega)
      rw [if_neg h1, if_neg h2, e]
      by_cases h3 : (fa_cp o : Int) ≤ fa_wr k
      · rw [if_pos h3, if_neg (by omega)]
      · rw [if_neg h3, if_pos (by omega), fa_ix_some (by omega)]
        rfl
theorem ft_bits (o : Nat) (k : Int) (w : fa_W) : fm_Row_bits o k w = some (fr_bits o k w) := by
  unfold fm_Row_bits fr_bits
  by_cases h1 : fa_wr k < 0
  · rw [if_pos h1, if_neg (by omega)]
  · by_cases h2 : fa_wr (w o 1) ≤ fa_wr k
    · rw [if_neg h1, if_pos h2, if_neg (by omega)]
    · have e : fa_wr (fa_cp o : Int) = fa_cp o := fa_wr_id (by omega) (by have := fa_cp_hi o; omega)
      rw [if_neg h1, if_neg h2, e]
      by_cases h3 : (fa_cp o : Int) ≤ fa_wr k
      · rw [if_pos h3, if_neg (by omega)]
      · rw [if_neg h3, if_pos (by omega), fa_ix_some (by omega)]
        rfl
theorem ft_set (o : Nat) (k v : Int) (w : fa_W) : fm_Row_set o k v w = some (fr_set o k v w) := by
  unfold fm_Row_set fr_set
  by_cases h1 : fa_wr k < 0
  · rw [if_pos h1, if_neg (by omega)]
  · by_cases h2 : fa_wr (w o 1) ≤ fa_wr k
    · rw [if_neg h1, if_pos h2, if_neg (by omega)]
    · have e : fa_wr (fa_cp o : Int) = fa_cp o := fa_wr_id (by omega) (by have := fa_cp_hi o; omega)
      rw [if_neg h1, if_neg h2, e]
      by_cases h3 : (fa_cp o : Int) ≤ fa_wr k
      · rw [if_pos h3, if_neg (by omega)]
      · rw [if_neg h3, if_pos (by omega), fa_ix_some (by omega)]
        rfl
theorem ft_add (o : Nat) (v : Int) (w : fa_W) : fm_Row_add o v w = some (fr_add o v w) := by
  unfold fm_Row_add fr_add
  by_cases h1 : fa_wr (w o 1) < 0
  · rw [if_pos h1, if_neg (by omega)]
  · have e : fa_wr (fa_cp o : Int) = fa_cp o := fa_wr_id (by omega) (by have := fa_cp_hi o; omega)
    rw [if_neg h1, e]
    by_cases h3 : (fa_cp o : Int) ≤ fa_wr (w o 1)
    · rw [if_pos h3, if_neg (by omega)]
    · rw [if_neg h3, if_pos (by omega), fa_ix_some (by omega)]
      rfl
theorem ft_drop (o : Nat) (w : fa_W) : fm_Row_drop o w = some (fr_drop o w) := by
  unfold fm_Row_drop fr_drop
  rw [ft_at]
  rfl
theorem ft_last (o : Nat) (w : fa_W) : fm_Row_last o w = some (fr_last o w) := by
  unfold fm_Row_last fr_last
  rw [ft_at]
  rfl
theorem ft_fill (o : Nat) (n v : Int) : ∀ (k : Nat) (j : Nat) (f : Nat) (w : fa_W), (j : Int) + k = fa_wr n → k < f → fm_Row_refill_l6 o n v f j w = some (fr_fill o v k w) := by
  intro k
  induction k with
  | zero =>
    intro j f w h1 h2
    obtain ⟨f, rfl⟩ : ∃ z, f = z + 1 := ⟨f - 1, by omega⟩
    have hj := fa_wr_hi n
    rw [fm_Row_refill_l6, fa_wr_id (x := (j : Int)) (by omega) (by omega), if_pos (by omega)]
    rfl
  | succ k ih =>
    intro j f w h1 h2
    obtain ⟨f, rfl⟩ : ∃ z, f = z + 1 := ⟨f - 1, by omega⟩
    have hj := fa_wr_hi n
    rw [fm_Row_refill_l6, fa_wr_id (x := (j : Int)) (by omega) (by omega), if_neg (by omega), ft_add]
    exact ih (j + 1) f _ (by omega) (by omega)
theorem ft_refill (o : Nat) (n v : Int) (w : fa_W) : fm_Row_refill o n v w = some (fr_refill o n v w) := by
  unfold fm_Row_refill fr_refill
  have hj := fa_wr_hi n
  by_cases h : 0 ≤ fa_wr n
  · exact ft_fill o n v (fa_wr n).toNat 0 fa_FU _ (by omega) (by unfold fa_FU; omega)
  · have e : (fa_wr n).toNat = 0 := by omega
    rw [e]
    show fm_Row_refill_l6 o n v (8589934591 + 1) 0 _ = _
    rw [fm_Row_refill_l6, fa_wr_id (x := 0) (by omega) (by omega), if_pos (by omega)]
    rfl
theorem ft_seek (o : Nat) (a : Int) (w : fa_W) : ∀ (n : Nat) (k : Nat) (f : Nat), k + n = (min (fa_wr (w o 1)) (fa_cp o)).toNat → n < f → fm_Row_placeOf_l2 o a w f k = some (fr_seek o a w n k) := by
  have e : fa_wr (fa_cp o : Int) = fa_cp o := fa_wr_id (by omega) (by have := fa_cp_hi o; omega)
  have hc := fa_cp_hi o
  intro n
  induction n with
  | zero =>
    intro k f h1 h2
    obtain ⟨f, rfl⟩ : ∃ z, f = z + 1 := ⟨f - 1, by omega⟩
    rw [fm_Row_placeOf_l2, fa_wr_id (x := (k : Int)) (by omega) (by omega), e]
    by_cases q : fa_wr (w o 1) ≤ k
    · rw [if_pos q]; rfl
    · rw [if_neg q, if_pos (by omega)]; rfl
  | succ n ih =>
    intro k f h1 h2
    obtain ⟨f, rfl⟩ : ∃ z, f = z + 1 := ⟨f - 1, by omega⟩
    have ek : fa_wr (k : Int) = k := fa_wr_id (by omega) (by omega)
    rw [fm_Row_placeOf_l2, ek, e, if_neg (by omega), if_neg (by omega), fa_ix_some (by rw [ek]; omega), ek]
    unfold fr_seek
    show (if _ then _ else _) = _
    rw [Int.toNat_natCast]
    by_cases q : fa_wr (w (fa_rf o 0) k) = fa_wr a
    · rw [if_pos q, if_pos q]
    · rw [if_neg q, if_neg q]
      exact ih (k + 1) f (by omega) (by omega)
theorem ft_find (o : Nat) (a : Int) (w : fa_W) : fm_Row_placeOf o a w = some (fr_find o a w) := by
  unfold fm_Row_placeOf fr_find
  have hc := fa_cp_hi o
  exact ft_seek o a w _ 0 fa_FU (by omega) (by unfold fa_FU; omega)
def fr_repeat (o : Nat) (a1 a2 a3 : Int) (w : fa_W) : fa_W := if 0 ≤ fa_wr a3 ∧ 0 ≤ fa_wr a1 ∧ 0 ≤ fa_wr a2 ∧ fa_wr a1 + fa_wr a3 ≤ fa_wr (w o 1) ∧ fa_wr a2 + fa_wr a3 ≤ fa_wr (w o 1) ∧ fa_wr (w o 1) ≤ fa_cp o then fa_cy w (fa_rf o 0) (fa_rf o 0) (fa_wr a1).toNat (fa_wr a2).toNat (fa_wr a3).toNat else w
theorem ft_repeat (o : Nat) (a1 a2 a3 : Int) (w : fa_W) (hs : -2147483648 ≤ w o 1 - a3 ∧ w o 1 - a3 < 2147483648 ∧ 0 ≤ w o 1 ∧ w o 1 < 2147483648 ∧ -2147483648 ≤ a3 ∧ a3 < 2147483648) : fm_Row_repeat o a1 a2 a3 w = some (fr_repeat o a1 a2 a3 w) := by
  obtain ⟨s1, s2, s3, s4, s5, s6⟩ := hs
  have e : fa_wr (fa_cp o : Int) = fa_cp o := fa_wr_id (by omega) (by have := fa_cp_hi o; omega)
  have e2 : fa_wr (w o 1 - a3) = w o 1 - a3 := fa_wr_id s1 s2
  have e3 : fa_wr (w o 1) = w o 1 := fa_wr_id (by omega) s4
  have e4 : fa_wr a3 = a3 := fa_wr_id s5 s6
  unfold fm_Row_repeat fr_repeat
  rw [e, e2, e3, e4]
  by_cases h1 : a3 < 0
  · rw [if_pos h1, if_neg (by omega)]
  rw [if_neg h1]
  by_cases h2 : fa_wr a1 < 0
  · rw [if_pos h2, if_neg (by omega)]
  rw [if_neg h2]
  by_cases h3 : fa_wr a2 < 0
  · rw [if_pos h3, if_neg (by omega)]
  rw [if_neg h3]
  by_cases h4 : w o 1 - a3 < fa_wr a1
  · rw [if_pos h4, if_neg (by omega)]
  rw [if_neg h4]
  by_cases h5 : w o 1 - a3 < fa_wr a2
  · rw [if_pos h5, if_neg (by omega)]
  rw [if_neg h5]
  by_cases h6 : (fa_cp o : Int) < w o 1
  · rw [if_pos h6, if_neg (by omega)]
  rw [if_neg h6, if_neg (by omega), if_pos (by omega)]
  rfl
theorem ct_Row_at {l : Launch} {D : va_G} {b : Nat} {aC : Nat → ClassId} {H0 : Heap} {N T : Nat} (o : Nat) (a1 : Int) (hr : fa_RO o N T) (w : fa_W) (r : Int) (hM : fr_at o a1 w = r) : fa_MC l D b aC H0 N T y_Row_at prog_7_method_3_code 2 ((Option.some Jvm.ClassFile.FieldType.int)) (0) [.ref (b + o), .int (fa_I a1)] w (some (.int (fa_I r))) w := c_Row_at o a1 hr w r (by rw [← hM, ft_at])
theorem ct_Row_bits {l : Launch} {D : va_G} {b : Nat} {aC : Nat → ClassId} {H0 : Heap} {N T : Nat} (o : Nat) (a1 : Int) (hr : fa_RO o N T) (w : fa_W) (r : Int) (hM : fr_bits o a1 w = r) : fa_MC l D b aC H0 N T y_Row_bits prog_7_method_4_code 2 ((Option.some Jvm.ClassFile.FieldType.int)) (0) [.ref (b + o), .int (fa_I a1)] w (some (.int (fa_I r))) w := c_Row_bits o a1 hr w r (by rw [← hM, ft_bits])
theorem ct_Row_set {l : Launch} {D : va_G} {b : Nat} {aC : Nat → ClassId} {H0 : Heap} {N T : Nat} (o : Nat) (a1 : Int) (a2 : Int) (hr : fa_RO o N T) (w : fa_W) (r : fa_W) (hM : fr_set o a1 a2 w = r) : fa_MC l D b aC H0 N T y_Row_set prog_7_method_6_code 3 ((Option.none : Option Jvm.ClassFile.FieldType)) (0) [.ref (b + o), .int (fa_I a1), .int (fa_I a2)] w (none) r := c_Row_set o a1 a2 hr w r (by rw [← hM, ft_set])
theorem ct_Row_add {l : Launch} {D : va_G} {b : Nat} {aC : Nat → ClassId} {H0 : Heap} {N T : Nat} (o : Nat) (a1 : Int) (hr : fa_RO o N T) (w : fa_W) (r : fa_W) (hM : fr_add o a1 w = r) : fa_MC l D b aC H0 N T y_Row_add prog_7_method_5_code 2 ((Option.none : Option Jvm.ClassFile.FieldType)) (0) [.ref (b + o), .int (fa_I a1)] w (none) r := c_Row_add o a1 hr w r (by rw [← hM, ft_add])
theorem ct_Row_drop {l : Launch} {D : va_G} {b : Nat} {aC : Nat → ClassId} {H0 : Heap} {N T : Nat} (o : Nat) (hr : fa_RO o N T) (w : fa_W) (r : Int × fa_W) (hM : fr_drop o w = r) : fa_MC l D b aC H0 N T y_Row_drop prog_7_method_7_code 2 ((Option.some Jvm.ClassFile.FieldType.int)) (1) [.ref (b + o)] w (some (.int (fa_I r.1))) r.2 := c_Row_drop o hr w r (by rw [← hM, ft_drop])
theorem ct_Row_last {l : Launch} {D : va_G} {b : Nat} {aC : Nat → ClassId} {H0 : Heap} {N T : Nat} (o : Nat) (hr : fa_RO o N T) (w : fa_W) (r : Int) (hM : fr_last o w = r) : fa_MC l D b aC H0 N T y_Row_last prog_7_method_8_code 1 ((Option.some Jvm.ClassFile.FieldType.int)) (1) [.ref (b + o)] w (some (.int (fa_I r))) w := c_Row_last o hr w r (by rw [← hM, ft_last])
theorem ct_Row_refill {l : Launch} {D : va_G} {b : Nat} {aC : Nat → ClassId} {H0 : Heap} {N T : Nat} (o : Nat) (a1 : Int) (a2 : Int) (hr : fa_RO o N T) (w : fa_W) (r : fa_W) (hM : fr_refill o a1 a2 w = r) : fa_MC l D b aC H0 N T y_Row_refill prog_7_method_11_code 4 ((Option.none : Option Jvm.ClassFile.FieldType)) (1) [.ref (b + o), .int (fa_I a1), .int (fa_I a2)] w (none) r := c_Row_refill o a1 a2 hr w r (by rw [← hM, ft_refill])
theorem ct_Row_placeOf {l : Launch} {D : va_G} {b : Nat} {aC : Nat → ClassId} {H0 : Heap} {N T : Nat} (o : Nat) (a1 : Int) (hr : fa_RO o N T) (w : fa_W) (r : Int) (hM : fr_find o a1 w = r) : fa_MC l D b aC H0 N T y_Row_placeOf prog_7_method_13_code 3 ((Option.some Jvm.ClassFile.FieldType.int)) (0) [.ref (b + o), .int (fa_I a1)] w (some (.int (fa_I r))) w := c_Row_placeOf o a1 hr w r (by rw [← hM, ft_find])
