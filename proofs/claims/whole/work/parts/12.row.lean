theorem d_Row_size_0 : decode prog_7_method_2_code 0 = .ok (.aload_n 0, 1) := by decide +kernel
theorem d_Row_size_1 : decode prog_7_method_2_code 1 = .ok (.getfield 9, 3) := by decide +kernel
theorem d_Row_size_4 : decode prog_7_method_2_code 4 = .ok (.ireturn, 1) := by decide +kernel
def fm_Row_size (o : Nat) (w : fa_W) : Int :=
  w o 1
set_option maxHeartbeats 4000000 in
set_option maxRecDepth 100000 in
theorem c_Row_size {l : Launch} {D : va_G} {b : Nat} {aC : Nat → ClassId} {H0 : Heap} {N T : Nat}  (o : Nat) (hr : fa_RO o N T)  (w : fa_W) (r : Int) (hM : fm_Row_size o w = r) : fa_MC l D b aC H0 N T y_Row_size prog_7_method_2_code 1 ((Option.some Jvm.ClassFile.FieldType.int)) (0) [.ref (b + o)] w (some (.int (fa_I r))) w := by
  refine fa_enter (lv := [(0, .ref (b + o))]) (by decide +kernel) (Nat.le_of_ble_eq_true rfl) rfl (fun hh hle hnm X => ?_)
  unfold fm_Row_size at hM
  refine g_aload_n X 0 rfl d_Row_size_0 ?_
  refine g_get X ck_6 hr.1 hr.2.1 1 (by decide) wd_44 rfl (fa_fvI rfl) d_Row_size_1 ?_
  subst hM
  exact g_iret X d_Row_size_4
theorem d_Row_at_0 : decode prog_7_method_3_code 0 = .ok (.iload_n 1, 1) := by decide +kernel
theorem d_Row_at_1 : decode prog_7_method_3_code 1 = .ok (.ifCond .lt 29, 3) := by decide +kernel
theorem d_Row_at_4 : decode prog_7_method_3_code 4 = .ok (.iload_n 1, 1) := by decide +kernel
theorem d_Row_at_5 : decode prog_7_method_3_code 5 = .ok (.aload_n 0, 1) := by decide +kernel
theorem d_Row_at_6 : decode prog_7_method_3_code 6 = .ok (.getfield 9, 3) := by decide +kernel
theorem d_Row_at_9 : decode prog_7_method_3_code 9 = .ok (.if_icmp .ge 21, 3) := by decide +kernel
theorem d_Row_at_12 : decode prog_7_method_3_code 12 = .ok (.iload_n 1, 1) := by decide +kernel
theorem d_Row_at_13 : decode prog_7_method_3_code 13 = .ok (.aload_n 0, 1) := by decide +kernel
theorem d_Row_at_14 : decode prog_7_method_3_code 14 = .ok (.getfield 21, 3) := by decide +kernel
theorem d_Row_at_17 : decode prog_7_method_3_code 17 = .ok (.arraylength, 1) := by decide +kernel
theorem d_Row_at_18 : decode prog_7_method_3_code 18 = .ok (.if_icmp .ge 12, 3) := by decide +kernel
theorem d_Row_at_21 : decode prog_7_method_3_code 21 = .ok (.aload_n 0, 1) := by decide +kernel
theorem d_Row_at_22 : decode prog_7_method_3_code 22 = .ok (.getfield 21, 3) := by decide +kernel
theorem d_Row_at_25 : decode prog_7_method_3_code 25 = .ok (.iload_n 1, 1) := by decide +kernel
theorem d_Row_at_26 : decode prog_7_method_3_code 26 = .ok (.iaload, 1) := by decide +kernel
theorem d_Row_at_27 : decode prog_7_method_3_code 27 = .ok (.goto 4, 3) := by decide +kernel
theorem d_Row_at_30 : decode prog_7_method_3_code 30 = .ok (.iconst (-1), 1) := by decide +kernel
theorem d_Row_at_31 : decode prog_7_method_3_code 31 = .ok (.ireturn, 1) := by decide +kernel
def fm_Row_at (o : Nat) (a1 : Int) (w : fa_W) : Option Int :=
  if fa_wr a1 < 0 then
  some (-1)
  else
  (if fa_wr (w o 1) ≤ fa_wr a1 then
  some (-1)
  else
  (if fa_wr (fa_cp o : Int) ≤ fa_wr a1 then
  some (-1)
  else
  ((fa_ix a1 (fa_cp o)).bind fun j4 =>
  some (w (fa_rf o 0) j4))))
set_option maxHeartbeats 4000000 in
set_option maxRecDepth 100000 in
theorem c_Row_at {l : Launch} {D : va_G} {b : Nat} {aC : Nat → ClassId} {H0 : Heap} {N T : Nat}  (o : Nat) (a1 : Int) (hr : fa_RO o N T)  (w : fa_W) (r : Int) (hM : fm_Row_at o a1 w = some r) : fa_MC l D b aC H0 N T y_Row_at prog_7_method_3_code 2 ((Option.some Jvm.ClassFile.FieldType.int)) (0) [.ref (b + o), .int (fa_I a1)] w (some (.int (fa_I r))) w := by
  refine fa_enter (lv := [(0, .ref (b + o)), (1, .int (fa_I a1))]) (by decide +kernel) (Nat.le_of_ble_eq_true rfl) rfl (fun hh hle hnm X => ?_)
  unfold fm_Row_at at hM
  refine g_iload_n X 1 rfl d_Row_at_0 ?_
  refine g_if_lt X 30 d_Row_at_1 (by decide) (fun hc1 => ?_) (fun hc1 => ?_)
  · have hM := fa_if_t hM hc1
    refine g_iconst X d_Row_at_30 ?_
    cases hM
    exact g_iret X d_Row_at_31
  · have hM := fa_if_f hM hc1
    refine g_iload_n X 1 rfl d_Row_at_4 ?_
    refine g_aload_n X 0 rfl d_Row_at_5 ?_
    refine g_get X ck_6 hr.1 hr.2.1 1 (by decide) wd_44 rfl (fa_fvI rfl) d_Row_at_6 ?_
    refine g_icmp_ge X 30 d_Row_at_9 (by decide) (fun hc2 => ?_) (fun hc2 => ?_)
    · have hM := fa_if_t hM hc2
      refine g_iconst X d_Row_at_30 ?_
      cases hM
      exact g_iret X d_Row_at_31
    · have hM := fa_if_f hM hc2
      refine g_iload_n X 1 rfl d_Row_at_12 ?_
      refine g_aload_n X 0 rfl d_Row_at_13 ?_
      refine g_get X ck_6 hr.1 hr.2.1 0 (by decide) wd_43 rfl (fa_fvR rfl hr.2.2.2.2) d_Row_at_14 ?_
      refine g_alen X (n := 0) (by rw [hr.2.2.1]) rfl hr.2.2.2.1 d_Row_at_17 ?_
      refine g_icmp_ge X 30 d_Row_at_18 (by decide) (fun hc3 => ?_) (fun hc3 => ?_)
      · have hM := fa_if_t hM hc3
        refine g_iconst X d_Row_at_30 ?_
        cases hM
        exact g_iret X d_Row_at_31
      · have hM := fa_if_f hM hc3
        refine g_aload_n X 0 rfl d_Row_at_21 ?_
        refine g_get X ck_6 hr.1 hr.2.1 0 (by decide) wd_43 rfl (fa_fvR rfl hr.2.2.2.2) d_Row_at_22 ?_
        refine g_iload_n X 1 rfl d_Row_at_25 ?_
        obtain ⟨j4, ej4, hM⟩ := fa_ob hM
        refine g_iald X hr.2.2.1 hr.2.2.2.1 ej4 d_Row_at_26 ?_
        refine g_goto X 31 d_Row_at_27 (by decide) ?_
        cases hM
        exact g_iret X d_Row_at_31
theorem d_Row_bits_0 : decode prog_7_method_4_code 0 = .ok (.iload_n 1, 1) := by decide +kernel
theorem d_Row_bits_1 : decode prog_7_method_4_code 1 = .ok (.ifCond .lt 29, 3) := by decide +kernel
theorem d_Row_bits_4 : decode prog_7_method_4_code 4 = .ok (.iload_n 1, 1) := by decide +kernel
theorem d_Row_bits_5 : decode prog_7_method_4_code 5 = .ok (.aload_n 0, 1) := by decide +kernel
theorem d_Row_bits_6 : decode prog_7_method_4_code 6 = .ok (.getfield 9, 3) := by decide +kernel
theorem d_Row_bits_9 : decode prog_7_method_4_code 9 = .ok (.if_icmp .ge 21, 3) := by decide +kernel
theorem d_Row_bits_12 : decode prog_7_method_4_code 12 = .ok (.iload_n 1, 1) := by decide +kernel
theorem d_Row_bits_13 : decode prog_7_method_4_code 13 = .ok (.aload_n 0, 1) := by decide +kernel
theorem d_Row_bits_14 : decode prog_7_method_4_code 14 = .ok (.getfield 21, 3) := by decide +kernel
theorem d_Row_bits_17 : decode prog_7_method_4_code 17 = .ok (.arraylength, 1) := by decide +kernel
theorem d_Row_bits_18 : decode prog_7_method_4_code 18 = .ok (.if_icmp .ge 12, 3) := by decide +kernel
theorem d_Row_bits_21 : decode prog_7_method_4_code 21 = .ok (.aload_n 0, 1) := by decide +kernel
theorem d_Row_bits_22 : decode prog_7_method_4_code 22 = .ok (.getfield 21, 3) := by decide +kernel
theorem d_Row_bits_25 : decode prog_7_method_4_code 25 = .ok (.iload_n 1, 1) := by decide +kernel
theorem d_Row_bits_26 : decode prog_7_method_4_code 26 = .ok (.iaload, 1) := by decide +kernel
theorem d_Row_bits_27 : decode prog_7_method_4_code 27 = .ok (.goto 4, 3) := by decide +kernel
theorem d_Row_bits_30 : decode prog_7_method_4_code 30 = .ok (.iconst 0, 1) := by decide +kernel
theorem d_Row_bits_31 : decode prog_7_method_4_code 31 = .ok (.ireturn, 1) := by decide +kernel
def fm_Row_bits (o : Nat) (a1 : Int) (w : fa_W) : Option Int :=
  if fa_wr a1 < 0 then
  some 0
  else
  (if fa_wr (w o 1) ≤ fa_wr a1 then
  some 0
  else
  (if fa_wr (fa_cp o : Int) ≤ fa_wr a1 then
  some 0
  else
  ((fa_ix a1 (fa_cp o)).bind fun j4 =>
  some (w (fa_rf o 0) j4))))
set_option maxHeartbeats 4000000 in
set_option maxRecDepth 100000 in
theorem c_Row_bits {l : Launch} {D : va_G} {b : Nat} {aC : Nat → ClassId} {H0 : Heap} {N T : Nat}  (o : Nat) (a1 : Int) (hr : fa_RO o N T)  (w : fa_W) (r : Int) (hM : fm_Row_bits o a1 w = some r) : fa_MC l D b aC H0 N T y_Row_bits prog_7_method_4_code 2 ((Option.some Jvm.ClassFile.FieldType.int)) (0) [.ref (b + o), .int (fa_I a1)] w (some (.int (fa_I r))) w := by
  refine fa_enter (lv := [(0, .ref (b + o)), (1, .int (fa_I a1))]) (by decide +kernel) (Nat.le_of_ble_eq_true rfl) rfl (fun hh hle hnm X => ?_)
  unfold fm_Row_bits at hM
  refine g_iload_n X 1 rfl d_Row_bits_0 ?_
  refine g_if_lt X 30 d_Row_bits_1 (by decide) (fun hc1 => ?_) (fun hc1 => ?_)
  · have hM := fa_if_t hM hc1
    refine g_iconst X d_Row_bits_30 ?_
    cases hM
    exact g_iret X d_Row_bits_31
  · have hM := fa_if_f hM hc1
    refine g_iload_n X 1 rfl d_Row_bits_4 ?_
    refine g_aload_n X 0 rfl d_Row_bits_5 ?_
    refine g_get X ck_6 hr.1 hr.2.1 1 (by decide) wd_44 rfl (fa_fvI rfl) d_Row_bits_6 ?_
    refine g_icmp_ge X 30 d_Row_bits_9 (by decide) (fun hc2 => ?_) (fun hc2 => ?_)
    · have hM := fa_if_t hM hc2
      refine g_iconst X d_Row_bits_30 ?_
      cases hM
      exact g_iret X d_Row_bits_31
    · have hM := fa_if_f hM hc2
      refine g_iload_n X 1 rfl d_Row_bits_12 ?_
      refine g_aload_n X 0 rfl d_Row_bits_13 ?_
      refine g_get X ck_6 hr.1 hr.2.1 0 (by decide) wd_43 rfl (fa_fvR rfl hr.2.2.2.2) d_Row_bits_14 ?_
      refine g_alen X (n := 0) (by rw [hr.2.2.1]) rfl hr.2.2.2.1 d_Row_bits_17 ?_
      refine g_icmp_ge X 30 d_Row_bits_18 (by decide) (fun hc3 => ?_) (fun hc3 => ?_)
      · have hM := fa_if_t hM hc3
        refine g_iconst X d_Row_bits_30 ?_
        cases hM
        exact g_iret X d_Row_bits_31
      · have hM := fa_if_f hM hc3
        refine g_aload_n X 0 rfl d_Row_bits_21 ?_
        refine g_get X ck_6 hr.1 hr.2.1 0 (by decide) wd_43 rfl (fa_fvR rfl hr.2.2.2.2) d_Row_bits_22 ?_
        refine g_iload_n X 1 rfl d_Row_bits_25 ?_
        obtain ⟨j4, ej4, hM⟩ := fa_ob hM
        refine g_iald X hr.2.2.1 hr.2.2.2.1 ej4 d_Row_bits_26 ?_
        refine g_goto X 31 d_Row_bits_27 (by decide) ?_
        cases hM
        exact g_iret X d_Row_bits_31
theorem d_Row_add_0 : decode prog_7_method_5_code 0 = .ok (.aload_n 0, 1) := by decide +kernel
theorem d_Row_add_1 : decode prog_7_method_5_code 1 = .ok (.getfield 9, 3) := by decide +kernel
theorem d_Row_add_4 : decode prog_7_method_5_code 4 = .ok (.ifCond .lt 35, 3) := by decide +kernel
theorem d_Row_add_7 : decode prog_7_method_5_code 7 = .ok (.aload_n 0, 1) := by decide +kernel
theorem d_Row_add_8 : decode prog_7_method_5_code 8 = .ok (.getfield 9, 3) := by decide +kernel
theorem d_Row_add_11 : decode prog_7_method_5_code 11 = .ok (.aload_n 0, 1) := by decide +kernel
theorem d_Row_add_12 : decode prog_7_method_5_code 12 = .ok (.getfield 21, 3) := by decide +kernel
theorem d_Row_add_15 : decode prog_7_method_5_code 15 = .ok (.arraylength, 1) := by decide +kernel
theorem d_Row_add_16 : decode prog_7_method_5_code 16 = .ok (.if_icmp .ge 23, 3) := by decide +kernel
theorem d_Row_add_19 : decode prog_7_method_5_code 19 = .ok (.aload_n 0, 1) := by decide +kernel
theorem d_Row_add_20 : decode prog_7_method_5_code 20 = .ok (.getfield 21, 3) := by decide +kernel
theorem d_Row_add_23 : decode prog_7_method_5_code 23 = .ok (.aload_n 0, 1) := by decide +kernel
theorem d_Row_add_24 : decode prog_7_method_5_code 24 = .ok (.getfield 9, 3) := by decide +kernel
theorem d_Row_add_27 : decode prog_7_method_5_code 27 = .ok (.iload_n 1, 1) := by decide +kernel
theorem d_Row_add_28 : decode prog_7_method_5_code 28 = .ok (.iastore, 1) := by decide +kernel
theorem d_Row_add_29 : decode prog_7_method_5_code 29 = .ok (.aload_n 0, 1) := by decide +kernel
theorem d_Row_add_30 : decode prog_7_method_5_code 30 = .ok (.dup, 1) := by decide +kernel
theorem d_Row_add_31 : decode prog_7_method_5_code 31 = .ok (.getfield 9, 3) := by decide +kernel
theorem d_Row_add_34 : decode prog_7_method_5_code 34 = .ok (.iconst 1, 1) := by decide +kernel
theorem d_Row_add_35 : decode prog_7_method_5_code 35 = .ok (.iadd, 1) := by decide +kernel
theorem d_Row_add_36 : decode prog_7_method_5_code 36 = .ok (.putfield 9, 3) := by decide +kernel
theorem d_Row_add_39 : decode prog_7_method_5_code 39 = .ok (.return_, 1) := by decide +kernel
def fm_Row_add (o : Nat) (a1 : Int) (w : fa_W) : Option fa_W :=
  if fa_wr (w o 1) < 0 then
  some w
  else
  (if fa_wr (fa_cp o : Int) ≤ fa_wr (w o 1) then
  some w
  else
  ((fa_ix (w o 1) (fa_cp o)).bind fun j3 =>
  fa_let (fa_st w (fa_rf o 0) j3 a1) fun w4 =>
  fa_let (fa_st w4 o 1 ((w4 o 1) + 1)) fun w5 =>
  some w5))
set_option maxHeartbeats 4000000 in
set_option maxRecDepth 100000 in
theorem c_Row_add {l : Launch} {D : va_G} {b : Nat} {aC : Nat → ClassId} {H0 : Heap} {N T : Nat}  (o : Nat) (a1 : Int) (hr : fa_RO o N T)  (w : fa_W) (r : fa_W) (hM : fm_Row_add o a1 w = some r) : fa_MC l D b aC H0 N T y_Row_add prog_7_method_5_code 2 ((Option.none : Option Jvm.ClassFile.FieldType)) (0) [.ref (b + o), .int (fa_I a1)] w (none) r := by
  refine fa_enter (lv := [(0, .ref (b + o)), (1, .int (fa_I a1))]) (by decide +kernel) (Nat.le_of_ble_eq_true rfl) rfl (fun hh hle hnm X => ?_)
  unfold fm_Row_add at hM
  refine g_aload_n X 0 rfl d_Row_add_0 ?_
  refine g_get X ck_6 hr.1 hr.2.1 1 (by decide) wd_44 rfl (fa_fvI rfl) d_Row_add_1 ?_
  refine g_if_lt X 39 d_Row_add_4 (by decide) (fun hc1 => ?_) (fun hc1 => ?_)
  · have hM := fa_if_t hM hc1
    cases hM
    exact g_vret X d_Row_add_39
  · have hM := fa_if_f hM hc1
    refine g_aload_n X 0 rfl d_Row_add_7 ?_
    refine g_get X ck_6 hr.1 hr.2.1 1 (by decide) wd_44 rfl (fa_fvI rfl) d_Row_add_8 ?_
    refine g_aload_n X 0 rfl d_Row_add_11 ?_
    refine g_get X ck_6 hr.1 hr.2.1 0 (by decide) wd_43 rfl (fa_fvR rfl hr.2.2.2.2) d_Row_add_12 ?_
    refine g_alen X (n := 0) (by rw [hr.2.2.1]) rfl hr.2.2.2.1 d_Row_add_15 ?_
    refine g_icmp_ge X 39 d_Row_add_16 (by decide) (fun hc2 => ?_) (fun hc2 => ?_)
    · have hM := fa_if_t hM hc2
      cases hM
      exact g_vret X d_Row_add_39
    · have hM := fa_if_f hM hc2
      refine g_aload_n X 0 rfl d_Row_add_19 ?_
      refine g_get X ck_6 hr.1 hr.2.1 0 (by decide) wd_43 rfl (fa_fvR rfl hr.2.2.2.2) d_Row_add_20 ?_
      refine g_aload_n X 0 rfl d_Row_add_23 ?_
      refine g_get X ck_6 hr.1 hr.2.1 1 (by decide) wd_44 rfl (fa_fvI rfl) d_Row_add_24 ?_
      refine g_iload_n X 1 rfl d_Row_add_27 ?_
      obtain ⟨j3, ej3, hM⟩ := fa_ob hM
      refine g_iast X hr.2.2.1 hr.2.2.2.1 ej3 d_Row_add_28 (fun w4 ew4 => ?_)
      have hM := fa_let_to hM ew4
      refine g_aload_n X 0 rfl d_Row_add_29 ?_
      refine g_dup X rfl d_Row_add_30 ?_
      refine g_get X ck_6 hr.1 hr.2.1 1 (by decide) wd_44 rfl (fa_fvI rfl) d_Row_add_31 ?_
      refine g_iconst X d_Row_add_34 ?_
      refine g_iadd X d_Row_add_35 ?_
      refine g_put X ck_6 hr.1 hr.2.1 1 (z := ((w4 o 1) + 1)) (by decide) wd_44 rfl (fa_fvI' rfl) rfl rfl rfl d_Row_add_36 (fun w5 ew5 => ?_)
      have hM := fa_let_to hM ew5
      cases hM
      exact g_vret X d_Row_add_39
theorem d_Row_set_0 : decode prog_7_method_6_code 0 = .ok (.iload_n 1, 1) := by decide +kernel
theorem d_Row_set_1 : decode prog_7_method_6_code 1 = .ok (.ifCond .lt 27, 3) := by decide +kernel
theorem d_Row_set_4 : decode prog_7_method_6_code 4 = .ok (.iload_n 1, 1) := by decide +kernel
theorem d_Row_set_5 : decode prog_7_method_6_code 5 = .ok (.aload_n 0, 1) := by decide +kernel
theorem d_Row_set_6 : decode prog_7_method_6_code 6 = .ok (.getfield 9, 3) := by decide +kernel
theorem d_Row_set_9 : decode prog_7_method_6_code 9 = .ok (.if_icmp .ge 19, 3) := by decide +kernel
theorem d_Row_set_12 : decode prog_7_method_6_code 12 = .ok (.iload_n 1, 1) := by decide +kernel
theorem d_Row_set_13 : decode prog_7_method_6_code 13 = .ok (.aload_n 0, 1) := by decide +kernel
theorem d_Row_set_14 : decode prog_7_method_6_code 14 = .ok (.getfield 21, 3) := by decide +kernel
theorem d_Row_set_17 : decode prog_7_method_6_code 17 = .ok (.arraylength, 1) := by decide +kernel
theorem d_Row_set_18 : decode prog_7_method_6_code 18 = .ok (.if_icmp .ge 10, 3) := by decide +kernel
theorem d_Row_set_21 : decode prog_7_method_6_code 21 = .ok (.aload_n 0, 1) := by decide +kernel
theorem d_Row_set_22 : decode prog_7_method_6_code 22 = .ok (.getfield 21, 3) := by decide +kernel
theorem d_Row_set_25 : decode prog_7_method_6_code 25 = .ok (.iload_n 1, 1) := by decide +kernel
theorem d_Row_set_26 : decode prog_7_method_6_code 26 = .ok (.iload_n 2, 1) := by decide +kernel
theorem d_Row_set_27 : decode prog_7_method_6_code 27 = .ok (.iastore, 1) := by decide +kernel
theorem d_Row_set_28 : decode prog_7_method_6_code 28 = .ok (.return_, 1) := by decide +kernel
def fm_Row_set (o : Nat) (a1 : Int) (a2 : Int) (w : fa_W) : Option fa_W :=
  if fa_wr a1 < 0 then
  some w
  else
  (if fa_wr (w o 1) ≤ fa_wr a1 then
  some w
  else
  (if fa_wr (fa_cp o : Int) ≤ fa_wr a1 then
  some w
  else
  ((fa_ix a1 (fa_cp o)).bind fun j4 =>
  fa_let (fa_st w (fa_rf o 0) j4 a2) fun w5 =>
  some w5)))
set_option maxHeartbeats 4000000 in
set_option maxRecDepth 100000 in
theorem c_Row_set {l : Launch} {D : va_G} {b : Nat} {aC : Nat → ClassId} {H0 : Heap} {N T : Nat}  (o : Nat) (a1 : Int) (a2 : Int) (hr : fa_RO o N T)  (w : fa_W) (r : fa_W) (hM : fm_Row_set o a1 a2 w = some r) : fa_MC l D b aC H0 N T y_Row_set prog_7_method_6_code 3 ((Option.none : Option Jvm.ClassFile.FieldType)) (0) [.ref (b + o), .int (fa_I a1), .int (fa_I a2)] w (none) r := by
  refine fa_enter (lv := [(0, .ref (b + o)), (1, .int (fa_I a1)), (2, .int (fa_I a2))]) (by decide +kernel) (Nat.le_of_ble_eq_true rfl) rfl (fun hh hle hnm X => ?_)
  unfold fm_Row_set at hM
  refine g_iload_n X 1 rfl d_Row_set_0 ?_
  refine g_if_lt X 28 d_Row_set_1 (by decide) (fun hc1 => ?_) (fun hc1 => ?_)
  · have hM := fa_if_t hM hc1
    cases hM
    exact g_vret X d_Row_set_28
  · have hM := fa_if_f hM hc1
    refine g_iload_n X 1 rfl d_Row_set_4 ?_
    refine g_aload_n X 0 rfl d_Row_set_5 ?_
    refine g_get X ck_6 hr.1 hr.2.1 1 (by decide) wd_44 rfl (fa_fvI rfl) d_Row_set_6 ?_
    refine g_icmp_ge X 28 d_Row_set_9 (by decide) (fun hc2 => ?_) (fun hc2 => ?_)
    · have hM := fa_if_t hM hc2
      cases hM
      exact g_vret X d_Row_set_28
    · have hM := fa_if_f hM hc2
      refine g_iload_n X 1 rfl d_Row_set_12 ?_
      refine g_aload_n X 0 rfl d_Row_set_13 ?_
      refine g_get X ck_6 hr.1 hr.2.1 0 (by decide) wd_43 rfl (fa_fvR rfl hr.2.2.2.2) d_Row_set_14 ?_
      refine g_alen X (n := 0) (by rw [hr.2.2.1]) rfl hr.2.2.2.1 d_Row_set_17 ?_
      refine g_icmp_ge X 28 d_Row_set_18 (by decide) (fun hc3 => ?_) (fun hc3 => ?_)
      · have hM := fa_if_t hM hc3
        cases hM
        exact g_vret X d_Row_set_28
      · have hM := fa_if_f hM hc3
        refine g_aload_n X 0 rfl d_Row_set_21 ?_
        refine g_get X ck_6 hr.1 hr.2.1 0 (by decide) wd_43 rfl (fa_fvR rfl hr.2.2.2.2) d_Row_set_22 ?_
        refine g_iload_n X 1 rfl d_Row_set_25 ?_
        refine g_iload_n X 2 rfl d_Row_set_26 ?_
        obtain ⟨j4, ej4, hM⟩ := fa_ob hM
        refine g_iast X hr.2.2.1 hr.2.2.2.1 ej4 d_Row_set_27 (fun w5 ew5 => ?_)
        have hM := fa_let_to hM ew5
        cases hM
        exact g_vret X d_Row_set_28
theorem d_Row_cut_0 : decode prog_7_method_9_code 0 = .ok (.iload_n 1, 1) := by decide +kernel
theorem d_Row_cut_1 : decode prog_7_method_9_code 1 = .ok (.ifCond .lt 16, 3) := by decide +kernel
theorem d_Row_cut_4 : decode prog_7_method_9_code 4 = .ok (.iload_n 1, 1) := by decide +kernel
theorem d_Row_cut_5 : decode prog_7_method_9_code 5 = .ok (.aload_n 0, 1) := by decide +kernel
theorem d_Row_cut_6 : decode prog_7_method_9_code 6 = .ok (.getfield 9, 3) := by decide +kernel
theorem d_Row_cut_9 : decode prog_7_method_9_code 9 = .ok (.if_icmp .ge 8, 3) := by decide +kernel
theorem d_Row_cut_12 : decode prog_7_method_9_code 12 = .ok (.aload_n 0, 1) := by decide +kernel
theorem d_Row_cut_13 : decode prog_7_method_9_code 13 = .ok (.iload_n 1, 1) := by decide +kernel
theorem d_Row_cut_14 : decode prog_7_method_9_code 14 = .ok (.putfield 9, 3) := by decide +kernel
theorem d_Row_cut_17 : decode prog_7_method_9_code 17 = .ok (.return_, 1) := by decide +kernel
def fm_Row_cut (o : Nat) (a1 : Int) (w : fa_W) : fa_W :=
  if fa_wr a1 < 0 then
  w
  else
  (if fa_wr (w o 1) ≤ fa_wr a1 then
  w
  else
  (fa_let (fa_st w o 1 a1) fun w3 =>
  w3))
set_option maxHeartbeats 4000000 in
set_option maxRecDepth 100000 in
theorem c_Row_cut {l : Launch} {D : va_G} {b : Nat} {aC : Nat → ClassId} {H0 : Heap} {N T : Nat}  (o : Nat) (a1 : Int) (hr : fa_RO o N T)  (w : fa_W) (r : fa_W) (hM : fm_Row_cut o a1 w = r) : fa_MC l D b aC H0 N T y_Row_cut prog_7_method_9_code 2 ((Option.none : Option Jvm.ClassFile.FieldType)) (0) [.ref (b + o), .int (fa_I a1)] w (none) r := by
  refine fa_enter (lv := [(0, .ref (b + o)), (1, .int (fa_I a1))]) (by decide +kernel) (Nat.le_of_ble_eq_true rfl) rfl (fun hh hle hnm X => ?_)
  unfold fm_Row_cut at hM
  refine g_iload_n X 1 rfl d_Row_cut_0 ?_
  refine g_if_lt X 17 d_Row_cut_1 (by decide) (fun hc1 => ?_) (fun hc1 => ?_)
  · have hM := fa_if_t hM hc1
    subst hM
    exact g_vret X d_Row_cut_17
  · have hM := fa_if_f hM hc1
    refine g_iload_n X 1 rfl d_Row_cut_4 ?_
    refine g_aload_n X 0 rfl d_Row_cut_5 ?_
    refine g_get X ck_6 hr.1 hr.2.1 1 (by decide) wd_44 rfl (fa_fvI rfl) d_Row_cut_6 ?_
    refine g_icmp_ge X 17 d_Row_cut_9 (by decide) (fun hc2 => ?_) (fun hc2 => ?_)
    · have hM := fa_if_t hM hc2
      subst hM
      exact g_vret X d_Row_cut_17
    · have hM := fa_if_f hM hc2
      refine g_aload_n X 0 rfl d_Row_cut_12 ?_
      refine g_iload_n X 1 rfl d_Row_cut_13 ?_
      refine g_put X ck_6 hr.1 hr.2.1 1 (z := a1) (by decide) wd_44 rfl (fa_fvI' rfl) rfl rfl rfl d_Row_cut_14 (fun w3 ew3 => ?_)
      have hM := fa_let_to hM ew3
      subst hM
      exact g_vret X d_Row_cut_17
theorem d_Row_drop_0 : decode prog_7_method_7_code 0 = .ok (.aload_n 0, 1) := by decide +kernel
theorem d_Row_drop_1 : decode prog_7_method_7_code 1 = .ok (.aload_n 0, 1) := by decide +kernel
theorem d_Row_drop_2 : decode prog_7_method_7_code 2 = .ok (.getfield 9, 3) := by decide +kernel
theorem d_Row_drop_5 : decode prog_7_method_7_code 5 = .ok (.iconst 1, 1) := by decide +kernel
theorem d_Row_drop_6 : decode prog_7_method_7_code 6 = .ok (.isub, 1) := by decide +kernel
theorem d_Row_drop_7 : decode prog_7_method_7_code 7 = .ok (.invokevirtual 25, 3) := by decide +kernel
theorem d_Row_drop_10 : decode prog_7_method_7_code 10 = .ok (.istore_n 1, 1) := by decide +kernel
theorem d_Row_drop_11 : decode prog_7_method_7_code 11 = .ok (.aload_n 0, 1) := by decide +kernel
theorem d_Row_drop_12 : decode prog_7_method_7_code 12 = .ok (.aload_n 0, 1) := by decide +kernel
theorem d_Row_drop_13 : decode prog_7_method_7_code 13 = .ok (.getfield 9, 3) := by decide +kernel
theorem d_Row_drop_16 : decode prog_7_method_7_code 16 = .ok (.iconst 1, 1) := by decide +kernel
theorem d_Row_drop_17 : decode prog_7_method_7_code 17 = .ok (.isub, 1) := by decide +kernel
theorem d_Row_drop_18 : decode prog_7_method_7_code 18 = .ok (.invokevirtual 29, 3) := by decide +kernel
theorem d_Row_drop_21 : decode prog_7_method_7_code 21 = .ok (.iload_n 1, 1) := by decide +kernel
theorem d_Row_drop_22 : decode prog_7_method_7_code 22 = .ok (.ireturn, 1) := by decide +kernel
def fm_Row_drop (o : Nat) (w : fa_W) : Option (Int × fa_W) :=
  (fm_Row_at o ((w o 1) - 1) w).bind fun v2 =>
  fa_let (fm_Row_cut o ((w o 1) - 1) w) fun w4 =>
  some (v2, w4)
set_option maxHeartbeats 4000000 in
set_option maxRecDepth 100000 in
theorem c_Row_drop {l : Launch} {D : va_G} {b : Nat} {aC : Nat → ClassId} {H0 : Heap} {N T : Nat}  (o : Nat) (hr : fa_RO o N T)  (w : fa_W) (r : Int × fa_W) (hM : fm_Row_drop o w = some r) : fa_MC l D b aC H0 N T y_Row_drop prog_7_method_7_code 2 ((Option.some Jvm.ClassFile.FieldType.int)) (1) [.ref (b + o)] w (some (.int (fa_I r.1))) r.2 := by
  refine fa_enter (lv := [(0, .ref (b + o))]) (by decide +kernel) (Nat.le_of_ble_eq_true rfl) rfl (fun hh hle hnm X => ?_)
  unfold fm_Row_drop at hM
  refine g_aload_n X 0 rfl d_Row_drop_0 ?_
  refine g_aload_n X 0 rfl d_Row_drop_1 ?_
  refine g_get X ck_6 hr.1 hr.2.1 1 (by decide) wd_44 rfl (fa_fvI rfl) d_Row_drop_2 ?_
  refine g_iconst X d_Row_drop_5 ?_
  refine g_isub X d_Row_drop_6 ?_
  obtain ⟨v2, e1, hM⟩ := fa_ob hM
  refine g_callV_i X ck_6 hr.1 hr.2.1 rfl mi_Row_at (c_Row_at o ((w o 1) - 1) hr w _ e1) wd_488 rfl (Nat.le_trans (Nat.le_of_ble_eq_true rfl) hle) (st := []) (Nat.le_of_ble_eq_true rfl) rfl d_Row_drop_7 ?_
  refine g_istorec_n X [(1, .int (fa_I v2)), (0, .ref (b + o))] d_Row_drop_10 (by decide) rfl ?_
  refine g_aload_n X 1 rfl d_Row_drop_11 ?_
  refine g_aload_n X 1 rfl d_Row_drop_12 ?_
  refine g_get X ck_6 hr.1 hr.2.1 1 (by decide) wd_44 rfl (fa_fvI rfl) d_Row_drop_13 ?_
  refine g_iconst X d_Row_drop_16 ?_
  refine g_isub X d_Row_drop_17 ?_
  obtain ⟨w4, e3⟩ : ∃ q, fm_Row_cut o ((w o 1) - 1) w = q := ⟨_, rfl⟩
  have hM := fa_let_to hM e3.symm
  refine g_callV_v X ck_6 hr.1 hr.2.1 rfl mi_Row_cut (c_Row_cut o ((w o 1) - 1) hr w _ e3) wd_489 rfl (Nat.le_trans (Nat.le_of_ble_eq_true rfl) hle) (st := []) (Nat.le_of_ble_eq_true rfl) rfl d_Row_drop_18 ?_
  refine g_iload_n X 0 rfl d_Row_drop_21 ?_
  cases hM
  exact g_iret X d_Row_drop_22
theorem d_Row_last_0 : decode prog_7_method_8_code 0 = .ok (.aload_n 0, 1) := by decide +kernel
theorem d_Row_last_1 : decode prog_7_method_8_code 1 = .ok (.aload_n 0, 1) := by decide +kernel
theorem d_Row_last_2 : decode prog_7_method_8_code 2 = .ok (.getfield 9, 3) := by decide +kernel
theorem d_Row_last_5 : decode prog_7_method_8_code 5 = .ok (.iconst 1, 1) := by decide +kernel
theorem d_Row_last_6 : decode prog_7_method_8_code 6 = .ok (.isub, 1) := by decide +kernel
theorem d_Row_last_7 : decode prog_7_method_8_code 7 = .ok (.invokevirtual 25, 3) := by decide +kernel
theorem d_Row_last_10 : decode prog_7_method_8_code 10 = .ok (.ireturn, 1) := by decide +kernel
def fm_Row_last (o : Nat) (w : fa_W) : Option Int :=
  (fm_Row_at o ((w o 1) - 1) w).bind fun v2 =>
  some v2
set_option maxHeartbeats 4000000 in
set_option maxRecDepth 100000 in
theorem c_Row_last {l : Launch} {D : va_G} {b : Nat} {aC : Nat → ClassId} {H0 : Heap} {N T : Nat}  (o : Nat) (hr : fa_RO o N T)  (w : fa_W) (r : Int) (hM : fm_Row_last o w = some r) : fa_MC l D b aC H0 N T y_Row_last prog_7_method_8_code 1 ((Option.some Jvm.ClassFile.FieldType.int)) (1) [.ref (b + o)] w (some (.int (fa_I r))) w := by
  refine fa_enter (lv := [(0, .ref (b + o))]) (by decide +kernel) (Nat.le_of_ble_eq_true rfl) rfl (fun hh hle hnm X => ?_)
  unfold fm_Row_last at hM
  refine g_aload_n X 0 rfl d_Row_last_0 ?_
  refine g_aload_n X 0 rfl d_Row_last_1 ?_
  refine g_get X ck_6 hr.1 hr.2.1 1 (by decide) wd_44 rfl (fa_fvI rfl) d_Row_last_2 ?_
  refine g_iconst X d_Row_last_5 ?_
  refine g_isub X d_Row_last_6 ?_
  obtain ⟨v2, e1, hM⟩ := fa_ob hM
  refine g_callV_i X ck_6 hr.1 hr.2.1 rfl mi_Row_at (c_Row_at o ((w o 1) - 1) hr w _ e1) wd_488 rfl (Nat.le_trans (Nat.le_of_ble_eq_true rfl) hle) (st := []) (Nat.le_of_ble_eq_true rfl) rfl d_Row_last_7 ?_
  cases hM
  exact g_iret X d_Row_last_10
theorem d_Row_clear_0 : decode prog_7_method_10_code 0 = .ok (.aload_n 0, 1) := by decide +kernel
theorem d_Row_clear_1 : decode prog_7_method_10_code 1 = .ok (.iconst 0, 1) := by decide +kernel
theorem d_Row_clear_2 : decode prog_7_method_10_code 2 = .ok (.putfield 9, 3) := by decide +kernel
theorem d_Row_clear_5 : decode prog_7_method_10_code 5 = .ok (.return_, 1) := by decide +kernel
def fm_Row_clear (o : Nat) (w : fa_W) : fa_W :=
  fa_let (fa_st w o 1 0) fun w1 =>
  w1
set_option maxHeartbeats 4000000 in
set_option maxRecDepth 100000 in
theorem c_Row_clear {l : Launch} {D : va_G} {b : Nat} {aC : Nat → ClassId} {H0 : Heap} {N T : Nat}  (o : Nat) (hr : fa_RO o N T)  (w : fa_W) (r : fa_W) (hM : fm_Row_clear o w = r) : fa_MC l D b aC H0 N T y_Row_clear prog_7_method_10_code 1 ((Option.none : Option Jvm.ClassFile.FieldType)) (0) [.ref (b + o)] w (none) r := by
  refine fa_enter (lv := [(0, .ref (b + o))]) (by decide +kernel) (Nat.le_of_ble_eq_true rfl) rfl (fun hh hle hnm X => ?_)
  unfold fm_Row_clear at hM
  refine g_aload_n X 0 rfl d_Row_clear_0 ?_
  refine g_iconst X d_Row_clear_1 ?_
  refine g_put X ck_6 hr.1 hr.2.1 1 (z := 0) (by decide) wd_44 rfl (fa_fvI' rfl) rfl rfl rfl d_Row_clear_2 (fun w1 ew1 => ?_)
  have hM := fa_let_to hM ew1
  subst hM
  exact g_vret X d_Row_clear_5
theorem d_Row_refill_0 : decode prog_7_method_11_code 0 = .ok (.aload_n 0, 1) := by decide +kernel
theorem d_Row_refill_1 : decode prog_7_method_11_code 1 = .ok (.invokevirtual 33, 3) := by decide +kernel
theorem d_Row_refill_4 : decode prog_7_method_11_code 4 = .ok (.iconst 0, 1) := by decide +kernel
theorem d_Row_refill_5 : decode prog_7_method_11_code 5 = .ok (.istore_n 3, 1) := by decide +kernel
theorem d_Row_refill_6 : decode prog_7_method_11_code 6 = .ok (.iload_n 3, 1) := by decide +kernel
theorem d_Row_refill_7 : decode prog_7_method_11_code 7 = .ok (.iload_n 1, 1) := by decide +kernel
theorem d_Row_refill_8 : decode prog_7_method_11_code 8 = .ok (.if_icmp .ge 14, 3) := by decide +kernel
theorem d_Row_refill_11 : decode prog_7_method_11_code 11 = .ok (.aload_n 0, 1) := by decide +kernel
theorem d_Row_refill_12 : decode prog_7_method_11_code 12 = .ok (.iload_n 2, 1) := by decide +kernel
theorem d_Row_refill_13 : decode prog_7_method_11_code 13 = .ok (.invokevirtual 36, 3) := by decide +kernel
theorem d_Row_refill_16 : decode prog_7_method_11_code 16 = .ok (.iinc 3 1, 3) := by decide +kernel
theorem d_Row_refill_19 : decode prog_7_method_11_code 19 = .ok (.goto (-13), 3) := by decide +kernel
theorem d_Row_refill_22 : decode prog_7_method_11_code 22 = .ok (.return_, 1) := by decide +kernel
def fm_Row_refill_l6 (o : Nat) (a1 : Int) (a2 : Int) : Nat → Int → fa_W → Option fa_W
  | 0, _, _ => none
  | n + 1, x3, w => if fa_wr a1 ≤ fa_wr x3 then
  some w
  else
  ((fm_Row_add o a2 w).bind fun w5 =>
  fa_let (x3 + 1) fun x3_6 =>
  fm_Row_refill_l6 o a1 a2 n x3_6 w5)
set_option maxHeartbeats 4000000 in
set_option maxRecDepth 100000 in
theorem c_Row_refill_l6 {p : Program} {l : Launch} {e : Env} {s : State} {m : MethodId} {args : Array Value} {below : List Frame} {meth : Method} {c : Code} {hh : Nat} {D : va_G} {b : Nat} {aC : Nat → ClassId} {H0 : Heap} {N T : Nat} (X : fa_GX p s m args meth c prog_7_method_11_code 4 ((Option.none : Option Jvm.ClassFile.FieldType)) y_Row_refill.cls D b aC) (hle : 1 ≤ hh) (o : Nat) (a1 : Int) (a2 : Int) (hr : fa_RO o N T) {r : fa_W}  : ∀ (n : Nat) (x3 : Int) (w : fa_W), fm_Row_refill_l6 o a1 a2 n x3 w = some r → fa_GJ p l e (fa_rm hh) s m args below meth c 0 0 (MQ below (fa_Qc D b aC H0 N T (none) r) args s 0 0 (fun q => b ≤ q)) D b aC H0 N T 4 w 6 [(0, .ref (b + o)), (1, .int (fa_I a1)), (2, .int (fa_I a2)), (3, .int (fa_I x3))] [] := by
  intro n
  induction n with
  | zero => intro x3 w hM; exact fa_no hM
  | succ n ih =>
    intro x3 w hM
    rw [fm_Row_refill_l6] at hM
    refine g_iload_n X 3 rfl d_Row_refill_6 ?_
    refine g_iload_n X 1 rfl d_Row_refill_7 ?_
    refine g_icmp_ge X 22 d_Row_refill_8 (by decide) (fun hc3 => ?_) (fun hc3 => ?_)
    · have hM := fa_if_t hM hc3
      cases hM
      exact g_vret X d_Row_refill_22
    · have hM := fa_if_f hM hc3
      refine g_aload_n X 0 rfl d_Row_refill_11 ?_
      refine g_iload_n X 2 rfl d_Row_refill_12 ?_
      obtain ⟨w5, e4, hM⟩ := fa_ob hM
      refine g_callV_v X ck_6 hr.1 hr.2.1 rfl mi_Row_add (c_Row_add o a2 hr w _ e4) wd_231 rfl (Nat.le_trans (Nat.le_of_ble_eq_true rfl) hle) (st := []) (Nat.le_of_ble_eq_true rfl) rfl d_Row_refill_13 ?_
      refine g_iinc X 3 (fun x3_6 => [(3, .int (fa_I x3_6)), (0, .ref (b + o)), (1, .int (fa_I a1)), (2, .int (fa_I a2))]) d_Row_refill_16 rfl (by decide) (fun _ => rfl) (fun x3_6 ex3_6 => ?_)
      have hM := fa_let_to hM ex3_6
      refine g_goto X 6 d_Row_refill_19 (by decide) ?_
      exact g_lv [1, 2, 3, 0] rfl (ih _ _ hM)
def fm_Row_refill (o : Nat) (a1 : Int) (a2 : Int) (w : fa_W) : Option fa_W :=
  fa_let (fm_Row_clear o w) fun w2 =>
  fm_Row_refill_l6 o a1 a2 fa_FU 0 w2
set_option maxHeartbeats 4000000 in
set_option maxRecDepth 100000 in
theorem c_Row_refill {l : Launch} {D : va_G} {b : Nat} {aC : Nat → ClassId} {H0 : Heap} {N T : Nat}  (o : Nat) (a1 : Int) (a2 : Int) (hr : fa_RO o N T)  (w : fa_W) (r : fa_W) (hM : fm_Row_refill o a1 a2 w = some r) : fa_MC l D b aC H0 N T y_Row_refill prog_7_method_11_code 4 ((Option.none : Option Jvm.ClassFile.FieldType)) (1) [.ref (b + o), .int (fa_I a1), .int (fa_I a2)] w (none) r := by
  refine fa_enter (lv := [(0, .ref (b + o)), (1, .int (fa_I a1)), (2, .int (fa_I a2))]) (by decide +kernel) (Nat.le_of_ble_eq_true rfl) rfl (fun hh hle hnm X => ?_)
  unfold fm_Row_refill at hM
  refine g_aload_n X 0 rfl d_Row_refill_0 ?_
  obtain ⟨w2, e1⟩ : ∃ q, fm_Row_clear o w = q := ⟨_, rfl⟩
  have hM := fa_let_to hM e1.symm
  refine g_callV_v X ck_6 hr.1 hr.2.1 rfl mi_Row_clear (c_Row_clear o hr w _ e1) wd_227 rfl (Nat.le_trans (Nat.le_of_ble_eq_true rfl) hle) (st := []) (Nat.le_of_ble_eq_true rfl) rfl d_Row_refill_1 ?_
  refine g_iconst X d_Row_refill_4 ?_
  refine g_istorec_n X [(3, .int (fa_I 0)), (0, .ref (b + o)), (1, .int (fa_I a1)), (2, .int (fa_I a2))] d_Row_refill_5 (by decide) rfl ?_
  exact g_lv [1, 2, 3, 0] rfl (c_Row_refill_l6 X hle o a1 a2 hr   fa_FU _ _ hM)
theorem d_Row_repeat_0 : decode prog_7_method_12_code 0 = .ok (.iload_n 3, 1) := by decide +kernel
theorem d_Row_repeat_1 : decode prog_7_method_12_code 1 = .ok (.ifCond .lt 57, 3) := by decide +kernel
theorem d_Row_repeat_4 : decode prog_7_method_12_code 4 = .ok (.iload_n 1, 1) := by decide +kernel
theorem d_Row_repeat_5 : decode prog_7_method_12_code 5 = .ok (.ifCond .lt 53, 3) := by decide +kernel
theorem d_Row_repeat_8 : decode prog_7_method_12_code 8 = .ok (.iload_n 2, 1) := by decide +kernel
theorem d_Row_repeat_9 : decode prog_7_method_12_code 9 = .ok (.ifCond .lt 49, 3) := by decide +kernel
theorem d_Row_repeat_12 : decode prog_7_method_12_code 12 = .ok (.iload_n 1, 1) := by decide +kernel
theorem d_Row_repeat_13 : decode prog_7_method_12_code 13 = .ok (.aload_n 0, 1) := by decide +kernel
theorem d_Row_repeat_14 : decode prog_7_method_12_code 14 = .ok (.getfield 9, 3) := by decide +kernel
theorem d_Row_repeat_17 : decode prog_7_method_12_code 17 = .ok (.iload_n 3, 1) := by decide +kernel
theorem d_Row_repeat_18 : decode prog_7_method_12_code 18 = .ok (.isub, 1) := by decide +kernel
theorem d_Row_repeat_19 : decode prog_7_method_12_code 19 = .ok (.if_icmp .gt 39, 3) := by decide +kernel
theorem d_Row_repeat_22 : decode prog_7_method_12_code 22 = .ok (.iload_n 2, 1) := by decide +kernel
theorem d_Row_repeat_23 : decode prog_7_method_12_code 23 = .ok (.aload_n 0, 1) := by decide +kernel
theorem d_Row_repeat_24 : decode prog_7_method_12_code 24 = .ok (.getfield 9, 3) := by decide +kernel
theorem d_Row_repeat_27 : decode prog_7_method_12_code 27 = .ok (.iload_n 3, 1) := by decide +kernel
theorem d_Row_repeat_28 : decode prog_7_method_12_code 28 = .ok (.isub, 1) := by decide +kernel
theorem d_Row_repeat_29 : decode prog_7_method_12_code 29 = .ok (.if_icmp .gt 29, 3) := by decide +kernel
theorem d_Row_repeat_32 : decode prog_7_method_12_code 32 = .ok (.aload_n 0, 1) := by decide +kernel
theorem d_Row_repeat_33 : decode prog_7_method_12_code 33 = .ok (.getfield 9, 3) := by decide +kernel
theorem d_Row_repeat_36 : decode prog_7_method_12_code 36 = .ok (.aload_n 0, 1) := by decide +kernel
theorem d_Row_repeat_37 : decode prog_7_method_12_code 37 = .ok (.getfield 21, 3) := by decide +kernel
theorem d_Row_repeat_40 : decode prog_7_method_12_code 40 = .ok (.arraylength, 1) := by decide +kernel
theorem d_Row_repeat_41 : decode prog_7_method_12_code 41 = .ok (.if_icmp .gt 17, 3) := by decide +kernel
theorem d_Row_repeat_44 : decode prog_7_method_12_code 44 = .ok (.aload_n 0, 1) := by decide +kernel
theorem d_Row_repeat_45 : decode prog_7_method_12_code 45 = .ok (.getfield 21, 3) := by decide +kernel
theorem d_Row_repeat_48 : decode prog_7_method_12_code 48 = .ok (.iload_n 1, 1) := by decide +kernel
theorem d_Row_repeat_49 : decode prog_7_method_12_code 49 = .ok (.aload_n 0, 1) := by decide +kernel
theorem d_Row_repeat_50 : decode prog_7_method_12_code 50 = .ok (.getfield 21, 3) := by decide +kernel
theorem d_Row_repeat_53 : decode prog_7_method_12_code 53 = .ok (.iload_n 2, 1) := by decide +kernel
theorem d_Row_repeat_54 : decode prog_7_method_12_code 54 = .ok (.iload_n 3, 1) := by decide +kernel
theorem d_Row_repeat_55 : decode prog_7_method_12_code 55 = .ok (.invokestatic 39, 3) := by decide +kernel
theorem d_Row_repeat_58 : decode prog_7_method_12_code 58 = .ok (.return_, 1) := by decide +kernel
def fm_Row_repeat (o : Nat) (a1 : Int) (a2 : Int) (a3 : Int) (w : fa_W) : Option fa_W :=
  if fa_wr a3 < 0 then
  some w
  else
  (if fa_wr a1 < 0 then
  some w
  else
  (if fa_wr a2 < 0 then
  some w
  else
  (if fa_wr ((w o 1) - a3) < fa_wr a1 then
  some w
  else
  (if fa_wr ((w o 1) - a3) < fa_wr a2 then
  some w
  else
  (if fa_wr (fa_cp o : Int) < fa_wr (w o 1) then
  some w
  else
  (if ¬ (0 ≤ fa_wr a1 ∧ 0 ≤ fa_wr a2 ∧ 0 ≤ fa_wr a3 ∧ fa_wr a1 + fa_wr a3 ≤ (fa_cp o) ∧ fa_wr a2 + fa_wr a3 ≤ (fa_cp o)) then none else
  fa_let (fa_cy w (fa_rf o 0) (fa_rf o 0) (fa_wr a1).toNat (fa_wr a2).toNat (fa_wr a3).toNat) fun w8 =>
  some w8))))))
set_option maxHeartbeats 4000000 in
set_option maxRecDepth 100000 in
theorem c_Row_repeat {l : Launch} {D : va_G} {b : Nat} {aC : Nat → ClassId} {H0 : Heap} {N T : Nat}  (o : Nat) (a1 : Int) (a2 : Int) (a3 : Int) (hr : fa_RO o N T)  (w : fa_W) (r : fa_W) (hM : fm_Row_repeat o a1 a2 a3 w = some r) : fa_MC l D b aC H0 N T y_Row_repeat prog_7_method_12_code 4 ((Option.none : Option Jvm.ClassFile.FieldType)) (1) [.ref (b + o), .int (fa_I a1), .int (fa_I a2), .int (fa_I a3)] w (none) r := by
  refine fa_enter (lv := [(0, .ref (b + o)), (1, .int (fa_I a1)), (2, .int (fa_I a2)), (3, .int (fa_I a3))]) (by decide +kernel) (Nat.le_of_ble_eq_true rfl) rfl (fun hh hle hnm X => ?_)
  unfold fm_Row_repeat at hM
  refine g_iload_n X 3 rfl d_Row_repeat_0 ?_
  refine g_if_lt X 58 d_Row_repeat_1 (by decide) (fun hc1 => ?_) (fun hc1 => ?_)
  · have hM := fa_if_t hM hc1
    cases hM
    exact g_vret X d_Row_repeat_58
  · have hM := fa_if_f hM hc1
    refine g_iload_n X 1 rfl d_Row_repeat_4 ?_
    refine g_if_lt X 58 d_Row_repeat_5 (by decide) (fun hc2 => ?_) (fun hc2 => ?_)
    · have hM := fa_if_t hM hc2
      cases hM
      exact g_vret X d_Row_repeat_58
    · have hM := fa_if_f hM hc2
      refine g_iload_n X 2 rfl d_Row_repeat_8 ?_
      refine g_if_lt X 58 d_Row_repeat_9 (by decide) (fun hc3 => ?_) (fun hc3 => ?_)
      · have hM := fa_if_t hM hc3
        cases hM
        exact g_vret X d_Row_repeat_58
      · have hM := fa_if_f hM hc3
        refine g_iload_n X 1 rfl d_Row_repeat_12 ?_
        refine g_aload_n X 0 rfl d_Row_repeat_13 ?_
        refine g_get X ck_6 hr.1 hr.2.1 1 (by decide) wd_44 rfl (fa_fvI rfl) d_Row_repeat_14 ?_
        refine g_iload_n X 3 rfl d_Row_repeat_17 ?_
        refine g_isub X d_Row_repeat_18 ?_
        refine g_icmp_gt X 58 d_Row_repeat_19 (by decide) (fun hc4 => ?_) (fun hc4 => ?_)
        · have hM := fa_if_t hM hc4
          cases hM
          exact g_vret X d_Row_repeat_58
        · have hM := fa_if_f hM hc4
          refine g_iload_n X 2 rfl d_Row_repeat_22 ?_
          refine g_aload_n X 0 rfl d_Row_repeat_23 ?_
          refine g_get X ck_6 hr.1 hr.2.1 1 (by decide) wd_44 rfl (fa_fvI rfl) d_Row_repeat_24 ?_
          refine g_iload_n X 3 rfl d_Row_repeat_27 ?_
          refine g_isub X d_Row_repeat_28 ?_
          refine g_icmp_gt X 58 d_Row_repeat_29 (by decide) (fun hc5 => ?_) (fun hc5 => ?_)
          · have hM := fa_if_t hM hc5
            cases hM
            exact g_vret X d_Row_repeat_58
          · have hM := fa_if_f hM hc5
            refine g_aload_n X 0 rfl d_Row_repeat_32 ?_
            refine g_get X ck_6 hr.1 hr.2.1 1 (by decide) wd_44 rfl (fa_fvI rfl) d_Row_repeat_33 ?_
            refine g_aload_n X 0 rfl d_Row_repeat_36 ?_
            refine g_get X ck_6 hr.1 hr.2.1 0 (by decide) wd_43 rfl (fa_fvR rfl hr.2.2.2.2) d_Row_repeat_37 ?_
            refine g_alen X (n := 0) (by rw [hr.2.2.1]) rfl hr.2.2.2.1 d_Row_repeat_40 ?_
            refine g_icmp_gt X 58 d_Row_repeat_41 (by decide) (fun hc6 => ?_) (fun hc6 => ?_)
            · have hM := fa_if_t hM hc6
              cases hM
              exact g_vret X d_Row_repeat_58
            · have hM := fa_if_f hM hc6
              refine g_aload_n X 0 rfl d_Row_repeat_44 ?_
              refine g_get X ck_6 hr.1 hr.2.1 0 (by decide) wd_43 rfl (fa_fvR rfl hr.2.2.2.2) d_Row_repeat_45 ?_
              refine g_iload_n X 1 rfl d_Row_repeat_48 ?_
              refine g_aload_n X 0 rfl d_Row_repeat_49 ?_
              refine g_get X ck_6 hr.1 hr.2.1 0 (by decide) wd_43 rfl (fa_fvR rfl hr.2.2.2.2) d_Row_repeat_50 ?_
              refine g_iload_n X 2 rfl d_Row_repeat_53 ?_
              refine g_iload_n X 3 rfl d_Row_repeat_54 ?_
              obtain ⟨hz7, hM⟩ := fa_nz hM
              refine g_acopy X (Nat.le_trans (Nat.le_of_ble_eq_true rfl) hle) hr.2.2.1 hr.2.2.2.1 hr.2.2.1 hr.2.2.2.1 hz7 wd_1402 (Nat.le_of_ble_eq_true rfl) d_Row_repeat_55 (fun w8 ew8 => ?_)
              have hM := fa_let_to hM ew8
              cases hM
              exact g_vret X d_Row_repeat_58
theorem d_Row_placeOf_0 : decode prog_7_method_13_code 0 = .ok (.iconst 0, 1) := by decide +kernel
theorem d_Row_placeOf_1 : decode prog_7_method_13_code 1 = .ok (.istore_n 2, 1) := by decide +kernel
theorem d_Row_placeOf_2 : decode prog_7_method_13_code 2 = .ok (.iload_n 2, 1) := by decide +kernel
theorem d_Row_placeOf_3 : decode prog_7_method_13_code 3 = .ok (.aload_n 0, 1) := by decide +kernel
theorem d_Row_placeOf_4 : decode prog_7_method_13_code 4 = .ok (.getfield 9, 3) := by decide +kernel
theorem d_Row_placeOf_7 : decode prog_7_method_13_code 7 = .ok (.if_icmp .ge 30, 3) := by decide +kernel
theorem d_Row_placeOf_10 : decode prog_7_method_13_code 10 = .ok (.iload_n 2, 1) := by decide +kernel
theorem d_Row_placeOf_11 : decode prog_7_method_13_code 11 = .ok (.aload_n 0, 1) := by decide +kernel
theorem d_Row_placeOf_12 : decode prog_7_method_13_code 12 = .ok (.getfield 21, 3) := by decide +kernel
theorem d_Row_placeOf_15 : decode prog_7_method_13_code 15 = .ok (.arraylength, 1) := by decide +kernel
theorem d_Row_placeOf_16 : decode prog_7_method_13_code 16 = .ok (.if_icmp .ge 21, 3) := by decide +kernel
theorem d_Row_placeOf_19 : decode prog_7_method_13_code 19 = .ok (.aload_n 0, 1) := by decide +kernel
theorem d_Row_placeOf_20 : decode prog_7_method_13_code 20 = .ok (.getfield 21, 3) := by decide +kernel
theorem d_Row_placeOf_23 : decode prog_7_method_13_code 23 = .ok (.iload_n 2, 1) := by decide +kernel
theorem d_Row_placeOf_24 : decode prog_7_method_13_code 24 = .ok (.iaload, 1) := by decide +kernel
theorem d_Row_placeOf_25 : decode prog_7_method_13_code 25 = .ok (.iload_n 1, 1) := by decide +kernel
theorem d_Row_placeOf_26 : decode prog_7_method_13_code 26 = .ok (.if_icmp .ne 5, 3) := by decide +kernel
theorem d_Row_placeOf_29 : decode prog_7_method_13_code 29 = .ok (.iload_n 2, 1) := by decide +kernel
theorem d_Row_placeOf_30 : decode prog_7_method_13_code 30 = .ok (.ireturn, 1) := by decide +kernel
theorem d_Row_placeOf_31 : decode prog_7_method_13_code 31 = .ok (.iinc 2 1, 3) := by decide +kernel
theorem d_Row_placeOf_34 : decode prog_7_method_13_code 34 = .ok (.goto (-32), 3) := by decide +kernel
theorem d_Row_placeOf_37 : decode prog_7_method_13_code 37 = .ok (.iconst (-1), 1) := by decide +kernel
theorem d_Row_placeOf_38 : decode prog_7_method_13_code 38 = .ok (.ireturn, 1) := by decide +kernel
def fm_Row_placeOf_l2 (o : Nat) (a1 : Int) (w : fa_W) : Nat → Int → Option Int
  | 0, _ => none
  | n + 1, x2 => if fa_wr (w o 1) ≤ fa_wr x2 then
  some (-1)
  else
  (if fa_wr (fa_cp o : Int) ≤ fa_wr x2 then
  some (-1)
  else
  ((fa_ix x2 (fa_cp o)).bind fun j3 =>
  if fa_wr (w (fa_rf o 0) j3) = fa_wr a1 then
  some x2
  else
  (fa_let (x2 + 1) fun x2_5 =>
  fm_Row_placeOf_l2 o a1 w n x2_5)))
set_option maxHeartbeats 4000000 in
set_option maxRecDepth 100000 in
theorem c_Row_placeOf_l2 {p : Program} {l : Launch} {e : Env} {s : State} {m : MethodId} {args : Array Value} {below : List Frame} {meth : Method} {c : Code} {hh : Nat} {D : va_G} {b : Nat} {aC : Nat → ClassId} {H0 : Heap} {N T : Nat} (X : fa_GX p s m args meth c prog_7_method_13_code 3 ((Option.some Jvm.ClassFile.FieldType.int)) y_Row_placeOf.cls D b aC) (hle : 0 ≤ hh) (o : Nat) (a1 : Int) (hr : fa_RO o N T) {r : Int} (w : fa_W) : ∀ (n : Nat) (x2 : Int), fm_Row_placeOf_l2 o a1 w n x2 = some r → fa_GJ p l e (fa_rm hh) s m args below meth c 0 0 (MQ below (fa_Qc D b aC H0 N T (some (.int (fa_I r))) w) args s 0 0 (fun q => b ≤ q)) D b aC H0 N T 3 w 2 [(0, .ref (b + o)), (1, .int (fa_I a1)), (2, .int (fa_I x2))] [] := by
  intro n
  induction n with
  | zero => intro x2 hM; exact fa_no hM
  | succ n ih =>
    intro x2 hM
    rw [fm_Row_placeOf_l2] at hM
    refine g_iload_n X 2 rfl d_Row_placeOf_2 ?_
    refine g_aload_n X 0 rfl d_Row_placeOf_3 ?_
    refine g_get X ck_6 hr.1 hr.2.1 1 (by decide) wd_44 rfl (fa_fvI rfl) d_Row_placeOf_4 ?_
    refine g_icmp_ge X 37 d_Row_placeOf_7 (by decide) (fun hc1 => ?_) (fun hc1 => ?_)
    · have hM := fa_if_t hM hc1
      refine g_iconst X d_Row_placeOf_37 ?_
      cases hM
      exact g_iret X d_Row_placeOf_38
    · have hM := fa_if_f hM hc1
      refine g_iload_n X 2 rfl d_Row_placeOf_10 ?_
      refine g_aload_n X 0 rfl d_Row_placeOf_11 ?_
      refine g_get X ck_6 hr.1 hr.2.1 0 (by decide) wd_43 rfl (fa_fvR rfl hr.2.2.2.2) d_Row_placeOf_12 ?_
      refine g_alen X (n := 0) (by rw [hr.2.2.1]) rfl hr.2.2.2.1 d_Row_placeOf_15 ?_
      refine g_icmp_ge X 37 d_Row_placeOf_16 (by decide) (fun hc2 => ?_) (fun hc2 => ?_)
      · have hM := fa_if_t hM hc2
        refine g_iconst X d_Row_placeOf_37 ?_
        cases hM
        exact g_iret X d_Row_placeOf_38
      · have hM := fa_if_f hM hc2
        refine g_aload_n X 0 rfl d_Row_placeOf_19 ?_
        refine g_get X ck_6 hr.1 hr.2.1 0 (by decide) wd_43 rfl (fa_fvR rfl hr.2.2.2.2) d_Row_placeOf_20 ?_
        refine g_iload_n X 2 rfl d_Row_placeOf_23 ?_
        obtain ⟨j3, ej3, hM⟩ := fa_ob hM
        refine g_iald X hr.2.2.1 hr.2.2.2.1 ej3 d_Row_placeOf_24 ?_
        refine g_iload_n X 1 rfl d_Row_placeOf_25 ?_
        refine g_icmp_ne X 31 d_Row_placeOf_26 (by decide) (fun hc4 => ?_) (fun hc4 => ?_)
        · have hM := fa_if_f hM hc4
          refine g_iinc X 2 (fun x2_5 => [(2, .int (fa_I x2_5)), (0, .ref (b + o)), (1, .int (fa_I a1))]) d_Row_placeOf_31 rfl (by decide) (fun _ => rfl) (fun x2_5 ex2_5 => ?_)
          have hM := fa_let_to hM ex2_5
          refine g_goto X 2 d_Row_placeOf_34 (by decide) ?_
          exact g_lv [1, 2, 0] rfl (ih _ hM)
        · have hM := fa_if_t hM hc4
          refine g_iload_n X 2 rfl d_Row_placeOf_29 ?_
          cases hM
          exact g_iret X d_Row_placeOf_30
def fm_Row_placeOf (o : Nat) (a1 : Int) (w : fa_W) : Option Int :=
  fm_Row_placeOf_l2 o a1 w fa_FU 0
set_option maxHeartbeats 4000000 in
set_option maxRecDepth 100000 in
theorem c_Row_placeOf {l : Launch} {D : va_G} {b : Nat} {aC : Nat → ClassId} {H0 : Heap} {N T : Nat}  (o : Nat) (a1 : Int) (hr : fa_RO o N T)  (w : fa_W) (r : Int) (hM : fm_Row_placeOf o a1 w = some r) : fa_MC l D b aC H0 N T y_Row_placeOf prog_7_method_13_code 3 ((Option.some Jvm.ClassFile.FieldType.int)) (0) [.ref (b + o), .int (fa_I a1)] w (some (.int (fa_I r))) w := by
  refine fa_enter (lv := [(0, .ref (b + o)), (1, .int (fa_I a1))]) (by decide +kernel) (Nat.le_of_ble_eq_true rfl) rfl (fun hh hle hnm X => ?_)
  unfold fm_Row_placeOf at hM
  refine g_iconst X d_Row_placeOf_0 ?_
  refine g_istorec_n X [(2, .int (fa_I 0)), (0, .ref (b + o)), (1, .int (fa_I a1))] d_Row_placeOf_1 (by decide) rfl ?_
  exact g_lv [1, 2, 0] rfl (c_Row_placeOf_l2 X hle o a1 hr w  fa_FU _ hM)
