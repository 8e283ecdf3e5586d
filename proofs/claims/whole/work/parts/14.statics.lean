theorem d_Face_oneIf_0 : decode prog_1_method_33_code 0 = .ok (.iload_n 0, 1) := by decide +kernel
theorem d_Face_oneIf_1 : decode prog_1_method_33_code 1 = .ok (.ifCond .eq 7, 3) := by decide +kernel
theorem d_Face_oneIf_4 : decode prog_1_method_33_code 4 = .ok (.iconst 1, 1) := by decide +kernel
theorem d_Face_oneIf_5 : decode prog_1_method_33_code 5 = .ok (.goto 4, 3) := by decide +kernel
theorem d_Face_oneIf_8 : decode prog_1_method_33_code 8 = .ok (.iconst 0, 1) := by decide +kernel
theorem d_Face_oneIf_9 : decode prog_1_method_33_code 9 = .ok (.ireturn, 1) := by decide +kernel
def fm_Face_oneIf (a1 : Bool) (w : fa_W) : Int :=
  if a1 = true then
  1
  else
  0
set_option maxHeartbeats 4000000 in
set_option maxRecDepth 100000 in
theorem c_Face_oneIf {l : Launch} {D : va_G} {b : Nat} {aC : Nat → ClassId} {H0 : Heap} {N T : Nat} (hN : fa_NX ≤ N) (hT : fa_TX ≤ T) (a1 : Bool)  (w : fa_W) (r : Int) (hM : fm_Face_oneIf a1 w = r) : fa_MC l D b aC H0 N T y_Face_oneIf prog_1_method_33_code 1 ((Option.some Jvm.ClassFile.FieldType.int)) (0) [.int (fa_I (fa_bi a1))] w (some (.int (fa_I r))) w := by
  refine fa_enter (lv := [(0, .int (fa_I (fa_bi a1)))]) (by decide +kernel) (Nat.le_of_ble_eq_true rfl) rfl (fun hh hle hnm X => ?_)
  unfold fm_Face_oneIf at hM
  refine g_iload_n X 0 rfl d_Face_oneIf_0 ?_
  refine g_ifb_eq X 8 d_Face_oneIf_1 (by decide) (fun hc1 => ?_) (fun hc1 => ?_)
  · have hM := fa_ifb_f hM hc1
    refine g_iconst X d_Face_oneIf_8 ?_
    subst hM
    exact g_iret X d_Face_oneIf_9
  · have hM := fa_ifb_t hM hc1
    refine g_iconst X d_Face_oneIf_4 ?_
    refine g_goto X 9 d_Face_oneIf_5 (by decide) ?_
    subst hM
    exact g_iret X d_Face_oneIf_9
theorem d_Face_bit_0 : decode prog_1_method_34_code 0 = .ok (.iload_n 0, 1) := by decide +kernel
theorem d_Face_bit_1 : decode prog_1_method_34_code 1 = .ok (.ifCond .lt 15, 3) := by decide +kernel
theorem d_Face_bit_4 : decode prog_1_method_34_code 4 = .ok (.iload_n 0, 1) := by decide +kernel
theorem d_Face_bit_5 : decode prog_1_method_34_code 5 = .ok (.bipush 24, 2) := by decide +kernel
theorem d_Face_bit_7 : decode prog_1_method_34_code 7 = .ok (.if_icmp .ge 9, 3) := by decide +kernel
theorem d_Face_bit_10 : decode prog_1_method_34_code 10 = .ok (.iconst 1, 1) := by decide +kernel
theorem d_Face_bit_11 : decode prog_1_method_34_code 11 = .ok (.iload_n 0, 1) := by decide +kernel
theorem d_Face_bit_12 : decode prog_1_method_34_code 12 = .ok (.ishl, 1) := by decide +kernel
theorem d_Face_bit_13 : decode prog_1_method_34_code 13 = .ok (.goto 4, 3) := by decide +kernel
theorem d_Face_bit_16 : decode prog_1_method_34_code 16 = .ok (.iconst 0, 1) := by decide +kernel
theorem d_Face_bit_17 : decode prog_1_method_34_code 17 = .ok (.ireturn, 1) := by decide +kernel
def fm_Face_bit (a1 : Int) (w : fa_W) : Int :=
  if fa_wr a1 < 0 then
  0
  else
  (if 24 ≤ fa_wr a1 then
  0
  else
  fa_ishl 1 a1)
set_option maxHeartbeats 4000000 in
set_option maxRecDepth 100000 in
theorem c_Face_bit {l : Launch} {D : va_G} {b : Nat} {aC : Nat → ClassId} {H0 : Heap} {N T : Nat} (hN : fa_NX ≤ N) (hT : fa_TX ≤ T) (a1 : Int)  (w : fa_W) (r : Int) (hM : fm_Face_bit a1 w = r) : fa_MC l D b aC H0 N T y_Face_bit prog_1_method_34_code 1 ((Option.some Jvm.ClassFile.FieldType.int)) (0) [.int (fa_I a1)] w (some (.int (fa_I r))) w := by
  refine fa_enter (lv := [(0, .int (fa_I a1))]) (by decide +kernel) (Nat.le_of_ble_eq_true rfl) rfl (fun hh hle hnm X => ?_)
  unfold fm_Face_bit at hM
  refine g_iload_n X 0 rfl d_Face_bit_0 ?_
  refine g_if_lt X 16 d_Face_bit_1 (by decide) (fun hc1 => ?_) (fun hc1 => ?_)
  · have hM := fa_if_t hM hc1
    refine g_iconst X d_Face_bit_16 ?_
    subst hM
    exact g_iret X d_Face_bit_17
  · have hM := fa_if_f hM hc1
    refine g_iload_n X 0 rfl d_Face_bit_4 ?_
    refine g_bipush X (by decide) d_Face_bit_5 ?_
    refine g_icmp_ge X 16 d_Face_bit_7 (by decide) (fun hc2 => ?_) (fun hc2 => ?_)
    · have hM := fa_if_t hM hc2
      refine g_iconst X d_Face_bit_16 ?_
      subst hM
      exact g_iret X d_Face_bit_17
    · have hM := fa_if_f hM hc2
      refine g_iconst X d_Face_bit_10 ?_
      refine g_iload_n X 0 rfl d_Face_bit_11 ?_
      refine g_ishl X d_Face_bit_12 ?_
      refine g_goto X 17 d_Face_bit_13 (by decide) ?_
      subst hM
      exact g_iret X d_Face_bit_17
theorem d_Face_hasBit_0 : decode prog_1_method_35_code 0 = .ok (.iload_n 1, 1) := by decide +kernel
theorem d_Face_hasBit_1 : decode prog_1_method_35_code 1 = .ok (.ifCond .lt 21, 3) := by decide +kernel
theorem d_Face_hasBit_4 : decode prog_1_method_35_code 4 = .ok (.iload_n 1, 1) := by decide +kernel
theorem d_Face_hasBit_5 : decode prog_1_method_35_code 5 = .ok (.bipush 24, 2) := by decide +kernel
theorem d_Face_hasBit_7 : decode prog_1_method_35_code 7 = .ok (.if_icmp .ge 15, 3) := by decide +kernel
theorem d_Face_hasBit_10 : decode prog_1_method_35_code 10 = .ok (.iload_n 0, 1) := by decide +kernel
theorem d_Face_hasBit_11 : decode prog_1_method_35_code 11 = .ok (.iload_n 1, 1) := by decide +kernel
theorem d_Face_hasBit_12 : decode prog_1_method_35_code 12 = .ok (.iushr, 1) := by decide +kernel
theorem d_Face_hasBit_13 : decode prog_1_method_35_code 13 = .ok (.iconst 1, 1) := by decide +kernel
theorem d_Face_hasBit_14 : decode prog_1_method_35_code 14 = .ok (.iand, 1) := by decide +kernel
theorem d_Face_hasBit_15 : decode prog_1_method_35_code 15 = .ok (.ifCond .eq 7, 3) := by decide +kernel
theorem d_Face_hasBit_18 : decode prog_1_method_35_code 18 = .ok (.iconst 1, 1) := by decide +kernel
theorem d_Face_hasBit_19 : decode prog_1_method_35_code 19 = .ok (.goto 4, 3) := by decide +kernel
theorem d_Face_hasBit_22 : decode prog_1_method_35_code 22 = .ok (.iconst 0, 1) := by decide +kernel
theorem d_Face_hasBit_23 : decode prog_1_method_35_code 23 = .ok (.ireturn, 1) := by decide +kernel
def fm_Face_hasBit (a1 : Int) (a2 : Int) (w : fa_W) : Bool :=
  if fa_wr a2 < 0 then
  false
  else
  (if 24 ≤ fa_wr a2 then
  false
  else
  (if fa_wr (fa_iand (fa_iushr a1 a2) 1) = 0 then
  false
  else
  true))
set_option maxHeartbeats 4000000 in
set_option maxRecDepth 100000 in
theorem c_Face_hasBit {l : Launch} {D : va_G} {b : Nat} {aC : Nat → ClassId} {H0 : Heap} {N T : Nat} (hN : fa_NX ≤ N) (hT : fa_TX ≤ T) (a1 : Int) (a2 : Int)  (w : fa_W) (r : Bool) (hM : fm_Face_hasBit a1 a2 w = r) : fa_MC l D b aC H0 N T y_Face_hasBit prog_1_method_35_code 2 ((Option.some Jvm.ClassFile.FieldType.boolean)) (0) [.int (fa_I a1), .int (fa_I a2)] w (some (.int (fa_I (fa_bi r)))) w := by
  refine fa_enter (lv := [(0, .int (fa_I a1)), (1, .int (fa_I a2))]) (by decide +kernel) (Nat.le_of_ble_eq_true rfl) rfl (fun hh hle hnm X => ?_)
  unfold fm_Face_hasBit at hM
  refine g_iload_n X 1 rfl d_Face_hasBit_0 ?_
  refine g_if_lt X 22 d_Face_hasBit_1 (by decide) (fun hc1 => ?_) (fun hc1 => ?_)
  · have hM := fa_if_t hM hc1
    refine g_iconst X d_Face_hasBit_22 ?_
    subst hM
    exact g_zret X rfl d_Face_hasBit_23
  · have hM := fa_if_f hM hc1
    refine g_iload_n X 1 rfl d_Face_hasBit_4 ?_
    refine g_bipush X (by decide) d_Face_hasBit_5 ?_
    refine g_icmp_ge X 22 d_Face_hasBit_7 (by decide) (fun hc2 => ?_) (fun hc2 => ?_)
    · have hM := fa_if_t hM hc2
      refine g_iconst X d_Face_hasBit_22 ?_
      subst hM
      exact g_zret X rfl d_Face_hasBit_23
    · have hM := fa_if_f hM hc2
      refine g_iload_n X 0 rfl d_Face_hasBit_10 ?_
      refine g_iload_n X 1 rfl d_Face_hasBit_11 ?_
      refine g_iushr X d_Face_hasBit_12 ?_
      refine g_iconst X d_Face_hasBit_13 ?_
      refine g_iand X d_Face_hasBit_14 ?_
      refine g_if_eq X 22 d_Face_hasBit_15 (by decide) (fun hc3 => ?_) (fun hc3 => ?_)
      · have hM := fa_if_t hM hc3
        refine g_iconst X d_Face_hasBit_22 ?_
        subst hM
        exact g_zret X rfl d_Face_hasBit_23
      · have hM := fa_if_f hM hc3
        refine g_iconst X d_Face_hasBit_18 ?_
        refine g_goto X 23 d_Face_hasBit_19 (by decide) ?_
        subst hM
        exact g_zret X rfl d_Face_hasBit_23
theorem d_Face_lowest_0 : decode prog_1_method_36_code 0 = .ok (.iload_n 0, 1) := by decide +kernel
theorem d_Face_lowest_1 : decode prog_1_method_36_code 1 = .ok (.ifCond .ne 7, 3) := by decide +kernel
theorem d_Face_lowest_4 : decode prog_1_method_36_code 4 = .ok (.iconst (-1), 1) := by decide +kernel
theorem d_Face_lowest_5 : decode prog_1_method_36_code 5 = .ok (.goto 7, 3) := by decide +kernel
theorem d_Face_lowest_8 : decode prog_1_method_36_code 8 = .ok (.iload_n 0, 1) := by decide +kernel
theorem d_Face_lowest_9 : decode prog_1_method_36_code 9 = .ok (.invokestatic 355, 3) := by decide +kernel
theorem d_Face_lowest_12 : decode prog_1_method_36_code 12 = .ok (.ireturn, 1) := by decide +kernel
def fm_Face_lowest (a1 : Int) (w : fa_W) : Int :=
  if fa_wr a1 = 0 then
  (-1)
  else
  fm_Integer_numberOfTrailingZeros a1 w
set_option maxHeartbeats 4000000 in
set_option maxRecDepth 100000 in
theorem c_Face_lowest {l : Launch} {D : va_G} {b : Nat} {aC : Nat → ClassId} {H0 : Heap} {N T : Nat} (hN : fa_NX ≤ N) (hT : fa_TX ≤ T) (a1 : Int)  (w : fa_W) (r : Int) (hM : fm_Face_lowest a1 w = r) : fa_MC l D b aC H0 N T y_Face_lowest prog_1_method_36_code 1 ((Option.some Jvm.ClassFile.FieldType.int)) (1) [.int (fa_I a1)] w (some (.int (fa_I r))) w := by
  refine fa_enter (lv := [(0, .int (fa_I a1))]) (by decide +kernel) (Nat.le_of_ble_eq_true rfl) rfl (fun hh hle hnm X => ?_)
  unfold fm_Face_lowest at hM
  refine g_iload_n X 0 rfl d_Face_lowest_0 ?_
  refine g_if_ne X 8 d_Face_lowest_1 (by decide) (fun hc1 => ?_) (fun hc1 => ?_)
  · have hM := fa_if_f hM hc1
    refine g_iload_n X 0 rfl d_Face_lowest_8 ?_
    refine g_callS_i X mi_Integer_numberOfTrailingZeros (c_Integer_numberOfTrailingZeros a1 w _ rfl) wd_603 rfl (Nat.le_trans (Nat.le_of_ble_eq_true rfl) hle) (st := []) (Nat.le_of_ble_eq_true rfl) rfl d_Face_lowest_9 ?_
    subst hM
    exact g_iret X d_Face_lowest_12
  · have hM := fa_if_t hM hc1
    refine g_iconst X d_Face_lowest_4 ?_
    refine g_goto X 12 d_Face_lowest_5 (by decide) ?_
    subst hM
    exact g_iret X d_Face_lowest_12
