theorem d_Integer_bitCount_0 : decode prog_20_method_49_code 0 = .ok (.iload_n 0, 1) := by decide +kernel
theorem d_Integer_bitCount_1 : decode prog_20_method_49_code 1 = .ok (.iload_n 0, 1) := by decide +kernel
theorem d_Integer_bitCount_2 : decode prog_20_method_49_code 2 = .ok (.iconst 1, 1) := by decide +kernel
theorem d_Integer_bitCount_3 : decode prog_20_method_49_code 3 = .ok (.iushr, 1) := by decide +kernel
theorem d_Integer_bitCount_4 : decode prog_20_method_49_code 4 = .ok (.ldc_w 265, 3) := by decide +kernel
theorem d_Integer_bitCount_7 : decode prog_20_method_49_code 7 = .ok (.iand, 1) := by decide +kernel
theorem d_Integer_bitCount_8 : decode prog_20_method_49_code 8 = .ok (.isub, 1) := by decide +kernel
theorem d_Integer_bitCount_9 : decode prog_20_method_49_code 9 = .ok (.istore_n 0, 1) := by decide +kernel
theorem d_Integer_bitCount_10 : decode prog_20_method_49_code 10 = .ok (.iload_n 0, 1) := by decide +kernel
theorem d_Integer_bitCount_11 : decode prog_20_method_49_code 11 = .ok (.ldc_w 266, 3) := by decide +kernel
theorem d_Integer_bitCount_14 : decode prog_20_method_49_code 14 = .ok (.iand, 1) := by decide +kernel
theorem d_Integer_bitCount_15 : decode prog_20_method_49_code 15 = .ok (.iload_n 0, 1) := by decide +kernel
theorem d_Integer_bitCount_16 : decode prog_20_method_49_code 16 = .ok (.iconst 2, 1) := by decide +kernel
theorem d_Integer_bitCount_17 : decode prog_20_method_49_code 17 = .ok (.iushr, 1) := by decide +kernel
theorem d_Integer_bitCount_18 : decode prog_20_method_49_code 18 = .ok (.ldc_w 266, 3) := by decide +kernel
theorem d_Integer_bitCount_21 : decode prog_20_method_49_code 21 = .ok (.iand, 1) := by decide +kernel
theorem d_Integer_bitCount_22 : decode prog_20_method_49_code 22 = .ok (.iadd, 1) := by decide +kernel
theorem d_Integer_bitCount_23 : decode prog_20_method_49_code 23 = .ok (.istore_n 0, 1) := by decide +kernel
theorem d_Integer_bitCount_24 : decode prog_20_method_49_code 24 = .ok (.iload_n 0, 1) := by decide +kernel
theorem d_Integer_bitCount_25 : decode prog_20_method_49_code 25 = .ok (.iload_n 0, 1) := by decide +kernel
theorem d_Integer_bitCount_26 : decode prog_20_method_49_code 26 = .ok (.iconst 4, 1) := by decide +kernel
theorem d_Integer_bitCount_27 : decode prog_20_method_49_code 27 = .ok (.iushr, 1) := by decide +kernel
theorem d_Integer_bitCount_28 : decode prog_20_method_49_code 28 = .ok (.iadd, 1) := by decide +kernel
theorem d_Integer_bitCount_29 : decode prog_20_method_49_code 29 = .ok (.ldc_w 267, 3) := by decide +kernel
theorem d_Integer_bitCount_32 : decode prog_20_method_49_code 32 = .ok (.iand, 1) := by decide +kernel
theorem d_Integer_bitCount_33 : decode prog_20_method_49_code 33 = .ok (.istore_n 0, 1) := by decide +kernel
theorem d_Integer_bitCount_34 : decode prog_20_method_49_code 34 = .ok (.iload_n 0, 1) := by decide +kernel
theorem d_Integer_bitCount_35 : decode prog_20_method_49_code 35 = .ok (.iload_n 0, 1) := by decide +kernel
theorem d_Integer_bitCount_36 : decode prog_20_method_49_code 36 = .ok (.bipush 8, 2) := by decide +kernel
theorem d_Integer_bitCount_38 : decode prog_20_method_49_code 38 = .ok (.iushr, 1) := by decide +kernel
theorem d_Integer_bitCount_39 : decode prog_20_method_49_code 39 = .ok (.iadd, 1) := by decide +kernel
theorem d_Integer_bitCount_40 : decode prog_20_method_49_code 40 = .ok (.istore_n 0, 1) := by decide +kernel
theorem d_Integer_bitCount_41 : decode prog_20_method_49_code 41 = .ok (.iload_n 0, 1) := by decide +kernel
theorem d_Integer_bitCount_42 : decode prog_20_method_49_code 42 = .ok (.iload_n 0, 1) := by decide +kernel
theorem d_Integer_bitCount_43 : decode prog_20_method_49_code 43 = .ok (.bipush 16, 2) := by decide +kernel
theorem d_Integer_bitCount_45 : decode prog_20_method_49_code 45 = .ok (.iushr, 1) := by decide +kernel
theorem d_Integer_bitCount_46 : decode prog_20_method_49_code 46 = .ok (.iadd, 1) := by decide +kernel
theorem d_Integer_bitCount_47 : decode prog_20_method_49_code 47 = .ok (.istore_n 0, 1) := by decide +kernel
theorem d_Integer_bitCount_48 : decode prog_20_method_49_code 48 = .ok (.iload_n 0, 1) := by decide +kernel
theorem d_Integer_bitCount_49 : decode prog_20_method_49_code 49 = .ok (.bipush 63, 2) := by decide +kernel
theorem d_Integer_bitCount_51 : decode prog_20_method_49_code 51 = .ok (.iand, 1) := by decide +kernel
theorem d_Integer_bitCount_52 : decode prog_20_method_49_code 52 = .ok (.ireturn, 1) := by decide +kernel
def fm_Integer_bitCount (a1 : Int) (w : fa_W) : Int :=
  fa_let (a1 - (fa_iand (fa_iushr a1 1) 1431655765)) fun x0_1 =>
  fa_let ((fa_iand x0_1 858993459) + (fa_iand (fa_iushr x0_1 2) 858993459)) fun x0_2 =>
  fa_let (fa_iand (x0_2 + (fa_iushr x0_2 4)) 252645135) fun x0_3 =>
  fa_let (x0_3 + (fa_iushr x0_3 8)) fun x0_4 =>
  fa_let (x0_4 + (fa_iushr x0_4 16)) fun x0_5 =>
  fa_iand x0_5 63
set_option maxHeartbeats 4000000 in
set_option maxRecDepth 100000 in
theorem c_Integer_bitCount {l : Launch} {D : va_G} {b : Nat} {aC : Nat → ClassId} {H0 : Heap} {N T : Nat}  (a1 : Int)  (w : fa_W) (r : Int) (hM : fm_Integer_bitCount a1 w = r) : fa_MC l D b aC H0 N T y_Integer_bitCount prog_20_method_49_code 1 ((Option.some Jvm.ClassFile.FieldType.int)) (0) [.int (fa_I a1)] w (some (.int (fa_I r))) w := by
  refine fa_enter (lv := [(0, .int (fa_I a1))]) (by decide +kernel) (Nat.le_of_ble_eq_true rfl) rfl (fun hh hle hnm X => ?_)
  unfold fm_Integer_bitCount at hM
  refine g_iload_n X 0 rfl d_Integer_bitCount_0 ?_
  refine g_iload_n X 0 rfl d_Integer_bitCount_1 ?_
  refine g_iconst X d_Integer_bitCount_2 ?_
  refine g_iushr X d_Integer_bitCount_3 ?_
  refine g_ldc_w X (n := 1431655765) wd_937 (by decide) d_Integer_bitCount_4 ?_
  refine g_iand X d_Integer_bitCount_7 ?_
  refine g_isub X d_Integer_bitCount_8 ?_
  refine g_istore_n X (fun x0_1 => [(0, .int (fa_I x0_1))]) d_Integer_bitCount_9 (by decide) (fun _ => rfl) (fun x0_1 ex0_1 => ?_)
  have hM := fa_let_to hM ex0_1
  refine g_iload_n X 0 rfl d_Integer_bitCount_10 ?_
  refine g_ldc_w X (n := 858993459) wd_938 (by decide) d_Integer_bitCount_11 ?_
  refine g_iand X d_Integer_bitCount_14 ?_
  refine g_iload_n X 0 rfl d_Integer_bitCount_15 ?_
  refine g_iconst X d_Integer_bitCount_16 ?_
  refine g_iushr X d_Integer_bitCount_17 ?_
  refine g_ldc_w X (n := 858993459) wd_938 (by decide) d_Integer_bitCount_18 ?_
  refine g_iand X d_Integer_bitCount_21 ?_
  refine g_iadd X d_Integer_bitCount_22 ?_
  refine g_istore_n X (fun x0_2 => [(0, .int (fa_I x0_2))]) d_Integer_bitCount_23 (by decide) (fun _ => rfl) (fun x0_2 ex0_2 => ?_)
  have hM := fa_let_to hM ex0_2
  refine g_iload_n X 0 rfl d_Integer_bitCount_24 ?_
  refine g_iload_n X 0 rfl d_Integer_bitCount_25 ?_
  refine g_iconst X d_Integer_bitCount_26 ?_
  refine g_iushr X d_Integer_bitCount_27 ?_
  refine g_iadd X d_Integer_bitCount_28 ?_
  refine g_ldc_w X (n := 252645135) wd_939 (by decide) d_Integer_bitCount_29 ?_
  refine g_iand X d_Integer_bitCount_32 ?_
  refine g_istore_n X (fun x0_3 => [(0, .int (fa_I x0_3))]) d_Integer_bitCount_33 (by decide) (fun _ => rfl) (fun x0_3 ex0_3 => ?_)
  have hM := fa_let_to hM ex0_3
  refine g_iload_n X 0 rfl d_Integer_bitCount_34 ?_
  refine g_iload_n X 0 rfl d_Integer_bitCount_35 ?_
  refine g_bipush X (by decide) d_Integer_bitCount_36 ?_
  refine g_iushr X d_Integer_bitCount_38 ?_
  refine g_iadd X d_Integer_bitCount_39 ?_
  refine g_istore_n X (fun x0_4 => [(0, .int (fa_I x0_4))]) d_Integer_bitCount_40 (by decide) (fun _ => rfl) (fun x0_4 ex0_4 => ?_)
  have hM := fa_let_to hM ex0_4
  refine g_iload_n X 0 rfl d_Integer_bitCount_41 ?_
  refine g_iload_n X 0 rfl d_Integer_bitCount_42 ?_
  refine g_bipush X (by decide) d_Integer_bitCount_43 ?_
  refine g_iushr X d_Integer_bitCount_45 ?_
  refine g_iadd X d_Integer_bitCount_46 ?_
  refine g_istore_n X (fun x0_5 => [(0, .int (fa_I x0_5))]) d_Integer_bitCount_47 (by decide) (fun _ => rfl) (fun x0_5 ex0_5 => ?_)
  have hM := fa_let_to hM ex0_5
  refine g_iload_n X 0 rfl d_Integer_bitCount_48 ?_
  refine g_bipush X (by decide) d_Integer_bitCount_49 ?_
  refine g_iand X d_Integer_bitCount_51 ?_
  subst hM
  exact g_iret X d_Integer_bitCount_52
theorem d_Integer_numberOfTrailingZeros_0 : decode prog_20_method_48_code 0 = .ok (.iload_n 0, 1) := by decide +kernel
theorem d_Integer_numberOfTrailingZeros_1 : decode prog_20_method_48_code 1 = .ok (.iconst (-1), 1) := by decide +kernel
theorem d_Integer_numberOfTrailingZeros_2 : decode prog_20_method_48_code 2 = .ok (.ixor, 1) := by decide +kernel
theorem d_Integer_numberOfTrailingZeros_3 : decode prog_20_method_48_code 3 = .ok (.iload_n 0, 1) := by decide +kernel
theorem d_Integer_numberOfTrailingZeros_4 : decode prog_20_method_48_code 4 = .ok (.iconst 1, 1) := by decide +kernel
theorem d_Integer_numberOfTrailingZeros_5 : decode prog_20_method_48_code 5 = .ok (.isub, 1) := by decide +kernel
theorem d_Integer_numberOfTrailingZeros_6 : decode prog_20_method_48_code 6 = .ok (.iand, 1) := by decide +kernel
theorem d_Integer_numberOfTrailingZeros_7 : decode prog_20_method_48_code 7 = .ok (.istore_n 0, 1) := by decide +kernel
theorem d_Integer_numberOfTrailingZeros_8 : decode prog_20_method_48_code 8 = .ok (.iload_n 0, 1) := by decide +kernel
theorem d_Integer_numberOfTrailingZeros_9 : decode prog_20_method_48_code 9 = .ok (.ifCond .gt 8, 3) := by decide +kernel
theorem d_Integer_numberOfTrailingZeros_12 : decode prog_20_method_48_code 12 = .ok (.iload_n 0, 1) := by decide +kernel
theorem d_Integer_numberOfTrailingZeros_13 : decode prog_20_method_48_code 13 = .ok (.bipush 32, 2) := by decide +kernel
theorem d_Integer_numberOfTrailingZeros_15 : decode prog_20_method_48_code 15 = .ok (.iand, 1) := by decide +kernel
theorem d_Integer_numberOfTrailingZeros_16 : decode prog_20_method_48_code 16 = .ok (.ireturn, 1) := by decide +kernel
theorem d_Integer_numberOfTrailingZeros_17 : decode prog_20_method_48_code 17 = .ok (.iconst 1, 1) := by decide +kernel
theorem d_Integer_numberOfTrailingZeros_18 : decode prog_20_method_48_code 18 = .ok (.istore_n 1, 1) := by decide +kernel
theorem d_Integer_numberOfTrailingZeros_19 : decode prog_20_method_48_code 19 = .ok (.iload_n 0, 1) := by decide +kernel
theorem d_Integer_numberOfTrailingZeros_20 : decode prog_20_method_48_code 20 = .ok (.ldc_w 264, 3) := by decide +kernel
theorem d_Integer_numberOfTrailingZeros_23 : decode prog_20_method_48_code 23 = .ok (.if_icmp .le 11, 3) := by decide +kernel
theorem d_Integer_numberOfTrailingZeros_26 : decode prog_20_method_48_code 26 = .ok (.iinc 1 16, 3) := by decide +kernel
theorem d_Integer_numberOfTrailingZeros_29 : decode prog_20_method_48_code 29 = .ok (.iload_n 0, 1) := by decide +kernel
theorem d_Integer_numberOfTrailingZeros_30 : decode prog_20_method_48_code 30 = .ok (.bipush 16, 2) := by decide +kernel
theorem d_Integer_numberOfTrailingZeros_32 : decode prog_20_method_48_code 32 = .ok (.iushr, 1) := by decide +kernel
theorem d_Integer_numberOfTrailingZeros_33 : decode prog_20_method_48_code 33 = .ok (.istore_n 0, 1) := by decide +kernel
theorem d_Integer_numberOfTrailingZeros_34 : decode prog_20_method_48_code 34 = .ok (.iload_n 0, 1) := by decide +kernel
theorem d_Integer_numberOfTrailingZeros_35 : decode prog_20_method_48_code 35 = .ok (.sipush 256, 3) := by decide +kernel
theorem d_Integer_numberOfTrailingZeros_38 : decode prog_20_method_48_code 38 = .ok (.if_icmp .le 11, 3) := by decide +kernel
theorem d_Integer_numberOfTrailingZeros_41 : decode prog_20_method_48_code 41 = .ok (.iinc 1 8, 3) := by decide +kernel
theorem d_Integer_numberOfTrailingZeros_44 : decode prog_20_method_48_code 44 = .ok (.iload_n 0, 1) := by decide +kernel
theorem d_Integer_numberOfTrailingZeros_45 : decode prog_20_method_48_code 45 = .ok (.bipush 8, 2) := by decide +kernel
theorem d_Integer_numberOfTrailingZeros_47 : decode prog_20_method_48_code 47 = .ok (.iushr, 1) := by decide +kernel
theorem d_Integer_numberOfTrailingZeros_48 : decode prog_20_method_48_code 48 = .ok (.istore_n 0, 1) := by decide +kernel
theorem d_Integer_numberOfTrailingZeros_49 : decode prog_20_method_48_code 49 = .ok (.iload_n 0, 1) := by decide +kernel
theorem d_Integer_numberOfTrailingZeros_50 : decode prog_20_method_48_code 50 = .ok (.bipush 16, 2) := by decide +kernel
theorem d_Integer_numberOfTrailingZeros_52 : decode prog_20_method_48_code 52 = .ok (.if_icmp .le 10, 3) := by decide +kernel
theorem d_Integer_numberOfTrailingZeros_55 : decode prog_20_method_48_code 55 = .ok (.iinc 1 4, 3) := by decide +kernel
theorem d_Integer_numberOfTrailingZeros_58 : decode prog_20_method_48_code 58 = .ok (.iload_n 0, 1) := by decide +kernel
theorem d_Integer_numberOfTrailingZeros_59 : decode prog_20_method_48_code 59 = .ok (.iconst 4, 1) := by decide +kernel
theorem d_Integer_numberOfTrailingZeros_60 : decode prog_20_method_48_code 60 = .ok (.iushr, 1) := by decide +kernel
theorem d_Integer_numberOfTrailingZeros_61 : decode prog_20_method_48_code 61 = .ok (.istore_n 0, 1) := by decide +kernel
theorem d_Integer_numberOfTrailingZeros_62 : decode prog_20_method_48_code 62 = .ok (.iload_n 0, 1) := by decide +kernel
theorem d_Integer_numberOfTrailingZeros_63 : decode prog_20_method_48_code 63 = .ok (.iconst 4, 1) := by decide +kernel
theorem d_Integer_numberOfTrailingZeros_64 : decode prog_20_method_48_code 64 = .ok (.if_icmp .le 10, 3) := by decide +kernel
theorem d_Integer_numberOfTrailingZeros_67 : decode prog_20_method_48_code 67 = .ok (.iinc 1 2, 3) := by decide +kernel
theorem d_Integer_numberOfTrailingZeros_70 : decode prog_20_method_48_code 70 = .ok (.iload_n 0, 1) := by decide +kernel
theorem d_Integer_numberOfTrailingZeros_71 : decode prog_20_method_48_code 71 = .ok (.iconst 2, 1) := by decide +kernel
theorem d_Integer_numberOfTrailingZeros_72 : decode prog_20_method_48_code 72 = .ok (.iushr, 1) := by decide +kernel
theorem d_Integer_numberOfTrailingZeros_73 : decode prog_20_method_48_code 73 = .ok (.istore_n 0, 1) := by decide +kernel
theorem d_Integer_numberOfTrailingZeros_74 : decode prog_20_method_48_code 74 = .ok (.iload_n 1, 1) := by decide +kernel
theorem d_Integer_numberOfTrailingZeros_75 : decode prog_20_method_48_code 75 = .ok (.iload_n 0, 1) := by decide +kernel
theorem d_Integer_numberOfTrailingZeros_76 : decode prog_20_method_48_code 76 = .ok (.iconst 1, 1) := by decide +kernel
theorem d_Integer_numberOfTrailingZeros_77 : decode prog_20_method_48_code 77 = .ok (.iushr, 1) := by decide +kernel
theorem d_Integer_numberOfTrailingZeros_78 : decode prog_20_method_48_code 78 = .ok (.iadd, 1) := by decide +kernel
theorem d_Integer_numberOfTrailingZeros_79 : decode prog_20_method_48_code 79 = .ok (.ireturn, 1) := by decide +kernel
def fm_Integer_numberOfTrailingZeros_j62 (a1 : Int) (w : fa_W) (x0 : Int) (x1 : Int) : Int :=
  if fa_wr x0 ≤ 4 then
  x1 + (fa_iushr x0 1)
  else
  (fa_let (x1 + 2) fun x1_7 =>
  fa_let (fa_iushr x0 2) fun x0_8 =>
  x1_7 + (fa_iushr x0_8 1))
set_option maxHeartbeats 4000000 in
set_option maxRecDepth 100000 in
theorem c_Integer_numberOfTrailingZeros_j62 {p : Program} {l : Launch} {e : Env} {s : State} {m : MethodId} {args : Array Value} {below : List Frame} {meth : Method} {c : Code} {hh : Nat} {D : va_G} {b : Nat} {aC : Nat → ClassId} {H0 : Heap} {N T : Nat} (X : fa_GX p s m args meth c prog_20_method_48_code 2 ((Option.some Jvm.ClassFile.FieldType.int)) y_Integer_numberOfTrailingZeros.cls D b aC) (hle : 0 ≤ hh) (a1 : Int) {r : Int} (w : fa_W) : ∀ (x0 : Int) (x1 : Int) (_ : fm_Integer_numberOfTrailingZeros_j62 a1 w x0 x1 = r), fa_GJ p l e (fa_rm hh) s m args below meth c 0 0 (MQ below (fa_Qc D b aC H0 N T (some (.int (fa_I r))) w) args s 0 0 (fun q => b ≤ q)) D b aC H0 N T 2 w 62 [(0, .int (fa_I x0)), (1, .int (fa_I x1))] [] := by
  intro x0 x1 hM
  unfold fm_Integer_numberOfTrailingZeros_j62 at hM
  refine g_iload_n X 0 rfl d_Integer_numberOfTrailingZeros_62 ?_
  refine g_iconst X d_Integer_numberOfTrailingZeros_63 ?_
  refine g_icmp_le X 74 d_Integer_numberOfTrailingZeros_64 (by decide) (fun hc6 => ?_) (fun hc6 => ?_)
  · have hM := fa_if_t hM hc6
    refine g_iload_n X 1 rfl d_Integer_numberOfTrailingZeros_74 ?_
    refine g_iload_n X 0 rfl d_Integer_numberOfTrailingZeros_75 ?_
    refine g_iconst X d_Integer_numberOfTrailingZeros_76 ?_
    refine g_iushr X d_Integer_numberOfTrailingZeros_77 ?_
    refine g_iadd X d_Integer_numberOfTrailingZeros_78 ?_
    subst hM
    exact g_iret X d_Integer_numberOfTrailingZeros_79
  · have hM := fa_if_f hM hc6
    refine g_iinc X 1 (fun x1_7 => [(1, .int (fa_I x1_7)), (0, .int (fa_I x0))]) d_Integer_numberOfTrailingZeros_67 rfl (by decide) (fun _ => rfl) (fun x1_7 ex1_7 => ?_)
    have hM := fa_let_to hM ex1_7
    refine g_iload_n X 1 rfl d_Integer_numberOfTrailingZeros_70 ?_
    refine g_iconst X d_Integer_numberOfTrailingZeros_71 ?_
    refine g_iushr X d_Integer_numberOfTrailingZeros_72 ?_
    refine g_istore_n X (fun x0_8 => [(0, .int (fa_I x0_8)), (1, .int (fa_I x1_7))]) d_Integer_numberOfTrailingZeros_73 (by decide) (fun _ => rfl) (fun x0_8 ex0_8 => ?_)
    have hM := fa_let_to hM ex0_8
    refine g_iload_n X 1 rfl d_Integer_numberOfTrailingZeros_74 ?_
    refine g_iload_n X 0 rfl d_Integer_numberOfTrailingZeros_75 ?_
    refine g_iconst X d_Integer_numberOfTrailingZeros_76 ?_
    refine g_iushr X d_Integer_numberOfTrailingZeros_77 ?_
    refine g_iadd X d_Integer_numberOfTrailingZeros_78 ?_
    subst hM
    exact g_iret X d_Integer_numberOfTrailingZeros_79
def fm_Integer_numberOfTrailingZeros_j49 (a1 : Int) (w : fa_W) (x0 : Int) (x1 : Int) : Int :=
  if fa_wr x0 ≤ 16 then
  fm_Integer_numberOfTrailingZeros_j62 a1 w x0 x1
  else
  (fa_let (x1 + 4) fun x1_9 =>
  fa_let (fa_iushr x0 4) fun x0_10 =>
  fm_Integer_numberOfTrailingZeros_j62 a1 w x0_10 x1_9)
set_option maxHeartbeats 4000000 in
set_option maxRecDepth 100000 in
theorem c_Integer_numberOfTrailingZeros_j49 {p : Program} {l : Launch} {e : Env} {s : State} {m : MethodId} {args : Array Value} {below : List Frame} {meth : Method} {c : Code} {hh : Nat} {D : va_G} {b : Nat} {aC : Nat → ClassId} {H0 : Heap} {N T : Nat} (X : fa_GX p s m args meth c prog_20_method_48_code 2 ((Option.some Jvm.ClassFile.FieldType.int)) y_Integer_numberOfTrailingZeros.cls D b aC) (hle : 0 ≤ hh) (a1 : Int) {r : Int} (w : fa_W) : ∀ (x0 : Int) (x1 : Int) (_ : fm_Integer_numberOfTrailingZeros_j49 a1 w x0 x1 = r), fa_GJ p l e (fa_rm hh) s m args below meth c 0 0 (MQ below (fa_Qc D b aC H0 N T (some (.int (fa_I r))) w) args s 0 0 (fun q => b ≤ q)) D b aC H0 N T 2 w 49 [(0, .int (fa_I x0)), (1, .int (fa_I x1))] [] := by
  intro x0 x1 hM
  unfold fm_Integer_numberOfTrailingZeros_j49 at hM
  refine g_iload_n X 0 rfl d_Integer_numberOfTrailingZeros_49 ?_
  refine g_bipush X (by decide) d_Integer_numberOfTrailingZeros_50 ?_
  refine g_icmp_le X 62 d_Integer_numberOfTrailingZeros_52 (by decide) (fun hc5 => ?_) (fun hc5 => ?_)
  · have hM := fa_if_t hM hc5
    exact g_lv [0, 1] rfl (c_Integer_numberOfTrailingZeros_j62 X hle a1 w   _ _ hM)
  · have hM := fa_if_f hM hc5
    refine g_iinc X 1 (fun x1_9 => [(1, .int (fa_I x1_9)), (0, .int (fa_I x0))]) d_Integer_numberOfTrailingZeros_55 rfl (by decide) (fun _ => rfl) (fun x1_9 ex1_9 => ?_)
    have hM := fa_let_to hM ex1_9
    refine g_iload_n X 1 rfl d_Integer_numberOfTrailingZeros_58 ?_
    refine g_iconst X d_Integer_numberOfTrailingZeros_59 ?_
    refine g_iushr X d_Integer_numberOfTrailingZeros_60 ?_
    refine g_istore_n X (fun x0_10 => [(0, .int (fa_I x0_10)), (1, .int (fa_I x1_9))]) d_Integer_numberOfTrailingZeros_61 (by decide) (fun _ => rfl) (fun x0_10 ex0_10 => ?_)
    have hM := fa_let_to hM ex0_10
    exact g_lv [0, 1] rfl (c_Integer_numberOfTrailingZeros_j62 X hle a1 w   _ _ hM)
def fm_Integer_numberOfTrailingZeros_j34 (a1 : Int) (w : fa_W) (x0 : Int) (x1 : Int) : Int :=
  if fa_wr x0 ≤ 256 then
  fm_Integer_numberOfTrailingZeros_j49 a1 w x0 x1
  else
  (fa_let (x1 + 8) fun x1_11 =>
  fa_let (fa_iushr x0 8) fun x0_12 =>
  fm_Integer_numberOfTrailingZeros_j49 a1 w x0_12 x1_11)
set_option maxHeartbeats 4000000 in
set_option maxRecDepth 100000 in
theorem c_Integer_numberOfTrailingZeros_j34 {p : Program} {l : Launch} {e : Env} {s : State} {m : MethodId} {args : Array Value} {below : List Frame} {meth : Method} {c : Code} {hh : Nat} {D : va_G} {b : Nat} {aC : Nat → ClassId} {H0 : Heap} {N T : Nat} (X : fa_GX p s m args meth c prog_20_method_48_code 2 ((Option.some Jvm.ClassFile.FieldType.int)) y_Integer_numberOfTrailingZeros.cls D b aC) (hle : 0 ≤ hh) (a1 : Int) {r : Int} (w : fa_W) : ∀ (x0 : Int) (x1 : Int) (_ : fm_Integer_numberOfTrailingZeros_j34 a1 w x0 x1 = r), fa_GJ p l e (fa_rm hh) s m args below meth c 0 0 (MQ below (fa_Qc D b aC H0 N T (some (.int (fa_I r))) w) args s 0 0 (fun q => b ≤ q)) D b aC H0 N T 2 w 34 [(0, .int (fa_I x0)), (1, .int (fa_I x1))] [] := by
  intro x0 x1 hM
  unfold fm_Integer_numberOfTrailingZeros_j34 at hM
  refine g_iload_n X 0 rfl d_Integer_numberOfTrailingZeros_34 ?_
  refine g_sipush X (by decide) d_Integer_numberOfTrailingZeros_35 ?_
  refine g_icmp_le X 49 d_Integer_numberOfTrailingZeros_38 (by decide) (fun hc4 => ?_) (fun hc4 => ?_)
  · have hM := fa_if_t hM hc4
    exact g_lv [0, 1] rfl (c_Integer_numberOfTrailingZeros_j49 X hle a1 w   _ _ hM)
  · have hM := fa_if_f hM hc4
    refine g_iinc X 1 (fun x1_11 => [(1, .int (fa_I x1_11)), (0, .int (fa_I x0))]) d_Integer_numberOfTrailingZeros_41 rfl (by decide) (fun _ => rfl) (fun x1_11 ex1_11 => ?_)
    have hM := fa_let_to hM ex1_11
    refine g_iload_n X 1 rfl d_Integer_numberOfTrailingZeros_44 ?_
    refine g_bipush X (by decide) d_Integer_numberOfTrailingZeros_45 ?_
    refine g_iushr X d_Integer_numberOfTrailingZeros_47 ?_
    refine g_istore_n X (fun x0_12 => [(0, .int (fa_I x0_12)), (1, .int (fa_I x1_11))]) d_Integer_numberOfTrailingZeros_48 (by decide) (fun _ => rfl) (fun x0_12 ex0_12 => ?_)
    have hM := fa_let_to hM ex0_12
    exact g_lv [0, 1] rfl (c_Integer_numberOfTrailingZeros_j49 X hle a1 w   _ _ hM)
def fm_Integer_numberOfTrailingZeros (a1 : Int) (w : fa_W) : Int :=
  fa_let (fa_iand (fa_ixor a1 (-1)) (a1 - 1)) fun x0_1 =>
  if 0 < fa_wr x0_1 then
  (if fa_wr x0_1 ≤ 65536 then
  fm_Integer_numberOfTrailingZeros_j34 a1 w x0_1 1
  else
  (fa_let (1 + 16) fun x1_13 =>
  fa_let (fa_iushr x0_1 16) fun x0_14 =>
  fm_Integer_numberOfTrailingZeros_j34 a1 w x0_14 x1_13))
  else
  fa_iand x0_1 32
set_option maxHeartbeats 4000000 in
set_option maxRecDepth 100000 in
theorem c_Integer_numberOfTrailingZeros {l : Launch} {D : va_G} {b : Nat} {aC : Nat → ClassId} {H0 : Heap} {N T : Nat}  (a1 : Int)  (w : fa_W) (r : Int) (hM : fm_Integer_numberOfTrailingZeros a1 w = r) : fa_MC l D b aC H0 N T y_Integer_numberOfTrailingZeros prog_20_method_48_code 2 ((Option.some Jvm.ClassFile.FieldType.int)) (0) [.int (fa_I a1)] w (some (.int (fa_I r))) w := by
  refine fa_enter (lv := [(0, .int (fa_I a1))]) (by decide +kernel) (Nat.le_of_ble_eq_true rfl) rfl (fun hh hle hnm X => ?_)
  unfold fm_Integer_numberOfTrailingZeros at hM
  refine g_iload_n X 0 rfl d_Integer_numberOfTrailingZeros_0 ?_
  refine g_iconst X d_Integer_numberOfTrailingZeros_1 ?_
  refine g_ixor X d_Integer_numberOfTrailingZeros_2 ?_
  refine g_iload_n X 0 rfl d_Integer_numberOfTrailingZeros_3 ?_
  refine g_iconst X d_Integer_numberOfTrailingZeros_4 ?_
  refine g_isub X d_Integer_numberOfTrailingZeros_5 ?_
  refine g_iand X d_Integer_numberOfTrailingZeros_6 ?_
  refine g_istore_n X (fun x0_1 => [(0, .int (fa_I x0_1))]) d_Integer_numberOfTrailingZeros_7 (by decide) (fun _ => rfl) (fun x0_1 ex0_1 => ?_)
  have hM := fa_let_to hM ex0_1
  refine g_iload_n X 0 rfl d_Integer_numberOfTrailingZeros_8 ?_
  refine g_if_gt X 17 d_Integer_numberOfTrailingZeros_9 (by decide) (fun hc2 => ?_) (fun hc2 => ?_)
  · have hM := fa_if_t hM hc2
    refine g_iconst X d_Integer_numberOfTrailingZeros_17 ?_
    refine g_istorec_n X [(1, .int (fa_I 1)), (0, .int (fa_I x0_1))] d_Integer_numberOfTrailingZeros_18 (by decide) rfl ?_
    refine g_iload_n X 1 rfl d_Integer_numberOfTrailingZeros_19 ?_
    refine g_ldc_w X (n := 65536) wd_606 (by decide) d_Integer_numberOfTrailingZeros_20 ?_
    refine g_icmp_le X 34 d_Integer_numberOfTrailingZeros_23 (by decide) (fun hc3 => ?_) (fun hc3 => ?_)
    · have hM := fa_if_t hM hc3
      exact g_lv [1, 0] rfl (c_Integer_numberOfTrailingZeros_j34 X hle a1 w   _ _ hM)
    · have hM := fa_if_f hM hc3
      refine g_iinc X 0 (fun x1_13 => [(1, .int (fa_I x1_13)), (0, .int (fa_I x0_1))]) d_Integer_numberOfTrailingZeros_26 rfl (by decide) (fun _ => rfl) (fun x1_13 ex1_13 => ?_)
      have hM := fa_let_to hM ex1_13
      refine g_iload_n X 1 rfl d_Integer_numberOfTrailingZeros_29 ?_
      refine g_bipush X (by decide) d_Integer_numberOfTrailingZeros_30 ?_
      refine g_iushr X d_Integer_numberOfTrailingZeros_32 ?_
      refine g_istore_n X (fun x0_14 => [(0, .int (fa_I x0_14)), (1, .int (fa_I x1_13))]) d_Integer_numberOfTrailingZeros_33 (by decide) (fun _ => rfl) (fun x0_14 ex0_14 => ?_)
      have hM := fa_let_to hM ex0_14
      exact g_lv [0, 1] rfl (c_Integer_numberOfTrailingZeros_j34 X hle a1 w   _ _ hM)
  · have hM := fa_if_f hM hc2
    refine g_iload_n X 0 rfl d_Integer_numberOfTrailingZeros_12 ?_
    refine g_bipush X (by decide) d_Integer_numberOfTrailingZeros_13 ?_
    refine g_iand X d_Integer_numberOfTrailingZeros_15 ?_
    subst hM
    exact g_iret X d_Integer_numberOfTrailingZeros_16
