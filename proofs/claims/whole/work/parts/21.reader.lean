theorem d_Reader_told_0 : decode prog_6_method_3_code 0 = .ok (.iconst 1, 1) := by decide +kernel
theorem d_Reader_told_1 : decode prog_6_method_3_code 1 = .ok (.aload_n 0, 1) := by decide +kernel
theorem d_Reader_told_2 : decode prog_6_method_3_code 2 = .ok (.getfield 12, 3) := by decide +kernel
theorem d_Reader_told_5 : decode prog_6_method_3_code 5 = .ok (.getfield 81, 3) := by decide +kernel
theorem d_Reader_told_8 : decode prog_6_method_3_code 8 = .ok (.ishl, 1) := by decide +kernel
theorem d_Reader_told_9 : decode prog_6_method_3_code 9 = .ok (.iconst 1, 1) := by decide +kernel
theorem d_Reader_told_10 : decode prog_6_method_3_code 10 = .ok (.isub, 1) := by decide +kernel
theorem d_Reader_told_11 : decode prog_6_method_3_code 11 = .ok (.iconst 1, 1) := by decide +kernel
theorem d_Reader_told_12 : decode prog_6_method_3_code 12 = .ok (.aload_n 0, 1) := by decide +kernel
theorem d_Reader_told_13 : decode prog_6_method_3_code 13 = .ok (.getfield 49, 3) := by decide +kernel
theorem d_Reader_told_16 : decode prog_6_method_3_code 16 = .ok (.ishl, 1) := by decide +kernel
theorem d_Reader_told_17 : decode prog_6_method_3_code 17 = .ok (.iconst 1, 1) := by decide +kernel
theorem d_Reader_told_18 : decode prog_6_method_3_code 18 = .ok (.isub, 1) := by decide +kernel
theorem d_Reader_told_19 : decode prog_6_method_3_code 19 = .ok (.bipush 6, 2) := by decide +kernel
theorem d_Reader_told_21 : decode prog_6_method_3_code 21 = .ok (.ishl, 1) := by decide +kernel
theorem d_Reader_told_22 : decode prog_6_method_3_code 22 = .ok (.ior, 1) := by decide +kernel
theorem d_Reader_told_23 : decode prog_6_method_3_code 23 = .ok (.ireturn, 1) := by decide +kernel
def fm_Reader_told (w : fa_W) : Int :=
  fa_ior ((fa_ishl 1 (w 8 13)) - 1) (fa_ishl ((fa_ishl 1 (w 7 10)) - 1) 6)
set_option maxHeartbeats 4000000 in
set_option maxRecDepth 100000 in
theorem c_Reader_told {l : Launch} {D : va_G} {b : Nat} {aC : Nat → ClassId} {H0 : Heap} {N T : Nat} (hN : fa_NX ≤ N) (hT : fa_TX ≤ T)   (w : fa_W) (r : Int) (hM : fm_Reader_told w = r) : fa_MC l D b aC H0 N T y_Reader_told prog_6_method_3_code 1 ((Option.some Jvm.ClassFile.FieldType.int)) (0) [.ref (b + 7)] w (some (.int (fa_I r))) w := by
  refine fa_enter (lv := [(0, .ref (b + 7))]) (by decide +kernel) (Nat.le_of_ble_eq_true rfl) rfl (fun hh hle hnm X => ?_)
  unfold fm_Reader_told at hM
  refine g_iconst X d_Reader_told_0 ?_
  refine g_aload_n X 0 rfl d_Reader_told_1 ?_
  refine g_get X ck_5 fo_7 (fa_xn fo_7 (by decide) hN) 0 (by decide) wd_150 rfl (fr_7_0 rfl hT) d_Reader_told_2 ?_
  refine g_getN X ck_4 fo_8 (fa_xn fo_8 (by decide) hN) 13 (by decide) wd_93 rfl (fa_fvI rfl) d_Reader_told_5 ?_
  refine g_ishl X d_Reader_told_8 ?_
  refine g_iconst X d_Reader_told_9 ?_
  refine g_isub X d_Reader_told_10 ?_
  refine g_iconst X d_Reader_told_11 ?_
  refine g_aload_n X 0 rfl d_Reader_told_12 ?_
  refine g_get X ck_5 fo_7 (fa_xn fo_7 (by decide) hN) 10 (by decide) wd_161 rfl (fa_fvI rfl) d_Reader_told_13 ?_
  refine g_ishl X d_Reader_told_16 ?_
  refine g_iconst X d_Reader_told_17 ?_
  refine g_isub X d_Reader_told_18 ?_
  refine g_bipush X (by decide) d_Reader_told_19 ?_
  refine g_ishl X d_Reader_told_21 ?_
  refine g_ior X d_Reader_told_22 ?_
  subst hM
  exact g_iret X d_Reader_told_23
theorem d_Reader_clear_0 : decode prog_6_method_4_code 0 = .ok (.aload_n 0, 1) := by decide +kernel
theorem d_Reader_clear_1 : decode prog_6_method_4_code 1 = .ok (.getfield 12, 3) := by decide +kernel
theorem d_Reader_clear_4 : decode prog_6_method_4_code 4 = .ok (.invokevirtual 84, 3) := by decide +kernel
theorem d_Reader_clear_7 : decode prog_6_method_4_code 7 = .ok (.aload_n 0, 1) := by decide +kernel
theorem d_Reader_clear_8 : decode prog_6_method_4_code 8 = .ok (.getfield 23, 3) := by decide +kernel
theorem d_Reader_clear_11 : decode prog_6_method_4_code 11 = .ok (.invokevirtual 85, 3) := by decide +kernel
theorem d_Reader_clear_14 : decode prog_6_method_4_code 14 = .ok (.aload_n 0, 1) := by decide +kernel
theorem d_Reader_clear_15 : decode prog_6_method_4_code 15 = .ok (.iconst 0, 1) := by decide +kernel
theorem d_Reader_clear_16 : decode prog_6_method_4_code 16 = .ok (.putfield 27, 3) := by decide +kernel
theorem d_Reader_clear_19 : decode prog_6_method_4_code 19 = .ok (.aload_n 0, 1) := by decide +kernel
theorem d_Reader_clear_20 : decode prog_6_method_4_code 20 = .ok (.iconst (-1), 1) := by decide +kernel
theorem d_Reader_clear_21 : decode prog_6_method_4_code 21 = .ok (.putfield 40, 3) := by decide +kernel
theorem d_Reader_clear_24 : decode prog_6_method_4_code 24 = .ok (.aload_n 0, 1) := by decide +kernel
theorem d_Reader_clear_25 : decode prog_6_method_4_code 25 = .ok (.iconst 0, 1) := by decide +kernel
theorem d_Reader_clear_26 : decode prog_6_method_4_code 26 = .ok (.putfield 43, 3) := by decide +kernel
theorem d_Reader_clear_29 : decode prog_6_method_4_code 29 = .ok (.aload_n 0, 1) := by decide +kernel
theorem d_Reader_clear_30 : decode prog_6_method_4_code 30 = .ok (.iconst 0, 1) := by decide +kernel
theorem d_Reader_clear_31 : decode prog_6_method_4_code 31 = .ok (.putfield 46, 3) := by decide +kernel
theorem d_Reader_clear_34 : decode prog_6_method_4_code 34 = .ok (.aload_n 0, 1) := by decide +kernel
theorem d_Reader_clear_35 : decode prog_6_method_4_code 35 = .ok (.iconst 0, 1) := by decide +kernel
theorem d_Reader_clear_36 : decode prog_6_method_4_code 36 = .ok (.putfield 49, 3) := by decide +kernel
theorem d_Reader_clear_39 : decode prog_6_method_4_code 39 = .ok (.aload_n 0, 1) := by decide +kernel
theorem d_Reader_clear_40 : decode prog_6_method_4_code 40 = .ok (.iconst 0, 1) := by decide +kernel
theorem d_Reader_clear_41 : decode prog_6_method_4_code 41 = .ok (.putfield 52, 3) := by decide +kernel
theorem d_Reader_clear_44 : decode prog_6_method_4_code 44 = .ok (.aload_n 0, 1) := by decide +kernel
theorem d_Reader_clear_45 : decode prog_6_method_4_code 45 = .ok (.iconst (-1), 1) := by decide +kernel
theorem d_Reader_clear_46 : decode prog_6_method_4_code 46 = .ok (.putfield 55, 3) := by decide +kernel
theorem d_Reader_clear_49 : decode prog_6_method_4_code 49 = .ok (.return_, 1) := by decide +kernel
def fm_Reader_clear (w : fa_W) : fa_W :=
  fa_let (fm_Program_clear 8 w) fun w2 =>
  fa_let (fm_Row_clear 35 w2) fun w4 =>
  fa_let (fa_st w4 7 3 0) fun w5 =>
  fa_let (fa_st w5 7 7 (-1)) fun w6 =>
  fa_let (fa_st w6 7 8 0) fun w7 =>
  fa_let (fa_st w7 7 9 0) fun w8 =>
  fa_let (fa_st w8 7 10 0) fun w9 =>
  fa_let (fa_st w9 7 11 0) fun w10 =>
  fa_let (fa_st w10 7 12 (-1)) fun w11 =>
  w11
set_option maxHeartbeats 4000000 in
set_option maxRecDepth 100000 in
theorem c_Reader_clear {l : Launch} {D : va_G} {b : Nat} {aC : Nat → ClassId} {H0 : Heap} {N T : Nat} (hN : fa_NX ≤ N) (hT : fa_TX ≤ T)   (w : fa_W) (r : fa_W) (hM : fm_Reader_clear w = r) : fa_MC l D b aC H0 N T y_Reader_clear prog_6_method_4_code 1 ((Option.none : Option Jvm.ClassFile.FieldType)) (3) [.ref (b + 7)] w (none) r := by
  refine fa_enter (lv := [(0, .ref (b + 7))]) (by decide +kernel) (Nat.le_of_ble_eq_true rfl) rfl (fun hh hle hnm X => ?_)
  unfold fm_Reader_clear at hM
  refine g_aload_n X 0 rfl d_Reader_clear_0 ?_
  refine g_get X ck_5 fo_7 (fa_xn fo_7 (by decide) hN) 0 (by decide) wd_150 rfl (fr_7_0 rfl hT) d_Reader_clear_1 ?_
  obtain ⟨w2, e1⟩ : ∃ q, fm_Program_clear 8 w = q := ⟨_, rfl⟩
  have hM := fa_let_to hM e1.symm
  refine g_callV_v X ck_4 fo_8 (fa_xn fo_8 (by decide) hN) rfl mi_Program_clear (c_Program_clear hN hT 8 fo_8 w _ e1) wd_971 rfl (Nat.le_trans (Nat.le_of_ble_eq_true rfl) hle) (st := []) (Nat.le_of_ble_eq_true rfl) rfl d_Reader_clear_4 ?_
  refine g_aload_n X 0 rfl d_Reader_clear_7 ?_
  refine g_get X ck_5 fo_7 (fa_xn fo_7 (by decide) hN) 2 (by decide) wd_153 rfl (fr_7_2 rfl hT) d_Reader_clear_8 ?_
  obtain ⟨w4, e3⟩ : ∃ q, fm_Row_clear 35 w2 = q := ⟨_, rfl⟩
  have hM := fa_let_to hM e3.symm
  refine g_callV_v X ck_6 fo_35 (fa_xn fo_35 (by decide) hN) rfl mi_Row_clear (c_Row_clear 35 (fa_ro fo_35 hN hT) w2 _ e3) wd_972 rfl (Nat.le_trans (Nat.le_of_ble_eq_true rfl) hle) (st := []) (Nat.le_of_ble_eq_true rfl) rfl d_Reader_clear_11 ?_
  refine g_aload_n X 0 rfl d_Reader_clear_14 ?_
  refine g_iconst X d_Reader_clear_15 ?_
  refine g_put X ck_5 fo_7 (fa_xn fo_7 (by decide) hN) 3 (z := 0) (by decide) wd_154 rfl (fa_fvI' rfl) rfl rfl rfl d_Reader_clear_16 (fun w5 ew5 => ?_)
  have hM := fa_let_to hM ew5
  refine g_aload_n X 0 rfl d_Reader_clear_19 ?_
  refine g_iconst X d_Reader_clear_20 ?_
  refine g_put X ck_5 fo_7 (fa_xn fo_7 (by decide) hN) 7 (z := (-1)) (by decide) wd_158 rfl (fa_fvI' rfl) rfl rfl rfl d_Reader_clear_21 (fun w6 ew6 => ?_)
  have hM := fa_let_to hM ew6
  refine g_aload_n X 0 rfl d_Reader_clear_24 ?_
  refine g_iconst X d_Reader_clear_25 ?_
  refine g_put X ck_5 fo_7 (fa_xn fo_7 (by decide) hN) 8 (z := 0) (by decide) wd_159 rfl (fa_fvI' rfl) rfl rfl rfl d_Reader_clear_26 (fun w7 ew7 => ?_)
  have hM := fa_let_to hM ew7
  refine g_aload_n X 0 rfl d_Reader_clear_29 ?_
  refine g_iconst X d_Reader_clear_30 ?_
  refine g_put X ck_5 fo_7 (fa_xn fo_7 (by decide) hN) 9 (z := 0) (by decide) wd_160 rfl (fa_fvI' rfl) rfl rfl rfl d_Reader_clear_31 (fun w8 ew8 => ?_)
  have hM := fa_let_to hM ew8
  refine g_aload_n X 0 rfl d_Reader_clear_34 ?_
  refine g_iconst X d_Reader_clear_35 ?_
  refine g_put X ck_5 fo_7 (fa_xn fo_7 (by decide) hN) 10 (z := 0) (by decide) wd_161 rfl (fa_fvI' rfl) rfl rfl rfl d_Reader_clear_36 (fun w9 ew9 => ?_)
  have hM := fa_let_to hM ew9
  refine g_aload_n X 0 rfl d_Reader_clear_39 ?_
  refine g_iconst X d_Reader_clear_40 ?_
  refine g_put X ck_5 fo_7 (fa_xn fo_7 (by decide) hN) 11 (z := 0) (by decide) wd_162 rfl (fa_fvI' rfl) rfl rfl rfl d_Reader_clear_41 (fun w10 ew10 => ?_)
  have hM := fa_let_to hM ew10
  refine g_aload_n X 0 rfl d_Reader_clear_44 ?_
  refine g_iconst X d_Reader_clear_45 ?_
  refine g_put X ck_5 fo_7 (fa_xn fo_7 (by decide) hN) 12 (z := (-1)) (by decide) wd_163 rfl (fa_fvI' rfl) rfl rfl rfl d_Reader_clear_46 (fun w11 ew11 => ?_)
  have hM := fa_let_to hM ew11
  subst hM
  exact g_vret X d_Reader_clear_49
theorem d_Reader_fail_0 : decode prog_6_method_5_code 0 = .ok (.aload_n 0, 1) := by decide +kernel
theorem d_Reader_fail_1 : decode prog_6_method_5_code 1 = .ok (.getfield 40, 3) := by decide +kernel
theorem d_Reader_fail_4 : decode prog_6_method_5_code 4 = .ok (.iconst (-1), 1) := by decide +kernel
theorem d_Reader_fail_5 : decode prog_6_method_5_code 5 = .ok (.if_icmp .ne 11, 3) := by decide +kernel
theorem d_Reader_fail_8 : decode prog_6_method_5_code 8 = .ok (.aload_n 0, 1) := by decide +kernel
theorem d_Reader_fail_9 : decode prog_6_method_5_code 9 = .ok (.aload_n 0, 1) := by decide +kernel
theorem d_Reader_fail_10 : decode prog_6_method_5_code 10 = .ok (.getfield 34, 3) := by decide +kernel
theorem d_Reader_fail_13 : decode prog_6_method_5_code 13 = .ok (.putfield 40, 3) := by decide +kernel
theorem d_Reader_fail_16 : decode prog_6_method_5_code 16 = .ok (.aload_n 0, 1) := by decide +kernel
theorem d_Reader_fail_17 : decode prog_6_method_5_code 17 = .ok (.iconst 3, 1) := by decide +kernel
theorem d_Reader_fail_18 : decode prog_6_method_5_code 18 = .ok (.putfield 31, 3) := by decide +kernel
theorem d_Reader_fail_21 : decode prog_6_method_5_code 21 = .ok (.return_, 1) := by decide +kernel
def fm_Reader_fail_j16 (w : fa_W) : fa_W :=
  fa_let (fa_st w 7 4 3) fun w2 =>
  w2
set_option maxHeartbeats 4000000 in
set_option maxRecDepth 100000 in
theorem c_Reader_fail_j16 {p : Program} {l : Launch} {e : Env} {s : State} {m : MethodId} {args : Array Value} {below : List Frame} {meth : Method} {c : Code} {hh : Nat} {D : va_G} {b : Nat} {aC : Nat → ClassId} {H0 : Heap} {N T : Nat} (X : fa_GX p s m args meth c prog_6_method_5_code 1 ((Option.none : Option Jvm.ClassFile.FieldType)) y_Reader_fail.cls D b aC) (hle : 0 ≤ hh) (hN : fa_NX ≤ N) (hT : fa_TX ≤ T) {r : fa_W}  : ∀ (w : fa_W) (_ : fm_Reader_fail_j16 w = r), fa_GJ p l e (fa_rm hh) s m args below meth c 0 0 (MQ below (fa_Qc D b aC H0 N T (none) r) args s 0 0 (fun q => b ≤ q)) D b aC H0 N T 1 w 16 [(0, .ref (b + 7))] [] := by
  intro w hM
  unfold fm_Reader_fail_j16 at hM
  refine g_aload_n X 0 rfl d_Reader_fail_16 ?_
  refine g_iconst X d_Reader_fail_17 ?_
  refine g_put X ck_5 fo_7 (fa_xn fo_7 (by decide) hN) 4 (z := 3) (by decide) wd_155 rfl (fa_fvI' rfl) rfl rfl rfl d_Reader_fail_18 (fun w2 ew2 => ?_)
  have hM := fa_let_to hM ew2
  subst hM
  exact g_vret X d_Reader_fail_21
def fm_Reader_fail (w : fa_W) : fa_W :=
  if fa_wr (w 7 7) = (-1) then
  (fa_let (fa_st w 7 7 (w 7 5)) fun w3 =>
  fm_Reader_fail_j16 w3)
  else
  fm_Reader_fail_j16 w
set_option maxHeartbeats 4000000 in
set_option maxRecDepth 100000 in
theorem c_Reader_fail {l : Launch} {D : va_G} {b : Nat} {aC : Nat → ClassId} {H0 : Heap} {N T : Nat} (hN : fa_NX ≤ N) (hT : fa_TX ≤ T)   (w : fa_W) (r : fa_W) (hM : fm_Reader_fail w = r) : fa_MC l D b aC H0 N T y_Reader_fail prog_6_method_5_code 1 ((Option.none : Option Jvm.ClassFile.FieldType)) (0) [.ref (b + 7)] w (none) r := by
  refine fa_enter (lv := [(0, .ref (b + 7))]) (by decide +kernel) (Nat.le_of_ble_eq_true rfl) rfl (fun hh hle hnm X => ?_)
  unfold fm_Reader_fail at hM
  refine g_aload_n X 0 rfl d_Reader_fail_0 ?_
  refine g_get X ck_5 fo_7 (fa_xn fo_7 (by decide) hN) 7 (by decide) wd_158 rfl (fa_fvI rfl) d_Reader_fail_1 ?_
  refine g_iconst X d_Reader_fail_4 ?_
  refine g_icmp_ne X 16 d_Reader_fail_5 (by decide) (fun hc1 => ?_) (fun hc1 => ?_)
  · have hM := fa_if_f hM hc1
    exact g_lv [0] rfl (c_Reader_fail_j16 X hle hN hT    _ hM)
  · have hM := fa_if_t hM hc1
    refine g_aload_n X 0 rfl d_Reader_fail_8 ?_
    refine g_aload_n X 0 rfl d_Reader_fail_9 ?_
    refine g_get X ck_5 fo_7 (fa_xn fo_7 (by decide) hN) 5 (by decide) wd_156 rfl (fa_fvI rfl) d_Reader_fail_10 ?_
    refine g_put X ck_5 fo_7 (fa_xn fo_7 (by decide) hN) 7 (z := (w 7 5)) (by decide) wd_158 rfl (fa_fvI' rfl) rfl rfl rfl d_Reader_fail_13 (fun w3 ew3 => ?_)
    have hM := fa_let_to hM ew3
    exact g_lv [0] rfl (c_Reader_fail_j16 X hle hN hT    _ hM)
theorem d_Reader_isBlank_0 : decode prog_6_method_7_code 0 = .ok (.iload_n 0, 1) := by decide +kernel
theorem d_Reader_isBlank_1 : decode prog_6_method_7_code 1 = .ok (.bipush 9, 2) := by decide +kernel
theorem d_Reader_isBlank_3 : decode prog_6_method_7_code 3 = .ok (.if_icmp .eq 15, 3) := by decide +kernel
theorem d_Reader_isBlank_6 : decode prog_6_method_7_code 6 = .ok (.iload_n 0, 1) := by decide +kernel
theorem d_Reader_isBlank_7 : decode prog_6_method_7_code 7 = .ok (.bipush 10, 2) := by decide +kernel
theorem d_Reader_isBlank_9 : decode prog_6_method_7_code 9 = .ok (.if_icmp .eq 9, 3) := by decide +kernel
theorem d_Reader_isBlank_12 : decode prog_6_method_7_code 12 = .ok (.iload_n 0, 1) := by decide +kernel
theorem d_Reader_isBlank_13 : decode prog_6_method_7_code 13 = .ok (.bipush 32, 2) := by decide +kernel
theorem d_Reader_isBlank_15 : decode prog_6_method_7_code 15 = .ok (.if_icmp .ne 7, 3) := by decide +kernel
theorem d_Reader_isBlank_18 : decode prog_6_method_7_code 18 = .ok (.iconst 1, 1) := by decide +kernel
theorem d_Reader_isBlank_19 : decode prog_6_method_7_code 19 = .ok (.goto 4, 3) := by decide +kernel
theorem d_Reader_isBlank_22 : decode prog_6_method_7_code 22 = .ok (.iconst 0, 1) := by decide +kernel
theorem d_Reader_isBlank_23 : decode prog_6_method_7_code 23 = .ok (.ireturn, 1) := by decide +kernel
def fm_Reader_isBlank (a1 : Int) (w : fa_W) : Bool :=
  if fa_wr a1 = 9 then
  true
  else
  (if fa_wr a1 = 10 then
  true
  else
  (if fa_wr a1 = 32 then
  true
  else
  false))
set_option maxHeartbeats 4000000 in
set_option maxRecDepth 100000 in
theorem c_Reader_isBlank {l : Launch} {D : va_G} {b : Nat} {aC : Nat → ClassId} {H0 : Heap} {N T : Nat} (hN : fa_NX ≤ N) (hT : fa_TX ≤ T) (a1 : Int)  (w : fa_W) (r : Bool) (hM : fm_Reader_isBlank a1 w = r) : fa_MC l D b aC H0 N T y_Reader_isBlank prog_6_method_7_code 1 ((Option.some Jvm.ClassFile.FieldType.boolean)) (0) [.int (fa_I a1)] w (some (.int (fa_I (fa_bi r)))) w := by
  refine fa_enter (lv := [(0, .int (fa_I a1))]) (by decide +kernel) (Nat.le_of_ble_eq_true rfl) rfl (fun hh hle hnm X => ?_)
  unfold fm_Reader_isBlank at hM
  refine g_iload_n X 0 rfl d_Reader_isBlank_0 ?_
  refine g_bipush X (by decide) d_Reader_isBlank_1 ?_
  refine g_icmp_eq X 18 d_Reader_isBlank_3 (by decide) (fun hc1 => ?_) (fun hc1 => ?_)
  · have hM := fa_if_t hM hc1
    refine g_iconst X d_Reader_isBlank_18 ?_
    refine g_goto X 23 d_Reader_isBlank_19 (by decide) ?_
    subst hM
    exact g_zret X rfl d_Reader_isBlank_23
  · have hM := fa_if_f hM hc1
    refine g_iload_n X 0 rfl d_Reader_isBlank_6 ?_
    refine g_bipush X (by decide) d_Reader_isBlank_7 ?_
    refine g_icmp_eq X 18 d_Reader_isBlank_9 (by decide) (fun hc2 => ?_) (fun hc2 => ?_)
    · have hM := fa_if_t hM hc2
      refine g_iconst X d_Reader_isBlank_18 ?_
      refine g_goto X 23 d_Reader_isBlank_19 (by decide) ?_
      subst hM
      exact g_zret X rfl d_Reader_isBlank_23
    · have hM := fa_if_f hM hc2
      refine g_iload_n X 0 rfl d_Reader_isBlank_12 ?_
      refine g_bipush X (by decide) d_Reader_isBlank_13 ?_
      refine g_icmp_ne X 22 d_Reader_isBlank_15 (by decide) (fun hc3 => ?_) (fun hc3 => ?_)
      · have hM := fa_if_f hM hc3
        refine g_iconst X d_Reader_isBlank_22 ?_
        subst hM
        exact g_zret X rfl d_Reader_isBlank_23
      · have hM := fa_if_t hM hc3
        refine g_iconst X d_Reader_isBlank_18 ?_
        refine g_goto X 23 d_Reader_isBlank_19 (by decide) ?_
        subst hM
        exact g_zret X rfl d_Reader_isBlank_23
theorem d_Reader_isLetter_0 : decode prog_6_method_8_code 0 = .ok (.iload_n 0, 1) := by decide +kernel
theorem d_Reader_isLetter_1 : decode prog_6_method_8_code 1 = .ok (.bipush 97, 2) := by decide +kernel
theorem d_Reader_isLetter_3 : decode prog_6_method_8_code 3 = .ok (.if_icmp .lt 13, 3) := by decide +kernel
theorem d_Reader_isLetter_6 : decode prog_6_method_8_code 6 = .ok (.iload_n 0, 1) := by decide +kernel
theorem d_Reader_isLetter_7 : decode prog_6_method_8_code 7 = .ok (.bipush 122, 2) := by decide +kernel
theorem d_Reader_isLetter_9 : decode prog_6_method_8_code 9 = .ok (.if_icmp .gt 7, 3) := by decide +kernel
theorem d_Reader_isLetter_12 : decode prog_6_method_8_code 12 = .ok (.iconst 1, 1) := by decide +kernel
theorem d_Reader_isLetter_13 : decode prog_6_method_8_code 13 = .ok (.goto 4, 3) := by decide +kernel
theorem d_Reader_isLetter_16 : decode prog_6_method_8_code 16 = .ok (.iconst 0, 1) := by decide +kernel
theorem d_Reader_isLetter_17 : decode prog_6_method_8_code 17 = .ok (.ireturn, 1) := by decide +kernel
def fm_Reader_isLetter (a1 : Int) (w : fa_W) : Bool :=
  if fa_wr a1 < 97 then
  false
  else
  (if 122 < fa_wr a1 then
  false
  else
  true)
set_option maxHeartbeats 4000000 in
set_option maxRecDepth 100000 in
theorem c_Reader_isLetter {l : Launch} {D : va_G} {b : Nat} {aC : Nat → ClassId} {H0 : Heap} {N T : Nat} (hN : fa_NX ≤ N) (hT : fa_TX ≤ T) (a1 : Int)  (w : fa_W) (r : Bool) (hM : fm_Reader_isLetter a1 w = r) : fa_MC l D b aC H0 N T y_Reader_isLetter prog_6_method_8_code 1 ((Option.some Jvm.ClassFile.FieldType.boolean)) (0) [.int (fa_I a1)] w (some (.int (fa_I (fa_bi r)))) w := by
  refine fa_enter (lv := [(0, .int (fa_I a1))]) (by decide +kernel) (Nat.le_of_ble_eq_true rfl) rfl (fun hh hle hnm X => ?_)
  unfold fm_Reader_isLetter at hM
  refine g_iload_n X 0 rfl d_Reader_isLetter_0 ?_
  refine g_bipush X (by decide) d_Reader_isLetter_1 ?_
  refine g_icmp_lt X 16 d_Reader_isLetter_3 (by decide) (fun hc1 => ?_) (fun hc1 => ?_)
  · have hM := fa_if_t hM hc1
    refine g_iconst X d_Reader_isLetter_16 ?_
    subst hM
    exact g_zret X rfl d_Reader_isLetter_17
  · have hM := fa_if_f hM hc1
    refine g_iload_n X 0 rfl d_Reader_isLetter_6 ?_
    refine g_bipush X (by decide) d_Reader_isLetter_7 ?_
    refine g_icmp_gt X 16 d_Reader_isLetter_9 (by decide) (fun hc2 => ?_) (fun hc2 => ?_)
    · have hM := fa_if_t hM hc2
      refine g_iconst X d_Reader_isLetter_16 ?_
      subst hM
      exact g_zret X rfl d_Reader_isLetter_17
    · have hM := fa_if_f hM hc2
      refine g_iconst X d_Reader_isLetter_12 ?_
      refine g_goto X 17 d_Reader_isLetter_13 (by decide) ?_
      subst hM
      exact g_zret X rfl d_Reader_isLetter_17
theorem d_Reader_isKeyword_0 : decode prog_6_method_11_code 0 = .ok (.iload_n 0, 1) := by decide +kernel
theorem d_Reader_isKeyword_1 : decode prog_6_method_11_code 1 = .ok (.lookupswitch 69 #[(26982, 67), (26990, 67), (6714734, 67), (7103860, 67), (1684365668, 67), (1701606245, 67), (1952998766, 67)], 67) := by decide +kernel
theorem d_Reader_isKeyword_68 : decode prog_6_method_11_code 68 = .ok (.iconst 1, 1) := by decide +kernel
theorem d_Reader_isKeyword_69 : decode prog_6_method_11_code 69 = .ok (.ireturn, 1) := by decide +kernel
theorem d_Reader_isKeyword_70 : decode prog_6_method_11_code 70 = .ok (.iconst 0, 1) := by decide +kernel
theorem d_Reader_isKeyword_71 : decode prog_6_method_11_code 71 = .ok (.ireturn, 1) := by decide +kernel
def fm_Reader_isKeyword (a1 : Int) (w : fa_W) : Bool :=
  if fa_wr a1 = 26982 then
  true
  else
  if fa_wr a1 = 26990 then
  true
  else
  if fa_wr a1 = 6714734 then
  true
  else
  if fa_wr a1 = 7103860 then
  true
  else
  if fa_wr a1 = 1684365668 then
  true
  else
  if fa_wr a1 = 1701606245 then
  true
  else
  if fa_wr a1 = 1952998766 then
  true
  else
  false
set_option maxHeartbeats 4000000 in
set_option maxRecDepth 100000 in
theorem c_Reader_isKeyword {l : Launch} {D : va_G} {b : Nat} {aC : Nat → ClassId} {H0 : Heap} {N T : Nat} (hN : fa_NX ≤ N) (hT : fa_TX ≤ T) (a1 : Int)  (w : fa_W) (r : Bool) (hM : fm_Reader_isKeyword a1 w = r) : fa_MC l D b aC H0 N T y_Reader_isKeyword prog_6_method_11_code 1 ((Option.some Jvm.ClassFile.FieldType.boolean)) (0) [.int (fa_I a1)] w (some (.int (fa_I (fa_bi r)))) w := by
  refine fa_enter (lv := [(0, .int (fa_I a1))]) (by decide +kernel) (Nat.le_of_ble_eq_true rfl) rfl (fun hh hle hnm X => ?_)
  unfold fm_Reader_isKeyword at hM
  refine g_iload_n X 0 rfl d_Reader_isKeyword_0 ?_
  by_cases hc1 : fa_wr a1 = 26982
  · have hM := fa_if_t hM hc1
    refine g_lookup X (off := 67) 68 d_Reader_isKeyword_1 (by decide) (by rw [hc1]; rfl) (by decide) ?_
    refine g_iconst X d_Reader_isKeyword_68 ?_
    subst hM
    exact g_zret X rfl d_Reader_isKeyword_69
  have hM := fa_if_f hM hc1
  by_cases hc2 : fa_wr a1 = 26990
  · have hM := fa_if_t hM hc2
    refine g_lookup X (off := 67) 68 d_Reader_isKeyword_1 (by decide) (by rw [hc2]; rfl) (by decide) ?_
    refine g_iconst X d_Reader_isKeyword_68 ?_
    subst hM
    exact g_zret X rfl d_Reader_isKeyword_69
  have hM := fa_if_f hM hc2
  by_cases hc3 : fa_wr a1 = 6714734
  · have hM := fa_if_t hM hc3
    refine g_lookup X (off := 67) 68 d_Reader_isKeyword_1 (by decide) (by rw [hc3]; rfl) (by decide) ?_
    refine g_iconst X d_Reader_isKeyword_68 ?_
    subst hM
    exact g_zret X rfl d_Reader_isKeyword_69
  have hM := fa_if_f hM hc3
  by_cases hc4 : fa_wr a1 = 7103860
  · have hM := fa_if_t hM hc4
    refine g_lookup X (off := 67) 68 d_Reader_isKeyword_1 (by decide) (by rw [hc4]; rfl) (by decide) ?_
    refine g_iconst X d_Reader_isKeyword_68 ?_
    subst hM
    exact g_zret X rfl d_Reader_isKeyword_69
  have hM := fa_if_f hM hc4
  by_cases hc5 : fa_wr a1 = 1684365668
  · have hM := fa_if_t hM hc5
    refine g_lookup X (off := 67) 68 d_Reader_isKeyword_1 (by decide) (by rw [hc5]; rfl) (by decide) ?_
    refine g_iconst X d_Reader_isKeyword_68 ?_
    subst hM
    exact g_zret X rfl d_Reader_isKeyword_69
  have hM := fa_if_f hM hc5
  by_cases hc6 : fa_wr a1 = 1701606245
  · have hM := fa_if_t hM hc6
    refine g_lookup X (off := 67) 68 d_Reader_isKeyword_1 (by decide) (by rw [hc6]; rfl) (by decide) ?_
    refine g_iconst X d_Reader_isKeyword_68 ?_
    subst hM
    exact g_zret X rfl d_Reader_isKeyword_69
  have hM := fa_if_f hM hc6
  by_cases hc7 : fa_wr a1 = 1952998766
  · have hM := fa_if_t hM hc7
    refine g_lookup X (off := 67) 68 d_Reader_isKeyword_1 (by decide) (by rw [hc7]; rfl) (by decide) ?_
    refine g_iconst X d_Reader_isKeyword_68 ?_
    subst hM
    exact g_zret X rfl d_Reader_isKeyword_69
  have hM := fa_if_f hM hc7
  refine g_lookup X (off := 69) 70 d_Reader_isKeyword_1 (by decide) (by simp only [Op.lookupswitch.offset_cons, Op.lookupswitch.offset_nil]; rw [if_neg (fun q => hc1 q.symm), if_neg (fun q => hc2 q.symm), if_neg (fun q => hc3 q.symm), if_neg (fun q => hc4 q.symm), if_neg (fun q => hc5 q.symm), if_neg (fun q => hc6 q.symm), if_neg (fun q => hc7 q.symm)]) (by decide) ?_
  refine g_iconst X d_Reader_isKeyword_70 ?_
  subst hM
  exact g_zret X rfl d_Reader_isKeyword_71
theorem d_Reader_isDigit_0 : decode prog_6_method_9_code 0 = .ok (.iload_n 0, 1) := by decide +kernel
theorem d_Reader_isDigit_1 : decode prog_6_method_9_code 1 = .ok (.bipush 48, 2) := by decide +kernel
theorem d_Reader_isDigit_3 : decode prog_6_method_9_code 3 = .ok (.if_icmp .lt 13, 3) := by decide +kernel
theorem d_Reader_isDigit_6 : decode prog_6_method_9_code 6 = .ok (.iload_n 0, 1) := by decide +kernel
theorem d_Reader_isDigit_7 : decode prog_6_method_9_code 7 = .ok (.bipush 57, 2) := by decide +kernel
theorem d_Reader_isDigit_9 : decode prog_6_method_9_code 9 = .ok (.if_icmp .gt 7, 3) := by decide +kernel
theorem d_Reader_isDigit_12 : decode prog_6_method_9_code 12 = .ok (.iconst 1, 1) := by decide +kernel
theorem d_Reader_isDigit_13 : decode prog_6_method_9_code 13 = .ok (.goto 4, 3) := by decide +kernel
theorem d_Reader_isDigit_16 : decode prog_6_method_9_code 16 = .ok (.iconst 0, 1) := by decide +kernel
theorem d_Reader_isDigit_17 : decode prog_6_method_9_code 17 = .ok (.ireturn, 1) := by decide +kernel
def fm_Reader_isDigit (a1 : Int) (w : fa_W) : Bool :=
  if fa_wr a1 < 48 then
  false
  else
  (if 57 < fa_wr a1 then
  false
  else
  true)
set_option maxHeartbeats 4000000 in
set_option maxRecDepth 100000 in
theorem c_Reader_isDigit {l : Launch} {D : va_G} {b : Nat} {aC : Nat → ClassId} {H0 : Heap} {N T : Nat} (hN : fa_NX ≤ N) (hT : fa_TX ≤ T) (a1 : Int)  (w : fa_W) (r : Bool) (hM : fm_Reader_isDigit a1 w = r) : fa_MC l D b aC H0 N T y_Reader_isDigit prog_6_method_9_code 1 ((Option.some Jvm.ClassFile.FieldType.boolean)) (0) [.int (fa_I a1)] w (some (.int (fa_I (fa_bi r)))) w := by
  refine fa_enter (lv := [(0, .int (fa_I a1))]) (by decide +kernel) (Nat.le_of_ble_eq_true rfl) rfl (fun hh hle hnm X => ?_)
  unfold fm_Reader_isDigit at hM
  refine g_iload_n X 0 rfl d_Reader_isDigit_0 ?_
  refine g_bipush X (by decide) d_Reader_isDigit_1 ?_
  refine g_icmp_lt X 16 d_Reader_isDigit_3 (by decide) (fun hc1 => ?_) (fun hc1 => ?_)
  · have hM := fa_if_t hM hc1
    refine g_iconst X d_Reader_isDigit_16 ?_
    subst hM
    exact g_zret X rfl d_Reader_isDigit_17
  · have hM := fa_if_f hM hc1
    refine g_iload_n X 0 rfl d_Reader_isDigit_6 ?_
    refine g_bipush X (by decide) d_Reader_isDigit_7 ?_
    refine g_icmp_gt X 16 d_Reader_isDigit_9 (by decide) (fun hc2 => ?_) (fun hc2 => ?_)
    · have hM := fa_if_t hM hc2
      refine g_iconst X d_Reader_isDigit_16 ?_
      subst hM
      exact g_zret X rfl d_Reader_isDigit_17
    · have hM := fa_if_f hM hc2
      refine g_iconst X d_Reader_isDigit_12 ?_
      refine g_goto X 17 d_Reader_isDigit_13 (by decide) ?_
      subst hM
      exact g_zret X rfl d_Reader_isDigit_17
theorem d_Reader_signAt_0 : decode prog_6_method_10_code 0 = .ok (.iload_n 0, 1) := by decide +kernel
theorem d_Reader_signAt_1 : decode prog_6_method_10_code 1 = .ok (.lookupswitch 111 #[(-1, 109), (40, 107), (41, 107), (42, 107), (43, 107), (45, 107), (46, 107), (47, 107), (59, 107), (60, 107), (61, 107), (92, 107)], 107) := by decide +kernel
theorem d_Reader_signAt_108 : decode prog_6_method_10_code 108 = .ok (.iload_n 0, 1) := by decide +kernel
theorem d_Reader_signAt_109 : decode prog_6_method_10_code 109 = .ok (.ireturn, 1) := by decide +kernel
theorem d_Reader_signAt_110 : decode prog_6_method_10_code 110 = .ok (.iconst 0, 1) := by decide +kernel
theorem d_Reader_signAt_111 : decode prog_6_method_10_code 111 = .ok (.ireturn, 1) := by decide +kernel
theorem d_Reader_signAt_112 : decode prog_6_method_10_code 112 = .ok (.iconst 3, 1) := by decide +kernel
theorem d_Reader_signAt_113 : decode prog_6_method_10_code 113 = .ok (.ireturn, 1) := by decide +kernel
def fm_Reader_signAt (a1 : Int) (w : fa_W) : Int :=
  if fa_wr a1 = (-1) then
  0
  else
  if fa_wr a1 = 40 then
  a1
  else
  if fa_wr a1 = 41 then
  a1
  else
  if fa_wr a1 = 42 then
  a1
  else
  if fa_wr a1 = 43 then
  a1
  else
  if fa_wr a1 = 45 then
  a1
  else
  if fa_wr a1 = 46 then
  a1
  else
  if fa_wr a1 = 47 then
  a1
  else
  if fa_wr a1 = 59 then
  a1
  else
  if fa_wr a1 = 60 then
  a1
  else
  if fa_wr a1 = 61 then
  a1
  else
  if fa_wr a1 = 92 then
  a1
  else
  3
set_option maxHeartbeats 4000000 in
set_option maxRecDepth 100000 in
theorem c_Reader_signAt {l : Launch} {D : va_G} {b : Nat} {aC : Nat → ClassId} {H0 : Heap} {N T : Nat} (hN : fa_NX ≤ N) (hT : fa_TX ≤ T) (a1 : Int)  (w : fa_W) (r : Int) (hM : fm_Reader_signAt a1 w = r) : fa_MC l D b aC H0 N T y_Reader_signAt prog_6_method_10_code 1 ((Option.some Jvm.ClassFile.FieldType.int)) (0) [.int (fa_I a1)] w (some (.int (fa_I r))) w := by
  refine fa_enter (lv := [(0, .int (fa_I a1))]) (by decide +kernel) (Nat.le_of_ble_eq_true rfl) rfl (fun hh hle hnm X => ?_)
  unfold fm_Reader_signAt at hM
  refine g_iload_n X 0 rfl d_Reader_signAt_0 ?_
  by_cases hc1 : fa_wr a1 = (-1)
  · have hM := fa_if_t hM hc1
    refine g_lookup X (off := 109) 110 d_Reader_signAt_1 (by decide) (by rw [hc1]; rfl) (by decide) ?_
    refine g_iconst X d_Reader_signAt_110 ?_
    subst hM
    exact g_iret X d_Reader_signAt_111
  have hM := fa_if_f hM hc1
  by_cases hc2 : fa_wr a1 = 40
  · have hM := fa_if_t hM hc2
    refine g_lookup X (off := 107) 108 d_Reader_signAt_1 (by decide) (by rw [hc2]; rfl) (by decide) ?_
    refine g_iload_n X 0 rfl d_Reader_signAt_108 ?_
    subst hM
    exact g_iret X d_Reader_signAt_109
  have hM := fa_if_f hM hc2
  by_cases hc3 : fa_wr a1 = 41
  · have hM := fa_if_t hM hc3
    refine g_lookup X (off := 107) 108 d_Reader_signAt_1 (by decide) (by rw [hc3]; rfl) (by decide) ?_
    refine g_iload_n X 0 rfl d_Reader_signAt_108 ?_
    subst hM
    exact g_iret X d_Reader_signAt_109
  have hM := fa_if_f hM hc3
  by_cases hc4 : fa_wr a1 = 42
  · have hM := fa_if_t hM hc4
    refine g_lookup X (off := 107) 108 d_Reader_signAt_1 (by decide) (by rw [hc4]; rfl) (by decide) ?_
    refine g_iload_n X 0 rfl d_Reader_signAt_108 ?_
    subst hM
    exact g_iret X d_Reader_signAt_109
  have hM := fa_if_f hM hc4
  by_cases hc5 : fa_wr a1 = 43
  · have hM := fa_if_t hM hc5
    refine g_lookup X (off := 107) 108 d_Reader_signAt_1 (by decide) (by rw [hc5]; rfl) (by decide) ?_
    refine g_iload_n X 0 rfl d_Reader_signAt_108 ?_
    subst hM
    exact g_iret X d_Reader_signAt_109
  have hM := fa_if_f hM hc5
  by_cases hc6 : fa_wr a1 = 45
  · have hM := fa_if_t hM hc6
    refine g_lookup X (off := 107) 108 d_Reader_signAt_1 (by decide) (by rw [hc6]; rfl) (by decide) ?_
    refine g_iload_n X 0 rfl d_Reader_signAt_108 ?_
    subst hM
    exact g_iret X d_Reader_signAt_109
  have hM := fa_if_f hM hc6
  by_cases hc7 : fa_wr a1 = 46
  · have hM := fa_if_t hM hc7
    refine g_lookup X (off := 107) 108 d_Reader_signAt_1 (by decide) (by rw [hc7]; rfl) (by decide) ?_
    refine g_iload_n X 0 rfl d_Reader_signAt_108 ?_
    subst hM
    exact g_iret X d_Reader_signAt_109
  have hM := fa_if_f hM hc7
  by_cases hc8 : fa_wr a1 = 47
  · have hM := fa_if_t hM hc8
    refine g_lookup X (off := 107) 108 d_Reader_signAt_1 (by decide) (by rw [hc8]; rfl) (by decide) ?_
    refine g_iload_n X 0 rfl d_Reader_signAt_108 ?_
    subst hM
    exact g_iret X d_Reader_signAt_109
  have hM := fa_if_f hM hc8
  by_cases hc9 : fa_wr a1 = 59
  · have hM := fa_if_t hM hc9
    refine g_lookup X (off := 107) 108 d_Reader_signAt_1 (by decide) (by rw [hc9]; rfl) (by decide) ?_
    refine g_iload_n X 0 rfl d_Reader_signAt_108 ?_
    subst hM
    exact g_iret X d_Reader_signAt_109
  have hM := fa_if_f hM hc9
  by_cases hc10 : fa_wr a1 = 60
  · have hM := fa_if_t hM hc10
    refine g_lookup X (off := 107) 108 d_Reader_signAt_1 (by decide) (by rw [hc10]; rfl) (by decide) ?_
    refine g_iload_n X 0 rfl d_Reader_signAt_108 ?_
    subst hM
    exact g_iret X d_Reader_signAt_109
  have hM := fa_if_f hM hc10
  by_cases hc11 : fa_wr a1 = 61
  · have hM := fa_if_t hM hc11
    refine g_lookup X (off := 107) 108 d_Reader_signAt_1 (by decide) (by rw [hc11]; rfl) (by decide) ?_
    refine g_iload_n X 0 rfl d_Reader_signAt_108 ?_
    subst hM
    exact g_iret X d_Reader_signAt_109
  have hM := fa_if_f hM hc11
  by_cases hc12 : fa_wr a1 = 92
  · have hM := fa_if_t hM hc12
    refine g_lookup X (off := 107) 108 d_Reader_signAt_1 (by decide) (by rw [hc12]; rfl) (by decide) ?_
    refine g_iload_n X 0 rfl d_Reader_signAt_108 ?_
    subst hM
    exact g_iret X d_Reader_signAt_109
  have hM := fa_if_f hM hc12
  refine g_lookup X (off := 111) 112 d_Reader_signAt_1 (by decide) (by simp only [Op.lookupswitch.offset_cons, Op.lookupswitch.offset_nil]; rw [if_neg (fun q => hc1 q.symm), if_neg (fun q => hc2 q.symm), if_neg (fun q => hc3 q.symm), if_neg (fun q => hc4 q.symm), if_neg (fun q => hc5 q.symm), if_neg (fun q => hc6 q.symm), if_neg (fun q => hc7 q.symm), if_neg (fun q => hc8 q.symm), if_neg (fun q => hc9 q.symm), if_neg (fun q => hc10 q.symm), if_neg (fun q => hc11 q.symm), if_neg (fun q => hc12 q.symm)]) (by decide) ?_
  refine g_iconst X d_Reader_signAt_112 ?_
  subst hM
  exact g_iret X d_Reader_signAt_113
theorem d_Reader_advance_0 : decode prog_6_method_6_code 0 = .ok (.aload_n 0, 1) := by decide +kernel
theorem d_Reader_advance_1 : decode prog_6_method_6_code 1 = .ok (.getfield 40, 3) := by decide +kernel
theorem d_Reader_advance_4 : decode prog_6_method_6_code 4 = .ok (.iconst (-1), 1) := by decide +kernel
theorem d_Reader_advance_5 : decode prog_6_method_6_code 5 = .ok (.if_icmp .eq 4, 3) := by decide +kernel
theorem d_Reader_advance_8 : decode prog_6_method_6_code 8 = .ok (.return_, 1) := by decide +kernel
theorem d_Reader_advance_9 : decode prog_6_method_6_code 9 = .ok (.iconst 0, 1) := by decide +kernel
theorem d_Reader_advance_10 : decode prog_6_method_6_code 10 = .ok (.istore_n 1, 1) := by decide +kernel
theorem d_Reader_advance_11 : decode prog_6_method_6_code 11 = .ok (.iload_n 1, 1) := by decide +kernel
theorem d_Reader_advance_12 : decode prog_6_method_6_code 12 = .ok (.sipush 400, 3) := by decide +kernel
theorem d_Reader_advance_15 : decode prog_6_method_6_code 15 = .ok (.if_icmp .ge 36, 3) := by decide +kernel
theorem d_Reader_advance_18 : decode prog_6_method_6_code 18 = .ok (.aload_n 0, 1) := by decide +kernel
theorem d_Reader_advance_19 : decode prog_6_method_6_code 19 = .ok (.getfield 58, 3) := by decide +kernel
theorem d_Reader_advance_22 : decode prog_6_method_6_code 22 = .ok (.aload_n 0, 1) := by decide +kernel
theorem d_Reader_advance_23 : decode prog_6_method_6_code 23 = .ok (.getfield 27, 3) := by decide +kernel
theorem d_Reader_advance_26 : decode prog_6_method_6_code 26 = .ok (.invokevirtual 86, 3) := by decide +kernel
theorem d_Reader_advance_29 : decode prog_6_method_6_code 29 = .ok (.invokestatic 90, 3) := by decide +kernel
theorem d_Reader_advance_32 : decode prog_6_method_6_code 32 = .ok (.ifCond .eq 19, 3) := by decide +kernel
theorem d_Reader_advance_35 : decode prog_6_method_6_code 35 = .ok (.aload_n 0, 1) := by decide +kernel
theorem d_Reader_advance_36 : decode prog_6_method_6_code 36 = .ok (.dup, 1) := by decide +kernel
theorem d_Reader_advance_37 : decode prog_6_method_6_code 37 = .ok (.getfield 27, 3) := by decide +kernel
theorem d_Reader_advance_40 : decode prog_6_method_6_code 40 = .ok (.iconst 1, 1) := by decide +kernel
theorem d_Reader_advance_41 : decode prog_6_method_6_code 41 = .ok (.iadd, 1) := by decide +kernel
theorem d_Reader_advance_42 : decode prog_6_method_6_code 42 = .ok (.putfield 27, 3) := by decide +kernel
theorem d_Reader_advance_45 : decode prog_6_method_6_code 45 = .ok (.iinc 1 1, 3) := by decide +kernel
theorem d_Reader_advance_48 : decode prog_6_method_6_code 48 = .ok (.goto (-37), 3) := by decide +kernel
theorem d_Reader_advance_51 : decode prog_6_method_6_code 51 = .ok (.aload_n 0, 1) := by decide +kernel
theorem d_Reader_advance_52 : decode prog_6_method_6_code 52 = .ok (.aload_n 0, 1) := by decide +kernel
theorem d_Reader_advance_53 : decode prog_6_method_6_code 53 = .ok (.getfield 27, 3) := by decide +kernel
theorem d_Reader_advance_56 : decode prog_6_method_6_code 56 = .ok (.putfield 34, 3) := by decide +kernel
theorem d_Reader_advance_59 : decode prog_6_method_6_code 59 = .ok (.aload_n 0, 1) := by decide +kernel
theorem d_Reader_advance_60 : decode prog_6_method_6_code 60 = .ok (.iconst 0, 1) := by decide +kernel
theorem d_Reader_advance_61 : decode prog_6_method_6_code 61 = .ok (.putfield 37, 3) := by decide +kernel
theorem d_Reader_advance_64 : decode prog_6_method_6_code 64 = .ok (.iconst 0, 1) := by decide +kernel
theorem d_Reader_advance_65 : decode prog_6_method_6_code 65 = .ok (.istore_n 1, 1) := by decide +kernel
theorem d_Reader_advance_66 : decode prog_6_method_6_code 66 = .ok (.iload_n 1, 1) := by decide +kernel
theorem d_Reader_advance_67 : decode prog_6_method_6_code 67 = .ok (.sipush 400, 3) := by decide +kernel
theorem d_Reader_advance_70 : decode prog_6_method_6_code 70 = .ok (.if_icmp .ge 59, 3) := by decide +kernel
theorem d_Reader_advance_73 : decode prog_6_method_6_code 73 = .ok (.aload_n 0, 1) := by decide +kernel
theorem d_Reader_advance_74 : decode prog_6_method_6_code 74 = .ok (.getfield 58, 3) := by decide +kernel
theorem d_Reader_advance_77 : decode prog_6_method_6_code 77 = .ok (.aload_n 0, 1) := by decide +kernel
theorem d_Reader_advance_78 : decode prog_6_method_6_code 78 = .ok (.getfield 27, 3) := by decide +kernel
theorem d_Reader_advance_81 : decode prog_6_method_6_code 81 = .ok (.invokevirtual 86, 3) := by decide +kernel
theorem d_Reader_advance_84 : decode prog_6_method_6_code 84 = .ok (.invokestatic 94, 3) := by decide +kernel
theorem d_Reader_advance_87 : decode prog_6_method_6_code 87 = .ok (.ifCond .eq 42, 3) := by decide +kernel
theorem d_Reader_advance_90 : decode prog_6_method_6_code 90 = .ok (.aload_n 0, 1) := by decide +kernel
theorem d_Reader_advance_91 : decode prog_6_method_6_code 91 = .ok (.aload_n 0, 1) := by decide +kernel
theorem d_Reader_advance_92 : decode prog_6_method_6_code 92 = .ok (.getfield 37, 3) := by decide +kernel
theorem d_Reader_advance_95 : decode prog_6_method_6_code 95 = .ok (.bipush 8, 2) := by decide +kernel
theorem d_Reader_advance_97 : decode prog_6_method_6_code 97 = .ok (.ishl, 1) := by decide +kernel
theorem d_Reader_advance_98 : decode prog_6_method_6_code 98 = .ok (.aload_n 0, 1) := by decide +kernel
theorem d_Reader_advance_99 : decode prog_6_method_6_code 99 = .ok (.getfield 58, 3) := by decide +kernel
theorem d_Reader_advance_102 : decode prog_6_method_6_code 102 = .ok (.aload_n 0, 1) := by decide +kernel
theorem d_Reader_advance_103 : decode prog_6_method_6_code 103 = .ok (.getfield 27, 3) := by decide +kernel
theorem d_Reader_advance_106 : decode prog_6_method_6_code 106 = .ok (.invokevirtual 86, 3) := by decide +kernel
theorem d_Reader_advance_109 : decode prog_6_method_6_code 109 = .ok (.ior, 1) := by decide +kernel
theorem d_Reader_advance_110 : decode prog_6_method_6_code 110 = .ok (.putfield 37, 3) := by decide +kernel
theorem d_Reader_advance_113 : decode prog_6_method_6_code 113 = .ok (.aload_n 0, 1) := by decide +kernel
theorem d_Reader_advance_114 : decode prog_6_method_6_code 114 = .ok (.dup, 1) := by decide +kernel
theorem d_Reader_advance_115 : decode prog_6_method_6_code 115 = .ok (.getfield 27, 3) := by decide +kernel
theorem d_Reader_advance_118 : decode prog_6_method_6_code 118 = .ok (.iconst 1, 1) := by decide +kernel
theorem d_Reader_advance_119 : decode prog_6_method_6_code 119 = .ok (.iadd, 1) := by decide +kernel
theorem d_Reader_advance_120 : decode prog_6_method_6_code 120 = .ok (.putfield 27, 3) := by decide +kernel
theorem d_Reader_advance_123 : decode prog_6_method_6_code 123 = .ok (.iinc 1 1, 3) := by decide +kernel
theorem d_Reader_advance_126 : decode prog_6_method_6_code 126 = .ok (.goto (-60), 3) := by decide +kernel
theorem d_Reader_advance_129 : decode prog_6_method_6_code 129 = .ok (.aload_n 0, 1) := by decide +kernel
theorem d_Reader_advance_130 : decode prog_6_method_6_code 130 = .ok (.getfield 27, 3) := by decide +kernel
theorem d_Reader_advance_133 : decode prog_6_method_6_code 133 = .ok (.aload_n 0, 1) := by decide +kernel
theorem d_Reader_advance_134 : decode prog_6_method_6_code 134 = .ok (.getfield 34, 3) := by decide +kernel
theorem d_Reader_advance_137 : decode prog_6_method_6_code 137 = .ok (.if_icmp .le 28, 3) := by decide +kernel
theorem d_Reader_advance_140 : decode prog_6_method_6_code 140 = .ok (.aload_n 0, 1) := by decide +kernel
theorem d_Reader_advance_141 : decode prog_6_method_6_code 141 = .ok (.aload_n 0, 1) := by decide +kernel
theorem d_Reader_advance_142 : decode prog_6_method_6_code 142 = .ok (.getfield 37, 3) := by decide +kernel
theorem d_Reader_advance_145 : decode prog_6_method_6_code 145 = .ok (.invokestatic 97, 3) := by decide +kernel
theorem d_Reader_advance_148 : decode prog_6_method_6_code 148 = .ok (.ifCond .eq 10, 3) := by decide +kernel
theorem d_Reader_advance_151 : decode prog_6_method_6_code 151 = .ok (.aload_n 0, 1) := by decide +kernel
theorem d_Reader_advance_152 : decode prog_6_method_6_code 152 = .ok (.getfield 37, 3) := by decide +kernel
theorem d_Reader_advance_155 : decode prog_6_method_6_code 155 = .ok (.goto 4, 3) := by decide +kernel
theorem d_Reader_advance_158 : decode prog_6_method_6_code 158 = .ok (.iconst 2, 1) := by decide +kernel
theorem d_Reader_advance_159 : decode prog_6_method_6_code 159 = .ok (.putfield 31, 3) := by decide +kernel
theorem d_Reader_advance_162 : decode prog_6_method_6_code 162 = .ok (.goto 76, 3) := by decide +kernel
theorem d_Reader_advance_165 : decode prog_6_method_6_code 165 = .ok (.iconst 0, 1) := by decide +kernel
theorem d_Reader_advance_166 : decode prog_6_method_6_code 166 = .ok (.istore_n 1, 1) := by decide +kernel
theorem d_Reader_advance_167 : decode prog_6_method_6_code 167 = .ok (.iload_n 1, 1) := by decide +kernel
theorem d_Reader_advance_168 : decode prog_6_method_6_code 168 = .ok (.sipush 400, 3) := by decide +kernel
theorem d_Reader_advance_171 : decode prog_6_method_6_code 171 = .ok (.if_icmp .ge 62, 3) := by decide +kernel
theorem d_Reader_advance_174 : decode prog_6_method_6_code 174 = .ok (.aload_n 0, 1) := by decide +kernel
theorem d_Reader_advance_175 : decode prog_6_method_6_code 175 = .ok (.getfield 58, 3) := by decide +kernel
theorem d_Reader_advance_178 : decode prog_6_method_6_code 178 = .ok (.aload_n 0, 1) := by decide +kernel
theorem d_Reader_advance_179 : decode prog_6_method_6_code 179 = .ok (.getfield 27, 3) := by decide +kernel
theorem d_Reader_advance_182 : decode prog_6_method_6_code 182 = .ok (.invokevirtual 86, 3) := by decide +kernel
theorem d_Reader_advance_185 : decode prog_6_method_6_code 185 = .ok (.invokestatic 100, 3) := by decide +kernel
theorem d_Reader_advance_188 : decode prog_6_method_6_code 188 = .ok (.ifCond .eq 45, 3) := by decide +kernel
theorem d_Reader_advance_191 : decode prog_6_method_6_code 191 = .ok (.aload_n 0, 1) := by decide +kernel
theorem d_Reader_advance_192 : decode prog_6_method_6_code 192 = .ok (.aload_n 0, 1) := by decide +kernel
theorem d_Reader_advance_193 : decode prog_6_method_6_code 193 = .ok (.getfield 37, 3) := by decide +kernel
theorem d_Reader_advance_196 : decode prog_6_method_6_code 196 = .ok (.bipush 10, 2) := by decide +kernel
theorem d_Reader_advance_198 : decode prog_6_method_6_code 198 = .ok (.imul, 1) := by decide +kernel
theorem d_Reader_advance_199 : decode prog_6_method_6_code 199 = .ok (.aload_n 0, 1) := by decide +kernel
theorem d_Reader_advance_200 : decode prog_6_method_6_code 200 = .ok (.getfield 58, 3) := by decide +kernel
theorem d_Reader_advance_203 : decode prog_6_method_6_code 203 = .ok (.aload_n 0, 1) := by decide +kernel
theorem d_Reader_advance_204 : decode prog_6_method_6_code 204 = .ok (.getfield 27, 3) := by decide +kernel
theorem d_Reader_advance_207 : decode prog_6_method_6_code 207 = .ok (.invokevirtual 86, 3) := by decide +kernel
theorem d_Reader_advance_210 : decode prog_6_method_6_code 210 = .ok (.bipush 48, 2) := by decide +kernel
theorem d_Reader_advance_212 : decode prog_6_method_6_code 212 = .ok (.isub, 1) := by decide +kernel
theorem d_Reader_advance_213 : decode prog_6_method_6_code 213 = .ok (.iadd, 1) := by decide +kernel
theorem d_Reader_advance_214 : decode prog_6_method_6_code 214 = .ok (.putfield 37, 3) := by decide +kernel
theorem d_Reader_advance_217 : decode prog_6_method_6_code 217 = .ok (.aload_n 0, 1) := by decide +kernel
theorem d_Reader_advance_218 : decode prog_6_method_6_code 218 = .ok (.dup, 1) := by decide +kernel
theorem d_Reader_advance_219 : decode prog_6_method_6_code 219 = .ok (.getfield 27, 3) := by decide +kernel
theorem d_Reader_advance_222 : decode prog_6_method_6_code 222 = .ok (.iconst 1, 1) := by decide +kernel
theorem d_Reader_advance_223 : decode prog_6_method_6_code 223 = .ok (.iadd, 1) := by decide +kernel
theorem d_Reader_advance_224 : decode prog_6_method_6_code 224 = .ok (.putfield 27, 3) := by decide +kernel
theorem d_Reader_advance_227 : decode prog_6_method_6_code 227 = .ok (.iinc 1 1, 3) := by decide +kernel
theorem d_Reader_advance_230 : decode prog_6_method_6_code 230 = .ok (.goto (-63), 3) := by decide +kernel
theorem d_Reader_advance_233 : decode prog_6_method_6_code 233 = .ok (.aload_n 0, 1) := by decide +kernel
theorem d_Reader_advance_234 : decode prog_6_method_6_code 234 = .ok (.iconst 1, 1) := by decide +kernel
theorem d_Reader_advance_235 : decode prog_6_method_6_code 235 = .ok (.putfield 31, 3) := by decide +kernel
theorem d_Reader_advance_238 : decode prog_6_method_6_code 238 = .ok (.aload_n 0, 1) := by decide +kernel
theorem d_Reader_advance_239 : decode prog_6_method_6_code 239 = .ok (.getfield 27, 3) := by decide +kernel
theorem d_Reader_advance_242 : decode prog_6_method_6_code 242 = .ok (.aload_n 0, 1) := by decide +kernel
theorem d_Reader_advance_243 : decode prog_6_method_6_code 243 = .ok (.getfield 34, 3) := by decide +kernel
theorem d_Reader_advance_246 : decode prog_6_method_6_code 246 = .ok (.if_icmp .ne 34, 3) := by decide +kernel
theorem d_Reader_advance_249 : decode prog_6_method_6_code 249 = .ok (.aload_n 0, 1) := by decide +kernel
theorem d_Reader_advance_250 : decode prog_6_method_6_code 250 = .ok (.aload_n 0, 1) := by decide +kernel
theorem d_Reader_advance_251 : decode prog_6_method_6_code 251 = .ok (.getfield 58, 3) := by decide +kernel
theorem d_Reader_advance_254 : decode prog_6_method_6_code 254 = .ok (.aload_n 0, 1) := by decide +kernel
theorem d_Reader_advance_255 : decode prog_6_method_6_code 255 = .ok (.getfield 27, 3) := by decide +kernel
theorem d_Reader_advance_258 : decode prog_6_method_6_code 258 = .ok (.invokevirtual 86, 3) := by decide +kernel
theorem d_Reader_advance_261 : decode prog_6_method_6_code 261 = .ok (.invokestatic 103, 3) := by decide +kernel
theorem d_Reader_advance_264 : decode prog_6_method_6_code 264 = .ok (.putfield 31, 3) := by decide +kernel
theorem d_Reader_advance_267 : decode prog_6_method_6_code 267 = .ok (.aload_n 0, 1) := by decide +kernel
theorem d_Reader_advance_268 : decode prog_6_method_6_code 268 = .ok (.dup, 1) := by decide +kernel
theorem d_Reader_advance_269 : decode prog_6_method_6_code 269 = .ok (.getfield 27, 3) := by decide +kernel
theorem d_Reader_advance_272 : decode prog_6_method_6_code 272 = .ok (.iconst 1, 1) := by decide +kernel
theorem d_Reader_advance_273 : decode prog_6_method_6_code 273 = .ok (.iadd, 1) := by decide +kernel
theorem d_Reader_advance_274 : decode prog_6_method_6_code 274 = .ok (.putfield 27, 3) := by decide +kernel
theorem d_Reader_advance_277 : decode prog_6_method_6_code 277 = .ok (.goto 21, 3) := by decide +kernel
theorem d_Reader_advance_280 : decode prog_6_method_6_code 280 = .ok (.aload_n 0, 1) := by decide +kernel
theorem d_Reader_advance_281 : decode prog_6_method_6_code 281 = .ok (.getfield 27, 3) := by decide +kernel
theorem d_Reader_advance_284 : decode prog_6_method_6_code 284 = .ok (.aload_n 0, 1) := by decide +kernel
theorem d_Reader_advance_285 : decode prog_6_method_6_code 285 = .ok (.getfield 34, 3) := by decide +kernel
theorem d_Reader_advance_288 : decode prog_6_method_6_code 288 = .ok (.isub, 1) := by decide +kernel
theorem d_Reader_advance_289 : decode prog_6_method_6_code 289 = .ok (.iconst 4, 1) := by decide +kernel
theorem d_Reader_advance_290 : decode prog_6_method_6_code 290 = .ok (.if_icmp .le 8, 3) := by decide +kernel
theorem d_Reader_advance_293 : decode prog_6_method_6_code 293 = .ok (.aload_n 0, 1) := by decide +kernel
theorem d_Reader_advance_294 : decode prog_6_method_6_code 294 = .ok (.iconst 3, 1) := by decide +kernel
theorem d_Reader_advance_295 : decode prog_6_method_6_code 295 = .ok (.putfield 31, 3) := by decide +kernel
theorem d_Reader_advance_298 : decode prog_6_method_6_code 298 = .ok (.return_, 1) := by decide +kernel
def fm_Reader_advance_j238 (w : fa_W) : Option fa_W :=
  if fa_wr (w 7 3) = fa_wr (w 7 5) then
  (fa_let (fa_st w 7 4 (fm_Reader_signAt (fr_at 1 (w 7 3) w) w)) fun w14 =>
  fa_let (fa_st w14 7 3 ((w14 7 3) + 1)) fun w15 =>
  some w15)
  else
  (if fa_wr ((w 7 3) - (w 7 5)) ≤ 4 then
  some w
  else
  (fa_let (fa_st w 7 4 3) fun w11 =>
  some w11))
set_option maxHeartbeats 4000000 in
set_option maxRecDepth 100000 in
theorem c_Reader_advance_j238 {p : Program} {l : Launch} {e : Env} {s : State} {m : MethodId} {args : Array Value} {below : List Frame} {meth : Method} {c : Code} {hh : Nat} {D : va_G} {b : Nat} {aC : Nat → ClassId} {H0 : Heap} {N T : Nat} (X : fa_GX p s m args meth c prog_6_method_6_code 2 ((Option.none : Option Jvm.ClassFile.FieldType)) y_Reader_advance.cls D b aC) (hle : 1 ≤ hh) (hN : fa_NX ≤ N) (hT : fa_TX ≤ T) {r : fa_W}  : ∀ (w : fa_W) (_ : fm_Reader_advance_j238 w = some r), fa_GJ p l e (fa_rm hh) s m args below meth c 0 0 (MQ below (fa_Qc D b aC H0 N T (none) r) args s 0 0 (fun q => b ≤ q)) D b aC H0 N T 2 w 238 [(0, .ref (b + 7))] [] := by
  intro w hM
  unfold fm_Reader_advance_j238 at hM
  refine g_aload_n X 0 rfl d_Reader_advance_238 ?_
  refine g_get X ck_5 fo_7 (fa_xn fo_7 (by decide) hN) 3 (by decide) wd_154 rfl (fa_fvI rfl) d_Reader_advance_239 ?_
  refine g_aload_n X 0 rfl d_Reader_advance_242 ?_
  refine g_get X ck_5 fo_7 (fa_xn fo_7 (by decide) hN) 5 (by decide) wd_156 rfl (fa_fvI rfl) d_Reader_advance_243 ?_
  refine g_icmp_ne X 280 d_Reader_advance_246 (by decide) (fun hc9 => ?_) (fun hc9 => ?_)
  · have hM := fa_if_f hM hc9
    refine g_aload_n X 0 rfl d_Reader_advance_280 ?_
    refine g_get X ck_5 fo_7 (fa_xn fo_7 (by decide) hN) 3 (by decide) wd_154 rfl (fa_fvI rfl) d_Reader_advance_281 ?_
    refine g_aload_n X 0 rfl d_Reader_advance_284 ?_
    refine g_get X ck_5 fo_7 (fa_xn fo_7 (by decide) hN) 5 (by decide) wd_156 rfl (fa_fvI rfl) d_Reader_advance_285 ?_
    refine g_isub X d_Reader_advance_288 ?_
    refine g_iconst X d_Reader_advance_289 ?_
    refine g_icmp_le X 298 d_Reader_advance_290 (by decide) (fun hc10 => ?_) (fun hc10 => ?_)
    · have hM := fa_if_t hM hc10
      cases hM
      exact g_vret X d_Reader_advance_298
    · have hM := fa_if_f hM hc10
      refine g_aload_n X 0 rfl d_Reader_advance_293 ?_
      refine g_iconst X d_Reader_advance_294 ?_
      refine g_put X ck_5 fo_7 (fa_xn fo_7 (by decide) hN) 4 (z := 3) (by decide) wd_155 rfl (fa_fvI' rfl) rfl rfl rfl d_Reader_advance_295 (fun w11 ew11 => ?_)
      have hM := fa_let_to hM ew11
      cases hM
      exact g_vret X d_Reader_advance_298
  · have hM := fa_if_t hM hc9
    refine g_aload_n X 0 rfl d_Reader_advance_249 ?_
    refine g_aload_n X 0 rfl d_Reader_advance_250 ?_
    refine g_get X ck_5 fo_7 (fa_xn fo_7 (by decide) hN) 1 (by decide) wd_152 rfl (fr_7_1 rfl hT) d_Reader_advance_251 ?_
    refine g_aload_n X 0 rfl d_Reader_advance_254 ?_
    refine g_get X ck_5 fo_7 (fa_xn fo_7 (by decide) hN) 3 (by decide) wd_154 rfl (fa_fvI rfl) d_Reader_advance_255 ?_
    refine g_callV_i X ck_6 fo_1 (fa_xn fo_1 (by decide) hN) rfl mi_Row_at (ct_Row_at 1 (w 7 3) (fa_ro fo_1 hN hT) w _ rfl) wd_977 rfl (Nat.le_trans (Nat.le_of_ble_eq_true rfl) hle) (st := [.ref (b + 7)]) (Nat.le_of_ble_eq_true rfl) rfl d_Reader_advance_258 ?_
    refine g_callS_i X mi_Reader_signAt (c_Reader_signAt hN hT (fr_at 1 (w 7 3) w) w _ rfl) wd_990 rfl (Nat.le_trans (Nat.le_of_ble_eq_true rfl) hle) (st := [.ref (b + 7)]) (Nat.le_of_ble_eq_true rfl) rfl d_Reader_advance_261 ?_
    refine g_put X ck_5 fo_7 (fa_xn fo_7 (by decide) hN) 4 (z := (fm_Reader_signAt (fr_at 1 (w 7 3) w) w)) (by decide) wd_155 rfl (fa_fvI' rfl) rfl rfl rfl d_Reader_advance_264 (fun w14 ew14 => ?_)
    have hM := fa_let_to hM ew14
    refine g_aload_n X 0 rfl d_Reader_advance_267 ?_
    refine g_dup X rfl d_Reader_advance_268 ?_
    refine g_get X ck_5 fo_7 (fa_xn fo_7 (by decide) hN) 3 (by decide) wd_154 rfl (fa_fvI rfl) d_Reader_advance_269 ?_
    refine g_iconst X d_Reader_advance_272 ?_
    refine g_iadd X d_Reader_advance_273 ?_
    refine g_put X ck_5 fo_7 (fa_xn fo_7 (by decide) hN) 3 (z := ((w14 7 3) + 1)) (by decide) wd_154 rfl (fa_fvI' rfl) rfl rfl rfl d_Reader_advance_274 (fun w15 ew15 => ?_)
    have hM := fa_let_to hM ew15
    refine g_goto X 298 d_Reader_advance_277 (by decide) ?_
    cases hM
    exact g_vret X d_Reader_advance_298
def fm_Reader_advance_j233 (w : fa_W) : Option fa_W :=
  fa_let (fa_st w 7 4 1) fun w8 =>
  fm_Reader_advance_j238 w8
set_option maxHeartbeats 4000000 in
set_option maxRecDepth 100000 in
theorem c_Reader_advance_j233 {p : Program} {l : Launch} {e : Env} {s : State} {m : MethodId} {args : Array Value} {below : List Frame} {meth : Method} {c : Code} {hh : Nat} {D : va_G} {b : Nat} {aC : Nat → ClassId} {H0 : Heap} {N T : Nat} (X : fa_GX p s m args meth c prog_6_method_6_code 2 ((Option.none : Option Jvm.ClassFile.FieldType)) y_Reader_advance.cls D b aC) (hle : 1 ≤ hh) (hN : fa_NX ≤ N) (hT : fa_TX ≤ T) {r : fa_W}  : ∀ (w : fa_W) (_ : fm_Reader_advance_j233 w = some r), fa_GJ p l e (fa_rm hh) s m args below meth c 0 0 (MQ below (fa_Qc D b aC H0 N T (none) r) args s 0 0 (fun q => b ≤ q)) D b aC H0 N T 2 w 233 [(0, .ref (b + 7))] [] := by
  intro w hM
  unfold fm_Reader_advance_j233 at hM
  refine g_aload_n X 0 rfl d_Reader_advance_233 ?_
  refine g_iconst X d_Reader_advance_234 ?_
  refine g_put X ck_5 fo_7 (fa_xn fo_7 (by decide) hN) 4 (z := 1) (by decide) wd_155 rfl (fa_fvI' rfl) rfl rfl rfl d_Reader_advance_235 (fun w8 ew8 => ?_)
  have hM := fa_let_to hM ew8
  exact g_lv [0] rfl (c_Reader_advance_j238 X hle hN hT    _ hM)
def fm_Reader_advance_l167  : Nat → Int → fa_W → Option fa_W
  | 0, _, _ => none
  | n + 1, x1, w => if 400 ≤ fa_wr x1 then
  fm_Reader_advance_j233 w
  else
  (if fm_Reader_isDigit (fr_at 1 (w 7 3) w) w = true then
  (fa_let (fa_st w 7 6 (((w 7 6) * 10) + ((fr_at 1 (w 7 3) w) - 48))) fun w20 =>
  fa_let (fa_st w20 7 3 ((w20 7 3) + 1)) fun w21 =>
  fa_let (x1 + 1) fun x1_22 =>
  fm_Reader_advance_l167 n x1_22 w21)
  else
  fm_Reader_advance_j233 w)
set_option maxHeartbeats 4000000 in
set_option maxRecDepth 100000 in
theorem c_Reader_advance_l167 {p : Program} {l : Launch} {e : Env} {s : State} {m : MethodId} {args : Array Value} {below : List Frame} {meth : Method} {c : Code} {hh : Nat} {D : va_G} {b : Nat} {aC : Nat → ClassId} {H0 : Heap} {N T : Nat} (X : fa_GX p s m args meth c prog_6_method_6_code 2 ((Option.none : Option Jvm.ClassFile.FieldType)) y_Reader_advance.cls D b aC) (hle : 1 ≤ hh) (hN : fa_NX ≤ N) (hT : fa_TX ≤ T) {r : fa_W}  : ∀ (n : Nat) (x1 : Int) (w : fa_W), fm_Reader_advance_l167 n x1 w = some r → fa_GJ p l e (fa_rm hh) s m args below meth c 0 0 (MQ below (fa_Qc D b aC H0 N T (none) r) args s 0 0 (fun q => b ≤ q)) D b aC H0 N T 2 w 167 [(0, .ref (b + 7)), (1, .int (fa_I x1))] [] := by
  intro n
  induction n with
  | zero => intro x1 w hM; exact fa_no hM
  | succ n ih =>
    intro x1 w hM
    rw [fm_Reader_advance_l167] at hM
    refine g_iload_n X 1 rfl d_Reader_advance_167 ?_
    refine g_sipush X (by decide) d_Reader_advance_168 ?_
    refine g_icmp_ge X 233 d_Reader_advance_171 (by decide) (fun hc7 => ?_) (fun hc7 => ?_)
    · have hM := fa_if_t hM hc7
      exact g_lv [0] rfl (c_Reader_advance_j233 X hle hN hT    _ hM)
    · have hM := fa_if_f hM hc7
      refine g_aload_n X 0 rfl d_Reader_advance_174 ?_
      refine g_get X ck_5 fo_7 (fa_xn fo_7 (by decide) hN) 1 (by decide) wd_152 rfl (fr_7_1 rfl hT) d_Reader_advance_175 ?_
      refine g_aload_n X 0 rfl d_Reader_advance_178 ?_
      refine g_get X ck_5 fo_7 (fa_xn fo_7 (by decide) hN) 3 (by decide) wd_154 rfl (fa_fvI rfl) d_Reader_advance_179 ?_
      refine g_callV_i X ck_6 fo_1 (fa_xn fo_1 (by decide) hN) rfl mi_Row_at (ct_Row_at 1 (w 7 3) (fa_ro fo_1 hN hT) w _ rfl) wd_977 rfl (Nat.le_trans (Nat.le_of_ble_eq_true rfl) hle) (st := []) (Nat.le_of_ble_eq_true rfl) rfl d_Reader_advance_182 ?_
      refine g_callS_i X mi_Reader_isDigit (c_Reader_isDigit hN hT (fr_at 1 (w 7 3) w) w _ rfl) wd_987 rfl (Nat.le_trans (Nat.le_of_ble_eq_true rfl) hle) (st := []) (Nat.le_of_ble_eq_true rfl) rfl d_Reader_advance_185 ?_
      refine g_ifb_eq X 233 d_Reader_advance_188 (by decide) (fun hc18 => ?_) (fun hc18 => ?_)
      · have hM := fa_ifb_f hM hc18
        exact g_lv [0] rfl (c_Reader_advance_j233 X hle hN hT    _ hM)
      · have hM := fa_ifb_t hM hc18
        refine g_aload_n X 0 rfl d_Reader_advance_191 ?_
        refine g_aload_n X 0 rfl d_Reader_advance_192 ?_
        refine g_get X ck_5 fo_7 (fa_xn fo_7 (by decide) hN) 6 (by decide) wd_157 rfl (fa_fvI rfl) d_Reader_advance_193 ?_
        refine g_bipush X (by decide) d_Reader_advance_196 ?_
        refine g_imul X d_Reader_advance_198 ?_
        refine g_aload_n X 0 rfl d_Reader_advance_199 ?_
        refine g_get X ck_5 fo_7 (fa_xn fo_7 (by decide) hN) 1 (by decide) wd_152 rfl (fr_7_1 rfl hT) d_Reader_advance_200 ?_
        refine g_aload_n X 0 rfl d_Reader_advance_203 ?_
        refine g_get X ck_5 fo_7 (fa_xn fo_7 (by decide) hN) 3 (by decide) wd_154 rfl (fa_fvI rfl) d_Reader_advance_204 ?_
        refine g_callV_i X ck_6 fo_1 (fa_xn fo_1 (by decide) hN) rfl mi_Row_at (ct_Row_at 1 (w 7 3) (fa_ro fo_1 hN hT) w _ rfl) wd_977 rfl (Nat.le_trans (Nat.le_of_ble_eq_true rfl) hle) (st := [.int (fa_I ((w 7 6) * 10)), .ref (b + 7)]) (Nat.le_of_ble_eq_true rfl) rfl d_Reader_advance_207 ?_
        refine g_bipush X (by decide) d_Reader_advance_210 ?_
        refine g_isub X d_Reader_advance_212 ?_
        refine g_iadd X d_Reader_advance_213 ?_
        refine g_put X ck_5 fo_7 (fa_xn fo_7 (by decide) hN) 6 (z := (((w 7 6) * 10) + ((fr_at 1 (w 7 3) w) - 48))) (by decide) wd_157 rfl (fa_fvI' rfl) rfl rfl rfl d_Reader_advance_214 (fun w20 ew20 => ?_)
        have hM := fa_let_to hM ew20
        refine g_aload_n X 0 rfl d_Reader_advance_217 ?_
        refine g_dup X rfl d_Reader_advance_218 ?_
        refine g_get X ck_5 fo_7 (fa_xn fo_7 (by decide) hN) 3 (by decide) wd_154 rfl (fa_fvI rfl) d_Reader_advance_219 ?_
        refine g_iconst X d_Reader_advance_222 ?_
        refine g_iadd X d_Reader_advance_223 ?_
        refine g_put X ck_5 fo_7 (fa_xn fo_7 (by decide) hN) 3 (z := ((w20 7 3) + 1)) (by decide) wd_154 rfl (fa_fvI' rfl) rfl rfl rfl d_Reader_advance_224 (fun w21 ew21 => ?_)
        have hM := fa_let_to hM ew21
        refine g_iinc X 1 (fun x1_22 => [(1, .int (fa_I x1_22)), (0, .ref (b + 7))]) d_Reader_advance_227 rfl (by decide) (fun _ => rfl) (fun x1_22 ex1_22 => ?_)
        have hM := fa_let_to hM ex1_22
        refine g_goto X 167 d_Reader_advance_230 (by decide) ?_
        exact g_lv [1, 0] rfl (ih _ _ hM)
def fm_Reader_advance_j159 (s0 : Int) (w : fa_W) : Option fa_W :=
  fa_let (fa_st w 7 4 s0) fun w25 =>
  fm_Reader_advance_j238 w25
set_option maxHeartbeats 4000000 in
set_option maxRecDepth 100000 in
theorem c_Reader_advance_j159 {p : Program} {l : Launch} {e : Env} {s : State} {m : MethodId} {args : Array Value} {below : List Frame} {meth : Method} {c : Code} {hh : Nat} {D : va_G} {b : Nat} {aC : Nat → ClassId} {H0 : Heap} {N T : Nat} (X : fa_GX p s m args meth c prog_6_method_6_code 2 ((Option.none : Option Jvm.ClassFile.FieldType)) y_Reader_advance.cls D b aC) (hle : 1 ≤ hh) (hN : fa_NX ≤ N) (hT : fa_TX ≤ T) {r : fa_W}  : ∀ (s0 : Int) (w : fa_W) (_ : fm_Reader_advance_j159 s0 w = some r), fa_GJ p l e (fa_rm hh) s m args below meth c 0 0 (MQ below (fa_Qc D b aC H0 N T (none) r) args s 0 0 (fun q => b ≤ q)) D b aC H0 N T 2 w 159 [(0, .ref (b + 7))] [.int (fa_I s0), .ref (b + 7)] := by
  intro s0 w hM
  unfold fm_Reader_advance_j159 at hM
  refine g_put X ck_5 fo_7 (fa_xn fo_7 (by decide) hN) 4 (z := s0) (by decide) wd_155 rfl (fa_fvI' rfl) rfl rfl rfl d_Reader_advance_159 (fun w25 ew25 => ?_)
  have hM := fa_let_to hM ew25
  refine g_goto X 238 d_Reader_advance_162 (by decide) ?_
  exact g_lv [0] rfl (c_Reader_advance_j238 X hle hN hT    _ hM)
def fm_Reader_advance_j129 (w : fa_W) : Option fa_W :=
  if fa_wr (w 7 3) ≤ fa_wr (w 7 5) then
  fm_Reader_advance_l167 fa_FU 0 w
  else
  (if fm_Reader_isKeyword (w 7 6) w = true then
  fm_Reader_advance_j159 (w 7 6) w
  else
  fm_Reader_advance_j159 2 w)
set_option maxHeartbeats 4000000 in
set_option maxRecDepth 100000 in
theorem c_Reader_advance_j129 {p : Program} {l : Launch} {e : Env} {s : State} {m : MethodId} {args : Array Value} {below : List Frame} {meth : Method} {c : Code} {hh : Nat} {D : va_G} {b : Nat} {aC : Nat → ClassId} {H0 : Heap} {N T : Nat} (X : fa_GX p s m args meth c prog_6_method_6_code 2 ((Option.none : Option Jvm.ClassFile.FieldType)) y_Reader_advance.cls D b aC) (hle : 1 ≤ hh) (hN : fa_NX ≤ N) (hT : fa_TX ≤ T) {r : fa_W}  : ∀ (w : fa_W) (_ : fm_Reader_advance_j129 w = some r), fa_GJ p l e (fa_rm hh) s m args below meth c 0 0 (MQ below (fa_Qc D b aC H0 N T (none) r) args s 0 0 (fun q => b ≤ q)) D b aC H0 N T 2 w 129 [(0, .ref (b + 7))] [] := by
  intro w hM
  unfold fm_Reader_advance_j129 at hM
  refine g_aload_n X 0 rfl d_Reader_advance_129 ?_
  refine g_get X ck_5 fo_7 (fa_xn fo_7 (by decide) hN) 3 (by decide) wd_154 rfl (fa_fvI rfl) d_Reader_advance_130 ?_
  refine g_aload_n X 0 rfl d_Reader_advance_133 ?_
  refine g_get X ck_5 fo_7 (fa_xn fo_7 (by decide) hN) 5 (by decide) wd_156 rfl (fa_fvI rfl) d_Reader_advance_134 ?_
  refine g_icmp_le X 165 d_Reader_advance_137 (by decide) (fun hc6 => ?_) (fun hc6 => ?_)
  · have hM := fa_if_t hM hc6
    refine g_iconst X d_Reader_advance_165 ?_
    refine g_istorec_n X [(1, .int (fa_I 0)), (0, .ref (b + 7))] d_Reader_advance_166 (by decide) rfl ?_
    exact g_lv [1, 0] rfl (c_Reader_advance_l167 X hle hN hT   fa_FU _ _ hM)
  · have hM := fa_if_f hM hc6
    refine g_aload_n X 0 rfl d_Reader_advance_140 ?_
    refine g_aload_n X 0 rfl d_Reader_advance_141 ?_
    refine g_get X ck_5 fo_7 (fa_xn fo_7 (by decide) hN) 6 (by decide) wd_157 rfl (fa_fvI rfl) d_Reader_advance_142 ?_
    refine g_callS_i X mi_Reader_isKeyword (c_Reader_isKeyword hN hT (w 7 6) w _ rfl) wd_984 rfl (Nat.le_trans (Nat.le_of_ble_eq_true rfl) hle) (st := [.ref (b + 7)]) (Nat.le_of_ble_eq_true rfl) rfl d_Reader_advance_145 ?_
    refine g_ifb_eq X 158 d_Reader_advance_148 (by decide) (fun hc24 => ?_) (fun hc24 => ?_)
    · have hM := fa_ifb_f hM hc24
      refine g_iconst X d_Reader_advance_158 ?_
      exact g_lv [0] rfl (c_Reader_advance_j159 X hle hN hT    _ _ hM)
    · have hM := fa_ifb_t hM hc24
      refine g_aload_n X 0 rfl d_Reader_advance_151 ?_
      refine g_get X ck_5 fo_7 (fa_xn fo_7 (by decide) hN) 6 (by decide) wd_157 rfl (fa_fvI rfl) d_Reader_advance_152 ?_
      refine g_goto X 159 d_Reader_advance_155 (by decide) ?_
      exact g_lv [0] rfl (c_Reader_advance_j159 X hle hN hT    _ _ hM)
def fm_Reader_advance_l66  : Nat → Int → fa_W → Option fa_W
  | 0, _, _ => none
  | n + 1, x1, w => if 400 ≤ fa_wr x1 then
  fm_Reader_advance_j129 w
  else
  (if fm_Reader_isLetter (fr_at 1 (w 7 3) w) w = true then
  (fa_let (fa_st w 7 6 (fa_ior (fa_ishl (w 7 6) 8) (fr_at 1 (w 7 3) w))) fun w30 =>
  fa_let (fa_st w30 7 3 ((w30 7 3) + 1)) fun w31 =>
  fa_let (x1 + 1) fun x1_32 =>
  fm_Reader_advance_l66 n x1_32 w31)
  else
  fm_Reader_advance_j129 w)
set_option maxHeartbeats 4000000 in
set_option maxRecDepth 100000 in
theorem c_Reader_advance_l66 {p : Program} {l : Launch} {e : Env} {s : State} {m : MethodId} {args : Array Value} {below : List Frame} {meth : Method} {c : Code} {hh : Nat} {D : va_G} {b : Nat} {aC : Nat → ClassId} {H0 : Heap} {N T : Nat} (X : fa_GX p s m args meth c prog_6_method_6_code 2 ((Option.none : Option Jvm.ClassFile.FieldType)) y_Reader_advance.cls D b aC) (hle : 1 ≤ hh) (hN : fa_NX ≤ N) (hT : fa_TX ≤ T) {r : fa_W}  : ∀ (n : Nat) (x1 : Int) (w : fa_W), fm_Reader_advance_l66 n x1 w = some r → fa_GJ p l e (fa_rm hh) s m args below meth c 0 0 (MQ below (fa_Qc D b aC H0 N T (none) r) args s 0 0 (fun q => b ≤ q)) D b aC H0 N T 2 w 66 [(0, .ref (b + 7)), (1, .int (fa_I x1))] [] := by
  intro n
  induction n with
  | zero => intro x1 w hM; exact fa_no hM
  | succ n ih =>
    intro x1 w hM
    rw [fm_Reader_advance_l66] at hM
    refine g_iload_n X 1 rfl d_Reader_advance_66 ?_
    refine g_sipush X (by decide) d_Reader_advance_67 ?_
    refine g_icmp_ge X 129 d_Reader_advance_70 (by decide) (fun hc5 => ?_) (fun hc5 => ?_)
    · have hM := fa_if_t hM hc5
      exact g_lv [0] rfl (c_Reader_advance_j129 X hle hN hT    _ hM)
    · have hM := fa_if_f hM hc5
      refine g_aload_n X 0 rfl d_Reader_advance_73 ?_
      refine g_get X ck_5 fo_7 (fa_xn fo_7 (by decide) hN) 1 (by decide) wd_152 rfl (fr_7_1 rfl hT) d_Reader_advance_74 ?_
      refine g_aload_n X 0 rfl d_Reader_advance_77 ?_
      refine g_get X ck_5 fo_7 (fa_xn fo_7 (by decide) hN) 3 (by decide) wd_154 rfl (fa_fvI rfl) d_Reader_advance_78 ?_
      refine g_callV_i X ck_6 fo_1 (fa_xn fo_1 (by decide) hN) rfl mi_Row_at (ct_Row_at 1 (w 7 3) (fa_ro fo_1 hN hT) w _ rfl) wd_977 rfl (Nat.le_trans (Nat.le_of_ble_eq_true rfl) hle) (st := []) (Nat.le_of_ble_eq_true rfl) rfl d_Reader_advance_81 ?_
      refine g_callS_i X mi_Reader_isLetter (c_Reader_isLetter hN hT (fr_at 1 (w 7 3) w) w _ rfl) wd_981 rfl (Nat.le_trans (Nat.le_of_ble_eq_true rfl) hle) (st := []) (Nat.le_of_ble_eq_true rfl) rfl d_Reader_advance_84 ?_
      refine g_ifb_eq X 129 d_Reader_advance_87 (by decide) (fun hc28 => ?_) (fun hc28 => ?_)
      · have hM := fa_ifb_f hM hc28
        exact g_lv [0] rfl (c_Reader_advance_j129 X hle hN hT    _ hM)
      · have hM := fa_ifb_t hM hc28
        refine g_aload_n X 0 rfl d_Reader_advance_90 ?_
        refine g_aload_n X 0 rfl d_Reader_advance_91 ?_
        refine g_get X ck_5 fo_7 (fa_xn fo_7 (by decide) hN) 6 (by decide) wd_157 rfl (fa_fvI rfl) d_Reader_advance_92 ?_
        refine g_bipush X (by decide) d_Reader_advance_95 ?_
        refine g_ishl X d_Reader_advance_97 ?_
        refine g_aload_n X 0 rfl d_Reader_advance_98 ?_
        refine g_get X ck_5 fo_7 (fa_xn fo_7 (by decide) hN) 1 (by decide) wd_152 rfl (fr_7_1 rfl hT) d_Reader_advance_99 ?_
        refine g_aload_n X 0 rfl d_Reader_advance_102 ?_
        refine g_get X ck_5 fo_7 (fa_xn fo_7 (by decide) hN) 3 (by decide) wd_154 rfl (fa_fvI rfl) d_Reader_advance_103 ?_
        refine g_callV_i X ck_6 fo_1 (fa_xn fo_1 (by decide) hN) rfl mi_Row_at (ct_Row_at 1 (w 7 3) (fa_ro fo_1 hN hT) w _ rfl) wd_977 rfl (Nat.le_trans (Nat.le_of_ble_eq_true rfl) hle) (st := [.int (fa_I (fa_ishl (w 7 6) 8)), .ref (b + 7)]) (Nat.le_of_ble_eq_true rfl) rfl d_Reader_advance_106 ?_
        refine g_ior X d_Reader_advance_109 ?_
        refine g_put X ck_5 fo_7 (fa_xn fo_7 (by decide) hN) 6 (z := (fa_ior (fa_ishl (w 7 6) 8) (fr_at 1 (w 7 3) w))) (by decide) wd_157 rfl (fa_fvI' rfl) rfl rfl rfl d_Reader_advance_110 (fun w30 ew30 => ?_)
        have hM := fa_let_to hM ew30
        refine g_aload_n X 0 rfl d_Reader_advance_113 ?_
        refine g_dup X rfl d_Reader_advance_114 ?_
        refine g_get X ck_5 fo_7 (fa_xn fo_7 (by decide) hN) 3 (by decide) wd_154 rfl (fa_fvI rfl) d_Reader_advance_115 ?_
        refine g_iconst X d_Reader_advance_118 ?_
        refine g_iadd X d_Reader_advance_119 ?_
        refine g_put X ck_5 fo_7 (fa_xn fo_7 (by decide) hN) 3 (z := ((w30 7 3) + 1)) (by decide) wd_154 rfl (fa_fvI' rfl) rfl rfl rfl d_Reader_advance_120 (fun w31 ew31 => ?_)
        have hM := fa_let_to hM ew31
        refine g_iinc X 1 (fun x1_32 => [(1, .int (fa_I x1_32)), (0, .ref (b + 7))]) d_Reader_advance_123 rfl (by decide) (fun _ => rfl) (fun x1_32 ex1_32 => ?_)
        have hM := fa_let_to hM ex1_32
        refine g_goto X 66 d_Reader_advance_126 (by decide) ?_
        exact g_lv [1, 0] rfl (ih _ _ hM)
def fm_Reader_advance_j51 (w : fa_W) : Option fa_W :=
  fa_let (fa_st w 7 5 (w 7 3)) fun w3 =>
  fa_let (fa_st w3 7 6 0) fun w4 =>
  fm_Reader_advance_l66 fa_FU 0 w4
set_option maxHeartbeats 4000000 in
set_option maxRecDepth 100000 in
theorem c_Reader_advance_j51 {p : Program} {l : Launch} {e : Env} {s : State} {m : MethodId} {args : Array Value} {below : List Frame} {meth : Method} {c : Code} {hh : Nat} {D : va_G} {b : Nat} {aC : Nat → ClassId} {H0 : Heap} {N T : Nat} (X : fa_GX p s m args meth c prog_6_method_6_code 2 ((Option.none : Option Jvm.ClassFile.FieldType)) y_Reader_advance.cls D b aC) (hle : 1 ≤ hh) (hN : fa_NX ≤ N) (hT : fa_TX ≤ T) {r : fa_W}  : ∀ (w : fa_W) (_ : fm_Reader_advance_j51 w = some r), fa_GJ p l e (fa_rm hh) s m args below meth c 0 0 (MQ below (fa_Qc D b aC H0 N T (none) r) args s 0 0 (fun q => b ≤ q)) D b aC H0 N T 2 w 51 [(0, .ref (b + 7))] [] := by
  intro w hM
  unfold fm_Reader_advance_j51 at hM
  refine g_aload_n X 0 rfl d_Reader_advance_51 ?_
  refine g_aload_n X 0 rfl d_Reader_advance_52 ?_
  refine g_get X ck_5 fo_7 (fa_xn fo_7 (by decide) hN) 3 (by decide) wd_154 rfl (fa_fvI rfl) d_Reader_advance_53 ?_
  refine g_put X ck_5 fo_7 (fa_xn fo_7 (by decide) hN) 5 (z := (w 7 3)) (by decide) wd_156 rfl (fa_fvI' rfl) rfl rfl rfl d_Reader_advance_56 (fun w3 ew3 => ?_)
  have hM := fa_let_to hM ew3
  refine g_aload_n X 0 rfl d_Reader_advance_59 ?_
  refine g_iconst X d_Reader_advance_60 ?_
  refine g_put X ck_5 fo_7 (fa_xn fo_7 (by decide) hN) 6 (z := 0) (by decide) wd_157 rfl (fa_fvI' rfl) rfl rfl rfl d_Reader_advance_61 (fun w4 ew4 => ?_)
  have hM := fa_let_to hM ew4
  refine g_iconst X d_Reader_advance_64 ?_
  refine g_istorec_n X [(1, .int (fa_I 0)), (0, .ref (b + 7))] d_Reader_advance_65 (by decide) rfl ?_
  exact g_lv [1, 0] rfl (c_Reader_advance_l66 X hle hN hT   fa_FU _ _ hM)
def fm_Reader_advance_l11  : Nat → Int → fa_W → Option fa_W
  | 0, _, _ => none
  | n + 1, x1, w => if 400 ≤ fa_wr x1 then
  fm_Reader_advance_j51 w
  else
  (if fm_Reader_isBlank (fr_at 1 (w 7 3) w) w = true then
  (fa_let (fa_st w 7 3 ((w 7 3) + 1)) fun w36 =>
  fa_let (x1 + 1) fun x1_37 =>
  fm_Reader_advance_l11 n x1_37 w36)
  else
  fm_Reader_advance_j51 w)
set_option maxHeartbeats 4000000 in
set_option maxRecDepth 100000 in
theorem c_Reader_advance_l11 {p : Program} {l : Launch} {e : Env} {s : State} {m : MethodId} {args : Array Value} {below : List Frame} {meth : Method} {c : Code} {hh : Nat} {D : va_G} {b : Nat} {aC : Nat → ClassId} {H0 : Heap} {N T : Nat} (X : fa_GX p s m args meth c prog_6_method_6_code 2 ((Option.none : Option Jvm.ClassFile.FieldType)) y_Reader_advance.cls D b aC) (hle : 1 ≤ hh) (hN : fa_NX ≤ N) (hT : fa_TX ≤ T) {r : fa_W}  : ∀ (n : Nat) (x1 : Int) (w : fa_W), fm_Reader_advance_l11 n x1 w = some r → fa_GJ p l e (fa_rm hh) s m args below meth c 0 0 (MQ below (fa_Qc D b aC H0 N T (none) r) args s 0 0 (fun q => b ≤ q)) D b aC H0 N T 2 w 11 [(0, .ref (b + 7)), (1, .int (fa_I x1))] [] := by
  intro n
  induction n with
  | zero => intro x1 w hM; exact fa_no hM
  | succ n ih =>
    intro x1 w hM
    rw [fm_Reader_advance_l11] at hM
    refine g_iload_n X 1 rfl d_Reader_advance_11 ?_
    refine g_sipush X (by decide) d_Reader_advance_12 ?_
    refine g_icmp_ge X 51 d_Reader_advance_15 (by decide) (fun hc2 => ?_) (fun hc2 => ?_)
    · have hM := fa_if_t hM hc2
      exact g_lv [0] rfl (c_Reader_advance_j51 X hle hN hT    _ hM)
    · have hM := fa_if_f hM hc2
      refine g_aload_n X 0 rfl d_Reader_advance_18 ?_
      refine g_get X ck_5 fo_7 (fa_xn fo_7 (by decide) hN) 1 (by decide) wd_152 rfl (fr_7_1 rfl hT) d_Reader_advance_19 ?_
      refine g_aload_n X 0 rfl d_Reader_advance_22 ?_
      refine g_get X ck_5 fo_7 (fa_xn fo_7 (by decide) hN) 3 (by decide) wd_154 rfl (fa_fvI rfl) d_Reader_advance_23 ?_
      refine g_callV_i X ck_6 fo_1 (fa_xn fo_1 (by decide) hN) rfl mi_Row_at (ct_Row_at 1 (w 7 3) (fa_ro fo_1 hN hT) w _ rfl) wd_977 rfl (Nat.le_trans (Nat.le_of_ble_eq_true rfl) hle) (st := []) (Nat.le_of_ble_eq_true rfl) rfl d_Reader_advance_26 ?_
      refine g_callS_i X mi_Reader_isBlank (c_Reader_isBlank hN hT (fr_at 1 (w 7 3) w) w _ rfl) wd_978 rfl (Nat.le_trans (Nat.le_of_ble_eq_true rfl) hle) (st := []) (Nat.le_of_ble_eq_true rfl) rfl d_Reader_advance_29 ?_
      refine g_ifb_eq X 51 d_Reader_advance_32 (by decide) (fun hc35 => ?_) (fun hc35 => ?_)
      · have hM := fa_ifb_f hM hc35
        exact g_lv [0] rfl (c_Reader_advance_j51 X hle hN hT    _ hM)
      · have hM := fa_ifb_t hM hc35
        refine g_aload_n X 0 rfl d_Reader_advance_35 ?_
        refine g_dup X rfl d_Reader_advance_36 ?_
        refine g_get X ck_5 fo_7 (fa_xn fo_7 (by decide) hN) 3 (by decide) wd_154 rfl (fa_fvI rfl) d_Reader_advance_37 ?_
        refine g_iconst X d_Reader_advance_40 ?_
        refine g_iadd X d_Reader_advance_41 ?_
        refine g_put X ck_5 fo_7 (fa_xn fo_7 (by decide) hN) 3 (z := ((w 7 3) + 1)) (by decide) wd_154 rfl (fa_fvI' rfl) rfl rfl rfl d_Reader_advance_42 (fun w36 ew36 => ?_)
        have hM := fa_let_to hM ew36
        refine g_iinc X 1 (fun x1_37 => [(1, .int (fa_I x1_37)), (0, .ref (b + 7))]) d_Reader_advance_45 rfl (by decide) (fun _ => rfl) (fun x1_37 ex1_37 => ?_)
        have hM := fa_let_to hM ex1_37
        refine g_goto X 11 d_Reader_advance_48 (by decide) ?_
        exact g_lv [1, 0] rfl (ih _ _ hM)
def fm_Reader_advance (w : fa_W) : Option fa_W :=
  if fa_wr (w 7 7) = (-1) then
  fm_Reader_advance_l11 fa_FU 0 w
  else
  some w
set_option maxHeartbeats 4000000 in
set_option maxRecDepth 100000 in
theorem c_Reader_advance {l : Launch} {D : va_G} {b : Nat} {aC : Nat → ClassId} {H0 : Heap} {N T : Nat} (hN : fa_NX ≤ N) (hT : fa_TX ≤ T)   (w : fa_W) (r : fa_W) (hM : fm_Reader_advance w = some r) : fa_MC l D b aC H0 N T y_Reader_advance prog_6_method_6_code 2 ((Option.none : Option Jvm.ClassFile.FieldType)) (1) [.ref (b + 7)] w (none) r := by
  refine fa_enter (lv := [(0, .ref (b + 7))]) (by decide +kernel) (Nat.le_of_ble_eq_true rfl) rfl (fun hh hle hnm X => ?_)
  unfold fm_Reader_advance at hM
  refine g_aload_n X 0 rfl d_Reader_advance_0 ?_
  refine g_get X ck_5 fo_7 (fa_xn fo_7 (by decide) hN) 7 (by decide) wd_158 rfl (fa_fvI rfl) d_Reader_advance_1 ?_
  refine g_iconst X d_Reader_advance_4 ?_
  refine g_icmp_eq X 9 d_Reader_advance_5 (by decide) (fun hc1 => ?_) (fun hc1 => ?_)
  · have hM := fa_if_t hM hc1
    refine g_iconst X d_Reader_advance_9 ?_
    refine g_istorec_n X [(1, .int (fa_I 0)), (0, .ref (b + 7))] d_Reader_advance_10 (by decide) rfl ?_
    exact g_lv [1, 0] rfl (c_Reader_advance_l11 X hle hN hT   fa_FU _ _ hM)
  · have hM := fa_if_f hM hc1
    cases hM
    exact g_vret X d_Reader_advance_8
theorem d_Reader_expect_0 : decode prog_6_method_12_code 0 = .ok (.aload_n 0, 1) := by decide +kernel
theorem d_Reader_expect_1 : decode prog_6_method_12_code 1 = .ok (.getfield 31, 3) := by decide +kernel
theorem d_Reader_expect_4 : decode prog_6_method_12_code 4 = .ok (.iload_n 1, 1) := by decide +kernel
theorem d_Reader_expect_5 : decode prog_6_method_12_code 5 = .ok (.if_icmp .ne 10, 3) := by decide +kernel
theorem d_Reader_expect_8 : decode prog_6_method_12_code 8 = .ok (.aload_n 0, 1) := by decide +kernel
theorem d_Reader_expect_9 : decode prog_6_method_12_code 9 = .ok (.invokevirtual 64, 3) := by decide +kernel
theorem d_Reader_expect_12 : decode prog_6_method_12_code 12 = .ok (.goto 7, 3) := by decide +kernel
theorem d_Reader_expect_15 : decode prog_6_method_12_code 15 = .ok (.aload_n 0, 1) := by decide +kernel
theorem d_Reader_expect_16 : decode prog_6_method_12_code 16 = .ok (.invokevirtual 78, 3) := by decide +kernel
theorem d_Reader_expect_19 : decode prog_6_method_12_code 19 = .ok (.return_, 1) := by decide +kernel
def fm_Reader_expect (a1 : Int) (w : fa_W) : Option fa_W :=
  if fa_wr (w 7 4) = fa_wr a1 then
  ((fm_Reader_advance w).bind fun w5 =>
  some w5)
  else
  (fa_let (fm_Reader_fail w) fun w3 =>
  some w3)
set_option maxHeartbeats 4000000 in
set_option maxRecDepth 100000 in
theorem c_Reader_expect {l : Launch} {D : va_G} {b : Nat} {aC : Nat → ClassId} {H0 : Heap} {N T : Nat} (hN : fa_NX ≤ N) (hT : fa_TX ≤ T) (a1 : Int)  (w : fa_W) (r : fa_W) (hM : fm_Reader_expect a1 w = some r) : fa_MC l D b aC H0 N T y_Reader_expect prog_6_method_12_code 2 ((Option.none : Option Jvm.ClassFile.FieldType)) (2) [.ref (b + 7), .int (fa_I a1)] w (none) r := by
  refine fa_enter (lv := [(0, .ref (b + 7)), (1, .int (fa_I a1))]) (by decide +kernel) (Nat.le_of_ble_eq_true rfl) rfl (fun hh hle hnm X => ?_)
  unfold fm_Reader_expect at hM
  refine g_aload_n X 0 rfl d_Reader_expect_0 ?_
  refine g_get X ck_5 fo_7 (fa_xn fo_7 (by decide) hN) 4 (by decide) wd_155 rfl (fa_fvI rfl) d_Reader_expect_1 ?_
  refine g_iload_n X 1 rfl d_Reader_expect_4 ?_
  refine g_icmp_ne X 15 d_Reader_expect_5 (by decide) (fun hc1 => ?_) (fun hc1 => ?_)
  · have hM := fa_if_f hM hc1
    refine g_aload_n X 0 rfl d_Reader_expect_15 ?_
    obtain ⟨w3, e2⟩ : ∃ q, fm_Reader_fail w = q := ⟨_, rfl⟩
    have hM := fa_let_to hM e2.symm
    refine g_callV_v X ck_5 fo_7 (fa_xn fo_7 (by decide) hN) rfl mi_Reader_fail (c_Reader_fail hN hT w _ e2) wd_998 rfl (Nat.le_trans (Nat.le_of_ble_eq_true rfl) hle) (st := []) (Nat.le_of_ble_eq_true rfl) rfl d_Reader_expect_16 ?_
    cases hM
    exact g_vret X d_Reader_expect_19
  · have hM := fa_if_t hM hc1
    refine g_aload_n X 0 rfl d_Reader_expect_8 ?_
    obtain ⟨w5, e4, hM⟩ := fa_ob hM
    refine g_callV_v X ck_5 fo_7 (fa_xn fo_7 (by decide) hN) rfl mi_Reader_advance (c_Reader_advance hN hT w _ e4) wd_973 rfl (Nat.le_trans (Nat.le_of_ble_eq_true rfl) hle) (st := []) (Nat.le_of_ble_eq_true rfl) rfl d_Reader_expect_9 ?_
    refine g_goto X 19 d_Reader_expect_12 (by decide) ?_
    cases hM
    exact g_vret X d_Reader_expect_19
theorem d_Reader_countThing_0 : decode prog_6_method_13_code 0 = .ok (.aload_n 0, 1) := by decide +kernel
theorem d_Reader_countThing_1 : decode prog_6_method_13_code 1 = .ok (.dup, 1) := by decide +kernel
theorem d_Reader_countThing_2 : decode prog_6_method_13_code 2 = .ok (.getfield 46, 3) := by decide +kernel
theorem d_Reader_countThing_5 : decode prog_6_method_13_code 5 = .ok (.iconst 1, 1) := by decide +kernel
theorem d_Reader_countThing_6 : decode prog_6_method_13_code 6 = .ok (.iadd, 1) := by decide +kernel
theorem d_Reader_countThing_7 : decode prog_6_method_13_code 7 = .ok (.putfield 46, 3) := by decide +kernel
theorem d_Reader_countThing_10 : decode prog_6_method_13_code 10 = .ok (.aload_n 0, 1) := by decide +kernel
theorem d_Reader_countThing_11 : decode prog_6_method_13_code 11 = .ok (.getfield 46, 3) := by decide +kernel
theorem d_Reader_countThing_14 : decode prog_6_method_13_code 14 = .ok (.bipush 100, 2) := by decide +kernel
theorem d_Reader_countThing_16 : decode prog_6_method_13_code 16 = .ok (.if_icmp .le 7, 3) := by decide +kernel
theorem d_Reader_countThing_19 : decode prog_6_method_13_code 19 = .ok (.aload_n 0, 1) := by decide +kernel
theorem d_Reader_countThing_20 : decode prog_6_method_13_code 20 = .ok (.invokevirtual 78, 3) := by decide +kernel
theorem d_Reader_countThing_23 : decode prog_6_method_13_code 23 = .ok (.return_, 1) := by decide +kernel
def fm_Reader_countThing (w : fa_W) : fa_W :=
  fa_let (fa_st w 7 9 ((w 7 9) + 1)) fun w1 =>
  if fa_wr (w1 7 9) ≤ 100 then
  w1
  else
  (fa_let (fm_Reader_fail w1) fun w4 =>
  w4)
set_option maxHeartbeats 4000000 in
set_option maxRecDepth 100000 in
theorem c_Reader_countThing {l : Launch} {D : va_G} {b : Nat} {aC : Nat → ClassId} {H0 : Heap} {N T : Nat} (hN : fa_NX ≤ N) (hT : fa_TX ≤ T)   (w : fa_W) (r : fa_W) (hM : fm_Reader_countThing w = r) : fa_MC l D b aC H0 N T y_Reader_countThing prog_6_method_13_code 1 ((Option.none : Option Jvm.ClassFile.FieldType)) (1) [.ref (b + 7)] w (none) r := by
  refine fa_enter (lv := [(0, .ref (b + 7))]) (by decide +kernel) (Nat.le_of_ble_eq_true rfl) rfl (fun hh hle hnm X => ?_)
  unfold fm_Reader_countThing at hM
  refine g_aload_n X 0 rfl d_Reader_countThing_0 ?_
  refine g_dup X rfl d_Reader_countThing_1 ?_
  refine g_get X ck_5 fo_7 (fa_xn fo_7 (by decide) hN) 9 (by decide) wd_160 rfl (fa_fvI rfl) d_Reader_countThing_2 ?_
  refine g_iconst X d_Reader_countThing_5 ?_
  refine g_iadd X d_Reader_countThing_6 ?_
  refine g_put X ck_5 fo_7 (fa_xn fo_7 (by decide) hN) 9 (z := ((w 7 9) + 1)) (by decide) wd_160 rfl (fa_fvI' rfl) rfl rfl rfl d_Reader_countThing_7 (fun w1 ew1 => ?_)
  have hM := fa_let_to hM ew1
  refine g_aload_n X 0 rfl d_Reader_countThing_10 ?_
  refine g_get X ck_5 fo_7 (fa_xn fo_7 (by decide) hN) 9 (by decide) wd_160 rfl (fa_fvI rfl) d_Reader_countThing_11 ?_
  refine g_bipush X (by decide) d_Reader_countThing_14 ?_
  refine g_icmp_le X 23 d_Reader_countThing_16 (by decide) (fun hc2 => ?_) (fun hc2 => ?_)
  · have hM := fa_if_t hM hc2
    subst hM
    exact g_vret X d_Reader_countThing_23
  · have hM := fa_if_f hM hc2
    refine g_aload_n X 0 rfl d_Reader_countThing_19 ?_
    obtain ⟨w4, e3⟩ : ∃ q, fm_Reader_fail w1 = q := ⟨_, rfl⟩
    have hM := fa_let_to hM e3.symm
    refine g_callV_v X ck_5 fo_7 (fa_xn fo_7 (by decide) hN) rfl mi_Reader_fail (c_Reader_fail hN hT w1 _ e3) wd_998 rfl (Nat.le_trans (Nat.le_of_ble_eq_true rfl) hle) (st := []) (Nat.le_of_ble_eq_true rfl) rfl d_Reader_countThing_20 ?_
    subst hM
    exact g_vret X d_Reader_countThing_23
theorem d_Reader_nest_0 : decode prog_6_method_14_code 0 = .ok (.aload_n 0, 1) := by decide +kernel
theorem d_Reader_nest_1 : decode prog_6_method_14_code 1 = .ok (.getfield 43, 3) := by decide +kernel
theorem d_Reader_nest_4 : decode prog_6_method_14_code 4 = .ok (.bipush 20, 2) := by decide +kernel
theorem d_Reader_nest_6 : decode prog_6_method_14_code 6 = .ok (.if_icmp .lt 9, 3) := by decide +kernel
theorem d_Reader_nest_9 : decode prog_6_method_14_code 9 = .ok (.aload_n 0, 1) := by decide +kernel
theorem d_Reader_nest_10 : decode prog_6_method_14_code 10 = .ok (.invokevirtual 78, 3) := by decide +kernel
theorem d_Reader_nest_13 : decode prog_6_method_14_code 13 = .ok (.iconst 0, 1) := by decide +kernel
theorem d_Reader_nest_14 : decode prog_6_method_14_code 14 = .ok (.ireturn, 1) := by decide +kernel
theorem d_Reader_nest_15 : decode prog_6_method_14_code 15 = .ok (.aload_n 0, 1) := by decide +kernel
theorem d_Reader_nest_16 : decode prog_6_method_14_code 16 = .ok (.dup, 1) := by decide +kernel
theorem d_Reader_nest_17 : decode prog_6_method_14_code 17 = .ok (.getfield 43, 3) := by decide +kernel
theorem d_Reader_nest_20 : decode prog_6_method_14_code 20 = .ok (.iconst 1, 1) := by decide +kernel
theorem d_Reader_nest_21 : decode prog_6_method_14_code 21 = .ok (.iadd, 1) := by decide +kernel
theorem d_Reader_nest_22 : decode prog_6_method_14_code 22 = .ok (.putfield 43, 3) := by decide +kernel
theorem d_Reader_nest_25 : decode prog_6_method_14_code 25 = .ok (.iconst 1, 1) := by decide +kernel
theorem d_Reader_nest_26 : decode prog_6_method_14_code 26 = .ok (.ireturn, 1) := by decide +kernel
def fm_Reader_nest (w : fa_W) : Bool × fa_W :=
  if fa_wr (w 7 8) < 20 then
  (fa_let (fa_st w 7 8 ((w 7 8) + 1)) fun w2 =>
  (true, w2))
  else
  (fa_let (fm_Reader_fail w) fun w4 =>
  (false, w4))
set_option maxHeartbeats 4000000 in
set_option maxRecDepth 100000 in
theorem c_Reader_nest {l : Launch} {D : va_G} {b : Nat} {aC : Nat → ClassId} {H0 : Heap} {N T : Nat} (hN : fa_NX ≤ N) (hT : fa_TX ≤ T)   (w : fa_W) (r : Bool × fa_W) (hM : fm_Reader_nest w = r) : fa_MC l D b aC H0 N T y_Reader_nest prog_6_method_14_code 1 ((Option.some Jvm.ClassFile.FieldType.boolean)) (1) [.ref (b + 7)] w (some (.int (fa_I (fa_bi r.1)))) r.2 := by
  refine fa_enter (lv := [(0, .ref (b + 7))]) (by decide +kernel) (Nat.le_of_ble_eq_true rfl) rfl (fun hh hle hnm X => ?_)
  unfold fm_Reader_nest at hM
  refine g_aload_n X 0 rfl d_Reader_nest_0 ?_
  refine g_get X ck_5 fo_7 (fa_xn fo_7 (by decide) hN) 8 (by decide) wd_159 rfl (fa_fvI rfl) d_Reader_nest_1 ?_
  refine g_bipush X (by decide) d_Reader_nest_4 ?_
  refine g_icmp_lt X 15 d_Reader_nest_6 (by decide) (fun hc1 => ?_) (fun hc1 => ?_)
  · have hM := fa_if_t hM hc1
    refine g_aload_n X 0 rfl d_Reader_nest_15 ?_
    refine g_dup X rfl d_Reader_nest_16 ?_
    refine g_get X ck_5 fo_7 (fa_xn fo_7 (by decide) hN) 8 (by decide) wd_159 rfl (fa_fvI rfl) d_Reader_nest_17 ?_
    refine g_iconst X d_Reader_nest_20 ?_
    refine g_iadd X d_Reader_nest_21 ?_
    refine g_put X ck_5 fo_7 (fa_xn fo_7 (by decide) hN) 8 (z := ((w 7 8) + 1)) (by decide) wd_159 rfl (fa_fvI' rfl) rfl rfl rfl d_Reader_nest_22 (fun w2 ew2 => ?_)
    have hM := fa_let_to hM ew2
    refine g_iconst X d_Reader_nest_25 ?_
    subst hM
    exact g_zret X rfl d_Reader_nest_26
  · have hM := fa_if_f hM hc1
    refine g_aload_n X 0 rfl d_Reader_nest_9 ?_
    obtain ⟨w4, e3⟩ : ∃ q, fm_Reader_fail w = q := ⟨_, rfl⟩
    have hM := fa_let_to hM e3.symm
    refine g_callV_v X ck_5 fo_7 (fa_xn fo_7 (by decide) hN) rfl mi_Reader_fail (c_Reader_fail hN hT w _ e3) wd_998 rfl (Nat.le_trans (Nat.le_of_ble_eq_true rfl) hle) (st := []) (Nat.le_of_ble_eq_true rfl) rfl d_Reader_nest_10 ?_
    refine g_iconst X d_Reader_nest_13 ?_
    subst hM
    exact g_zret X rfl d_Reader_nest_14
theorem d_Reader_nameVariable_0 : decode prog_6_method_16_code 0 = .ok (.aload_n 0, 1) := by decide +kernel
theorem d_Reader_nameVariable_1 : decode prog_6_method_16_code 1 = .ok (.getfield 31, 3) := by decide +kernel
theorem d_Reader_nameVariable_4 : decode prog_6_method_16_code 4 = .ok (.iconst 2, 1) := by decide +kernel
theorem d_Reader_nameVariable_5 : decode prog_6_method_16_code 5 = .ok (.if_icmp .ne 18, 3) := by decide +kernel
theorem d_Reader_nameVariable_8 : decode prog_6_method_16_code 8 = .ok (.aload_n 0, 1) := by decide +kernel
theorem d_Reader_nameVariable_9 : decode prog_6_method_16_code 9 = .ok (.getfield 12, 3) := by decide +kernel
theorem d_Reader_nameVariable_12 : decode prog_6_method_16_code 12 = .ok (.getfield 128, 3) := by decide +kernel
theorem d_Reader_nameVariable_15 : decode prog_6_method_16_code 15 = .ok (.iload_n 1, 1) := by decide +kernel
theorem d_Reader_nameVariable_16 : decode prog_6_method_16_code 16 = .ok (.aload_n 0, 1) := by decide +kernel
theorem d_Reader_nameVariable_17 : decode prog_6_method_16_code 17 = .ok (.getfield 37, 3) := by decide +kernel
theorem d_Reader_nameVariable_20 : decode prog_6_method_16_code 20 = .ok (.invokevirtual 124, 3) := by decide +kernel
theorem d_Reader_nameVariable_23 : decode prog_6_method_16_code 23 = .ok (.aload_n 0, 1) := by decide +kernel
theorem d_Reader_nameVariable_24 : decode prog_6_method_16_code 24 = .ok (.iconst 2, 1) := by decide +kernel
theorem d_Reader_nameVariable_25 : decode prog_6_method_16_code 25 = .ok (.invokevirtual 118, 3) := by decide +kernel
theorem d_Reader_nameVariable_28 : decode prog_6_method_16_code 28 = .ok (.return_, 1) := by decide +kernel
def fm_Reader_nameVariable_j23 (a1 : Int) (w : fa_W) : Option fa_W :=
  (fm_Reader_expect 2 w).bind fun w3 =>
  some w3
set_option maxHeartbeats 4000000 in
set_option maxRecDepth 100000 in
theorem c_Reader_nameVariable_j23 {p : Program} {l : Launch} {e : Env} {s : State} {m : MethodId} {args : Array Value} {below : List Frame} {meth : Method} {c : Code} {hh : Nat} {D : va_G} {b : Nat} {aC : Nat → ClassId} {H0 : Heap} {N T : Nat} (X : fa_GX p s m args meth c prog_6_method_16_code 2 ((Option.none : Option Jvm.ClassFile.FieldType)) y_Reader_nameVariable.cls D b aC) (hle : 3 ≤ hh) (hN : fa_NX ≤ N) (hT : fa_TX ≤ T) (a1 : Int) {r : fa_W}  : ∀ (w : fa_W) (_ : fm_Reader_nameVariable_j23 a1 w = some r), fa_GJ p l e (fa_rm hh) s m args below meth c 0 0 (MQ below (fa_Qc D b aC H0 N T (none) r) args s 0 0 (fun q => b ≤ q)) D b aC H0 N T 2 w 23 [(0, .ref (b + 7))] [] := by
  intro w hM
  unfold fm_Reader_nameVariable_j23 at hM
  refine g_aload_n X 0 rfl d_Reader_nameVariable_23 ?_
  refine g_iconst X d_Reader_nameVariable_24 ?_
  obtain ⟨w3, e2, hM⟩ := fa_ob hM
  refine g_callV_v X ck_5 fo_7 (fa_xn fo_7 (by decide) hN) rfl mi_Reader_expect (c_Reader_expect hN hT 2 w _ e2) wd_1009 rfl (Nat.le_trans (Nat.le_of_ble_eq_true rfl) hle) (st := []) (Nat.le_of_ble_eq_true rfl) rfl d_Reader_nameVariable_25 ?_
  cases hM
  exact g_vret X d_Reader_nameVariable_28
def fm_Reader_nameVariable (a1 : Int) (w : fa_W) : Option fa_W :=
  if fa_wr (w 7 4) = 2 then
  (fa_let (fr_set (fa_rf 8 6) a1 (w 7 6) w) fun w5 =>
  fm_Reader_nameVariable_j23 a1 w5)
  else
  fm_Reader_nameVariable_j23 a1 w
set_option maxHeartbeats 4000000 in
set_option maxRecDepth 100000 in
theorem c_Reader_nameVariable {l : Launch} {D : va_G} {b : Nat} {aC : Nat → ClassId} {H0 : Heap} {N T : Nat} (hN : fa_NX ≤ N) (hT : fa_TX ≤ T) (a1 : Int)  (w : fa_W) (r : fa_W) (hM : fm_Reader_nameVariable a1 w = some r) : fa_MC l D b aC H0 N T y_Reader_nameVariable prog_6_method_16_code 2 ((Option.none : Option Jvm.ClassFile.FieldType)) (3) [.ref (b + 7), .int (fa_I a1)] w (none) r := by
  refine fa_enter (lv := [(0, .ref (b + 7)), (1, .int (fa_I a1))]) (by decide +kernel) (Nat.le_of_ble_eq_true rfl) rfl (fun hh hle hnm X => ?_)
  unfold fm_Reader_nameVariable at hM
  refine g_aload_n X 0 rfl d_Reader_nameVariable_0 ?_
  refine g_get X ck_5 fo_7 (fa_xn fo_7 (by decide) hN) 4 (by decide) wd_155 rfl (fa_fvI rfl) d_Reader_nameVariable_1 ?_
  refine g_iconst X d_Reader_nameVariable_4 ?_
  refine g_icmp_ne X 23 d_Reader_nameVariable_5 (by decide) (fun hc1 => ?_) (fun hc1 => ?_)
  · have hM := fa_if_f hM hc1
    exact g_lv [0] rfl (c_Reader_nameVariable_j23 X hle hN hT a1    _ hM)
  · have hM := fa_if_t hM hc1
    refine g_aload_n X 0 rfl d_Reader_nameVariable_8 ?_
    refine g_get X ck_5 fo_7 (fa_xn fo_7 (by decide) hN) 0 (by decide) wd_150 rfl (fr_7_0 rfl hT) d_Reader_nameVariable_9 ?_
    refine g_getN X ck_4 fo_8 (fa_xn fo_8 (by decide) hN) 6 (by decide) wd_77 rfl (fa_fvR rfl (fa_xt fo_8 (by decide) hT 6)) d_Reader_nameVariable_12 ?_
    refine g_iload_n X 1 rfl d_Reader_nameVariable_15 ?_
    refine g_aload_n X 0 rfl d_Reader_nameVariable_16 ?_
    refine g_get X ck_5 fo_7 (fa_xn fo_7 (by decide) hN) 6 (by decide) wd_157 rfl (fa_fvI rfl) d_Reader_nameVariable_17 ?_
    obtain ⟨w5, e4⟩ : ∃ q, fr_set (fa_rf 8 6) a1 (w 7 6) w = q := ⟨_, rfl⟩
    have hM := fa_let_to hM e4.symm
    refine g_callV_v X ck_6 (fa_r4_6 _ fo_8) (fa_xn (fa_r4_6 _ fo_8) (by decide) hN) rfl mi_Row_set (ct_Row_set (fa_rf 8 6) a1 (w 7 6) (fa_ro (fa_r4_6 _ fo_8) hN hT) w _ e4) wd_1008 rfl (Nat.le_trans (Nat.le_of_ble_eq_true rfl) hle) (st := []) (Nat.le_of_ble_eq_true rfl) rfl d_Reader_nameVariable_20 ?_
    exact g_lv [0] rfl (c_Reader_nameVariable_j23 X hle hN hT a1    _ hM)
theorem d_Reader_startOperator_0 : decode prog_6_method_24_code 0 = .ok (.aload_n 0, 1) := by decide +kernel
theorem d_Reader_startOperator_1 : decode prog_6_method_24_code 1 = .ok (.invokevirtual 143, 3) := by decide +kernel
theorem d_Reader_startOperator_4 : decode prog_6_method_24_code 4 = .ok (.aload_n 0, 1) := by decide +kernel
theorem d_Reader_startOperator_5 : decode prog_6_method_24_code 5 = .ok (.invokevirtual 64, 3) := by decide +kernel
theorem d_Reader_startOperator_8 : decode prog_6_method_24_code 8 = .ok (.return_, 1) := by decide +kernel
def fm_Reader_startOperator (w : fa_W) : Option fa_W :=
  fa_let (fm_Reader_countThing w) fun w2 =>
  (fm_Reader_advance w2).bind fun w4 =>
  some w4
set_option maxHeartbeats 4000000 in
set_option maxRecDepth 100000 in
theorem c_Reader_startOperator {l : Launch} {D : va_G} {b : Nat} {aC : Nat → ClassId} {H0 : Heap} {N T : Nat} (hN : fa_NX ≤ N) (hT : fa_TX ≤ T)   (w : fa_W) (r : fa_W) (hM : fm_Reader_startOperator w = some r) : fa_MC l D b aC H0 N T y_Reader_startOperator prog_6_method_24_code 1 ((Option.none : Option Jvm.ClassFile.FieldType)) (2) [.ref (b + 7)] w (none) r := by
  refine fa_enter (lv := [(0, .ref (b + 7))]) (by decide +kernel) (Nat.le_of_ble_eq_true rfl) rfl (fun hh hle hnm X => ?_)
  unfold fm_Reader_startOperator at hM
  refine g_aload_n X 0 rfl d_Reader_startOperator_0 ?_
  obtain ⟨w2, e1⟩ : ∃ q, fm_Reader_countThing w = q := ⟨_, rfl⟩
  have hM := fa_let_to hM e1.symm
  refine g_callV_v X ck_5 fo_7 (fa_xn fo_7 (by decide) hN) rfl mi_Reader_countThing (c_Reader_countThing hN hT w _ e1) wd_1021 rfl (Nat.le_trans (Nat.le_of_ble_eq_true rfl) hle) (st := []) (Nat.le_of_ble_eq_true rfl) rfl d_Reader_startOperator_1 ?_
  refine g_aload_n X 0 rfl d_Reader_startOperator_4 ?_
  obtain ⟨w4, e3, hM⟩ := fa_ob hM
  refine g_callV_v X ck_5 fo_7 (fa_xn fo_7 (by decide) hN) rfl mi_Reader_advance (c_Reader_advance hN hT w2 _ e3) wd_973 rfl (Nat.le_trans (Nat.le_of_ble_eq_true rfl) hle) (st := []) (Nat.le_of_ble_eq_true rfl) rfl d_Reader_startOperator_5 ?_
  cases hM
  exact g_vret X d_Reader_startOperator_8
theorem d_Reader_startsAtom_0 : decode prog_6_method_26_code 0 = .ok (.aload_n 0, 1) := by decide +kernel
theorem d_Reader_startsAtom_1 : decode prog_6_method_26_code 1 = .ok (.getfield 31, 3) := by decide +kernel
theorem d_Reader_startsAtom_4 : decode prog_6_method_26_code 4 = .ok (.iconst 1, 1) := by decide +kernel
theorem d_Reader_startsAtom_5 : decode prog_6_method_26_code 5 = .ok (.if_icmp .eq 29, 3) := by decide +kernel
theorem d_Reader_startsAtom_8 : decode prog_6_method_26_code 8 = .ok (.aload_n 0, 1) := by decide +kernel
theorem d_Reader_startsAtom_9 : decode prog_6_method_26_code 9 = .ok (.getfield 31, 3) := by decide +kernel
theorem d_Reader_startsAtom_12 : decode prog_6_method_26_code 12 = .ok (.iconst 2, 1) := by decide +kernel
theorem d_Reader_startsAtom_13 : decode prog_6_method_26_code 13 = .ok (.if_icmp .eq 21, 3) := by decide +kernel
theorem d_Reader_startsAtom_16 : decode prog_6_method_26_code 16 = .ok (.aload_n 0, 1) := by decide +kernel
theorem d_Reader_startsAtom_17 : decode prog_6_method_26_code 17 = .ok (.getfield 31, 3) := by decide +kernel
theorem d_Reader_startsAtom_20 : decode prog_6_method_26_code 20 = .ok (.ldc 179, 2) := by decide +kernel
theorem d_Reader_startsAtom_22 : decode prog_6_method_26_code 22 = .ok (.if_icmp .eq 12, 3) := by decide +kernel
theorem d_Reader_startsAtom_25 : decode prog_6_method_26_code 25 = .ok (.aload_n 0, 1) := by decide +kernel
theorem d_Reader_startsAtom_26 : decode prog_6_method_26_code 26 = .ok (.getfield 31, 3) := by decide +kernel
theorem d_Reader_startsAtom_29 : decode prog_6_method_26_code 29 = .ok (.bipush 40, 2) := by decide +kernel
theorem d_Reader_startsAtom_31 : decode prog_6_method_26_code 31 = .ok (.if_icmp .ne 7, 3) := by decide +kernel
theorem d_Reader_startsAtom_34 : decode prog_6_method_26_code 34 = .ok (.iconst 1, 1) := by decide +kernel
theorem d_Reader_startsAtom_35 : decode prog_6_method_26_code 35 = .ok (.goto 4, 3) := by decide +kernel
theorem d_Reader_startsAtom_38 : decode prog_6_method_26_code 38 = .ok (.iconst 0, 1) := by decide +kernel
theorem d_Reader_startsAtom_39 : decode prog_6_method_26_code 39 = .ok (.ireturn, 1) := by decide +kernel
def fm_Reader_startsAtom (w : fa_W) : Bool :=
  if fa_wr (w 7 4) = 1 then
  true
  else
  (if fa_wr (w 7 4) = 2 then
  true
  else
  (if fa_wr (w 7 4) = 1684365668 then
  true
  else
  (if fa_wr (w 7 4) = 40 then
  true
  else
  false)))
set_option maxHeartbeats 4000000 in
set_option maxRecDepth 100000 in
theorem c_Reader_startsAtom {l : Launch} {D : va_G} {b : Nat} {aC : Nat → ClassId} {H0 : Heap} {N T : Nat} (hN : fa_NX ≤ N) (hT : fa_TX ≤ T)   (w : fa_W) (r : Bool) (hM : fm_Reader_startsAtom w = r) : fa_MC l D b aC H0 N T y_Reader_startsAtom prog_6_method_26_code 1 ((Option.some Jvm.ClassFile.FieldType.boolean)) (0) [.ref (b + 7)] w (some (.int (fa_I (fa_bi r)))) w := by
  refine fa_enter (lv := [(0, .ref (b + 7))]) (by decide +kernel) (Nat.le_of_ble_eq_true rfl) rfl (fun hh hle hnm X => ?_)
  unfold fm_Reader_startsAtom at hM
  refine g_aload_n X 0 rfl d_Reader_startsAtom_0 ?_
  refine g_get X ck_5 fo_7 (fa_xn fo_7 (by decide) hN) 4 (by decide) wd_155 rfl (fa_fvI rfl) d_Reader_startsAtom_1 ?_
  refine g_iconst X d_Reader_startsAtom_4 ?_
  refine g_icmp_eq X 34 d_Reader_startsAtom_5 (by decide) (fun hc1 => ?_) (fun hc1 => ?_)
  · have hM := fa_if_t hM hc1
    refine g_iconst X d_Reader_startsAtom_34 ?_
    refine g_goto X 39 d_Reader_startsAtom_35 (by decide) ?_
    subst hM
    exact g_zret X rfl d_Reader_startsAtom_39
  · have hM := fa_if_f hM hc1
    refine g_aload_n X 0 rfl d_Reader_startsAtom_8 ?_
    refine g_get X ck_5 fo_7 (fa_xn fo_7 (by decide) hN) 4 (by decide) wd_155 rfl (fa_fvI rfl) d_Reader_startsAtom_9 ?_
    refine g_iconst X d_Reader_startsAtom_12 ?_
    refine g_icmp_eq X 34 d_Reader_startsAtom_13 (by decide) (fun hc2 => ?_) (fun hc2 => ?_)
    · have hM := fa_if_t hM hc2
      refine g_iconst X d_Reader_startsAtom_34 ?_
      refine g_goto X 39 d_Reader_startsAtom_35 (by decide) ?_
      subst hM
      exact g_zret X rfl d_Reader_startsAtom_39
    · have hM := fa_if_f hM hc2
      refine g_aload_n X 0 rfl d_Reader_startsAtom_16 ?_
      refine g_get X ck_5 fo_7 (fa_xn fo_7 (by decide) hN) 4 (by decide) wd_155 rfl (fa_fvI rfl) d_Reader_startsAtom_17 ?_
      refine g_ldc X (n := 1684365668) wd_1069 (by decide) d_Reader_startsAtom_20 ?_
      refine g_icmp_eq X 34 d_Reader_startsAtom_22 (by decide) (fun hc3 => ?_) (fun hc3 => ?_)
      · have hM := fa_if_t hM hc3
        refine g_iconst X d_Reader_startsAtom_34 ?_
        refine g_goto X 39 d_Reader_startsAtom_35 (by decide) ?_
        subst hM
        exact g_zret X rfl d_Reader_startsAtom_39
      · have hM := fa_if_f hM hc3
        refine g_aload_n X 0 rfl d_Reader_startsAtom_25 ?_
        refine g_get X ck_5 fo_7 (fa_xn fo_7 (by decide) hN) 4 (by decide) wd_155 rfl (fa_fvI rfl) d_Reader_startsAtom_26 ?_
        refine g_bipush X (by decide) d_Reader_startsAtom_29 ?_
        refine g_icmp_ne X 38 d_Reader_startsAtom_31 (by decide) (fun hc4 => ?_) (fun hc4 => ?_)
        · have hM := fa_if_f hM hc4
          refine g_iconst X d_Reader_startsAtom_38 ?_
          subst hM
          exact g_zret X rfl d_Reader_startsAtom_39
        · have hM := fa_if_t hM hc4
          refine g_iconst X d_Reader_startsAtom_34 ?_
          refine g_goto X 39 d_Reader_startsAtom_35 (by decide) ?_
          subst hM
          exact g_zret X rfl d_Reader_startsAtom_39
theorem d_Reader_leaf_0 : decode prog_6_method_28_code 0 = .ok (.aload_n 0, 1) := by decide +kernel
theorem d_Reader_leaf_1 : decode prog_6_method_28_code 1 = .ok (.invokevirtual 143, 3) := by decide +kernel
theorem d_Reader_leaf_4 : decode prog_6_method_28_code 4 = .ok (.aload_n 0, 1) := by decide +kernel
theorem d_Reader_leaf_5 : decode prog_6_method_28_code 5 = .ok (.invokevirtual 64, 3) := by decide +kernel
theorem d_Reader_leaf_8 : decode prog_6_method_28_code 8 = .ok (.aload_n 0, 1) := by decide +kernel
theorem d_Reader_leaf_9 : decode prog_6_method_28_code 9 = .ok (.getfield 12, 3) := by decide +kernel
theorem d_Reader_leaf_12 : decode prog_6_method_28_code 12 = .ok (.iload_n 1, 1) := by decide +kernel
theorem d_Reader_leaf_13 : decode prog_6_method_28_code 13 = .ok (.iload_n 2, 1) := by decide +kernel
theorem d_Reader_leaf_14 : decode prog_6_method_28_code 14 = .ok (.aload_n 0, 1) := by decide +kernel
theorem d_Reader_leaf_15 : decode prog_6_method_28_code 15 = .ok (.getfield 55, 3) := by decide +kernel
theorem d_Reader_leaf_18 : decode prog_6_method_28_code 18 = .ok (.iconst (-1), 1) := by decide +kernel
theorem d_Reader_leaf_19 : decode prog_6_method_28_code 19 = .ok (.iconst (-1), 1) := by decide +kernel
theorem d_Reader_leaf_20 : decode prog_6_method_28_code 20 = .ok (.iconst (-1), 1) := by decide +kernel
theorem d_Reader_leaf_21 : decode prog_6_method_28_code 21 = .ok (.invokevirtual 153, 3) := by decide +kernel
theorem d_Reader_leaf_24 : decode prog_6_method_28_code 24 = .ok (.ireturn, 1) := by decide +kernel
def fm_Reader_leaf (a1 : Int) (a2 : Int) (w : fa_W) : Option (Int × fa_W) :=
  fa_let (fm_Reader_countThing w) fun w2 =>
  (fm_Reader_advance w2).bind fun w4 =>
  fa_l2 (fm_Program_add 8 a1 a2 (w4 7 12) (-1) (-1) (-1) w4) fun v6 w7 =>
  some (v6, w7)
set_option maxHeartbeats 4000000 in
set_option maxRecDepth 100000 in
theorem c_Reader_leaf {l : Launch} {D : va_G} {b : Nat} {aC : Nat → ClassId} {H0 : Heap} {N T : Nat} (hN : fa_NX ≤ N) (hT : fa_TX ≤ T) (a1 : Int) (a2 : Int)  (w : fa_W) (r : Int × fa_W) (hM : fm_Reader_leaf a1 a2 w = some r) : fa_MC l D b aC H0 N T y_Reader_leaf prog_6_method_28_code 3 ((Option.some Jvm.ClassFile.FieldType.int)) (2) [.ref (b + 7), .int (fa_I a1), .int (fa_I a2)] w (some (.int (fa_I r.1))) r.2 := by
  refine fa_enter (lv := [(0, .ref (b + 7)), (1, .int (fa_I a1)), (2, .int (fa_I a2))]) (by decide +kernel) (Nat.le_of_ble_eq_true rfl) rfl (fun hh hle hnm X => ?_)
  unfold fm_Reader_leaf at hM
  refine g_aload_n X 0 rfl d_Reader_leaf_0 ?_
  obtain ⟨w2, e1⟩ : ∃ q, fm_Reader_countThing w = q := ⟨_, rfl⟩
  have hM := fa_let_to hM e1.symm
  refine g_callV_v X ck_5 fo_7 (fa_xn fo_7 (by decide) hN) rfl mi_Reader_countThing (c_Reader_countThing hN hT w _ e1) wd_1021 rfl (Nat.le_trans (Nat.le_of_ble_eq_true rfl) hle) (st := []) (Nat.le_of_ble_eq_true rfl) rfl d_Reader_leaf_1 ?_
  refine g_aload_n X 0 rfl d_Reader_leaf_4 ?_
  obtain ⟨w4, e3, hM⟩ := fa_ob hM
  refine g_callV_v X ck_5 fo_7 (fa_xn fo_7 (by decide) hN) rfl mi_Reader_advance (c_Reader_advance hN hT w2 _ e3) wd_973 rfl (Nat.le_trans (Nat.le_of_ble_eq_true rfl) hle) (st := []) (Nat.le_of_ble_eq_true rfl) rfl d_Reader_leaf_5 ?_
  refine g_aload_n X 0 rfl d_Reader_leaf_8 ?_
  refine g_get X ck_5 fo_7 (fa_xn fo_7 (by decide) hN) 0 (by decide) wd_150 rfl (fr_7_0 rfl hT) d_Reader_leaf_9 ?_
  refine g_iload_n X 1 rfl d_Reader_leaf_12 ?_
  refine g_iload_n X 2 rfl d_Reader_leaf_13 ?_
  refine g_aload_n X 0 rfl d_Reader_leaf_14 ?_
  refine g_get X ck_5 fo_7 (fa_xn fo_7 (by decide) hN) 12 (by decide) wd_163 rfl (fa_fvI rfl) d_Reader_leaf_15 ?_
  refine g_iconst X d_Reader_leaf_18 ?_
  refine g_iconst X d_Reader_leaf_19 ?_
  refine g_iconst X d_Reader_leaf_20 ?_
  obtain ⟨⟨v6, w7⟩, e5⟩ : ∃ q, fm_Program_add 8 a1 a2 (w4 7 12) (-1) (-1) (-1) w4 = q := ⟨_, rfl⟩
  have hM := fa_l2_e hM e5
  refine g_callV_i X ck_4 fo_8 (fa_xn fo_8 (by decide) hN) rfl mi_Program_add (c_Program_add hN hT 8 a1 a2 (w4 7 12) (-1) (-1) (-1) fo_8 w4 _ e5) wd_1030 rfl (Nat.le_trans (Nat.le_of_ble_eq_true rfl) hle) (st := []) (Nat.le_of_ble_eq_true rfl) rfl d_Reader_leaf_21 ?_
  cases hM
  exact g_iret X d_Reader_leaf_24
theorem d_Reader_variableNamed_0 : decode prog_6_method_30_code 0 = .ok (.aload_n 0, 1) := by decide +kernel
theorem d_Reader_variableNamed_1 : decode prog_6_method_30_code 1 = .ok (.getfield 23, 3) := by decide +kernel
theorem d_Reader_variableNamed_4 : decode prog_6_method_30_code 4 = .ok (.invokevirtual 190, 3) := by decide +kernel
theorem d_Reader_variableNamed_7 : decode prog_6_method_30_code 7 = .ok (.iconst 1, 1) := by decide +kernel
theorem d_Reader_variableNamed_8 : decode prog_6_method_30_code 8 = .ok (.isub, 1) := by decide +kernel
theorem d_Reader_variableNamed_9 : decode prog_6_method_30_code 9 = .ok (.istore_n 2, 1) := by decide +kernel
theorem d_Reader_variableNamed_10 : decode prog_6_method_30_code 10 = .ok (.iload_n 2, 1) := by decide +kernel
theorem d_Reader_variableNamed_11 : decode prog_6_method_30_code 11 = .ok (.ifCond .lt 40, 3) := by decide +kernel
theorem d_Reader_variableNamed_14 : decode prog_6_method_30_code 14 = .ok (.aload_n 0, 1) := by decide +kernel
theorem d_Reader_variableNamed_15 : decode prog_6_method_30_code 15 = .ok (.getfield 12, 3) := by decide +kernel
theorem d_Reader_variableNamed_18 : decode prog_6_method_30_code 18 = .ok (.getfield 128, 3) := by decide +kernel
theorem d_Reader_variableNamed_21 : decode prog_6_method_30_code 21 = .ok (.aload_n 0, 1) := by decide +kernel
theorem d_Reader_variableNamed_22 : decode prog_6_method_30_code 22 = .ok (.getfield 23, 3) := by decide +kernel
theorem d_Reader_variableNamed_25 : decode prog_6_method_30_code 25 = .ok (.iload_n 2, 1) := by decide +kernel
theorem d_Reader_variableNamed_26 : decode prog_6_method_30_code 26 = .ok (.invokevirtual 86, 3) := by decide +kernel
theorem d_Reader_variableNamed_29 : decode prog_6_method_30_code 29 = .ok (.invokevirtual 86, 3) := by decide +kernel
theorem d_Reader_variableNamed_32 : decode prog_6_method_30_code 32 = .ok (.iload_n 1, 1) := by decide +kernel
theorem d_Reader_variableNamed_33 : decode prog_6_method_30_code 33 = .ok (.if_icmp .ne 12, 3) := by decide +kernel
theorem d_Reader_variableNamed_36 : decode prog_6_method_30_code 36 = .ok (.aload_n 0, 1) := by decide +kernel
theorem d_Reader_variableNamed_37 : decode prog_6_method_30_code 37 = .ok (.getfield 23, 3) := by decide +kernel
theorem d_Reader_variableNamed_40 : decode prog_6_method_30_code 40 = .ok (.iload_n 2, 1) := by decide +kernel
theorem d_Reader_variableNamed_41 : decode prog_6_method_30_code 41 = .ok (.invokevirtual 86, 3) := by decide +kernel
theorem d_Reader_variableNamed_44 : decode prog_6_method_30_code 44 = .ok (.ireturn, 1) := by decide +kernel
theorem d_Reader_variableNamed_45 : decode prog_6_method_30_code 45 = .ok (.iinc 2 (-1), 3) := by decide +kernel
theorem d_Reader_variableNamed_48 : decode prog_6_method_30_code 48 = .ok (.goto (-38), 3) := by decide +kernel
theorem d_Reader_variableNamed_51 : decode prog_6_method_30_code 51 = .ok (.iconst (-1), 1) := by decide +kernel
theorem d_Reader_variableNamed_52 : decode prog_6_method_30_code 52 = .ok (.ireturn, 1) := by decide +kernel
def fm_Reader_variableNamed_l10 (a1 : Int) (w : fa_W) : Nat → Int → Option Int
  | 0, _ => none
  | n + 1, x2 => if fa_wr x2 < 0 then
  some (-1)
  else
  (if fa_wr (fr_at (fa_rf 8 6) (fr_at 35 x2 w) w) = fa_wr a1 then
  some (fr_at 35 x2 w)
  else
  (fa_let (x2 + (-1)) fun x2_7 =>
  fm_Reader_variableNamed_l10 a1 w n x2_7))
set_option maxHeartbeats 4000000 in
set_option maxRecDepth 100000 in
theorem c_Reader_variableNamed_l10 {p : Program} {l : Launch} {e : Env} {s : State} {m : MethodId} {args : Array Value} {below : List Frame} {meth : Method} {c : Code} {hh : Nat} {D : va_G} {b : Nat} {aC : Nat → ClassId} {H0 : Heap} {N T : Nat} (X : fa_GX p s m args meth c prog_6_method_30_code 3 ((Option.some Jvm.ClassFile.FieldType.int)) y_Reader_variableNamed.cls D b aC) (hle : 1 ≤ hh) (hN : fa_NX ≤ N) (hT : fa_TX ≤ T) (a1 : Int) {r : Int} (w : fa_W) : ∀ (n : Nat) (x2 : Int), fm_Reader_variableNamed_l10 a1 w n x2 = some r → fa_GJ p l e (fa_rm hh) s m args below meth c 0 0 (MQ below (fa_Qc D b aC H0 N T (some (.int (fa_I r))) w) args s 0 0 (fun q => b ≤ q)) D b aC H0 N T 3 w 10 [(0, .ref (b + 7)), (1, .int (fa_I a1)), (2, .int (fa_I x2))] [] := by
  intro n
  induction n with
  | zero => intro x2 hM; exact fa_no hM
  | succ n ih =>
    intro x2 hM
    rw [fm_Reader_variableNamed_l10] at hM
    refine g_iload_n X 2 rfl d_Reader_variableNamed_10 ?_
    refine g_if_lt X 51 d_Reader_variableNamed_11 (by decide) (fun hc3 => ?_) (fun hc3 => ?_)
    · have hM := fa_if_t hM hc3
      refine g_iconst X d_Reader_variableNamed_51 ?_
      cases hM
      exact g_iret X d_Reader_variableNamed_52
    · have hM := fa_if_f hM hc3
      refine g_aload_n X 0 rfl d_Reader_variableNamed_14 ?_
      refine g_get X ck_5 fo_7 (fa_xn fo_7 (by decide) hN) 0 (by decide) wd_150 rfl (fr_7_0 rfl hT) d_Reader_variableNamed_15 ?_
      refine g_getN X ck_4 fo_8 (fa_xn fo_8 (by decide) hN) 6 (by decide) wd_77 rfl (fa_fvR rfl (fa_xt fo_8 (by decide) hT 6)) d_Reader_variableNamed_18 ?_
      refine g_aload_n X 0 rfl d_Reader_variableNamed_21 ?_
      refine g_get X ck_5 fo_7 (fa_xn fo_7 (by decide) hN) 2 (by decide) wd_153 rfl (fr_7_2 rfl hT) d_Reader_variableNamed_22 ?_
      refine g_iload_n X 2 rfl d_Reader_variableNamed_25 ?_
      refine g_callV_i X ck_6 fo_35 (fa_xn fo_35 (by decide) hN) rfl mi_Row_at (ct_Row_at 35 x2 (fa_ro fo_35 hN hT) w _ rfl) wd_977 rfl (Nat.le_trans (Nat.le_of_ble_eq_true rfl) hle) (st := [.ref (b + (fa_rf 8 6))]) (Nat.le_of_ble_eq_true rfl) rfl d_Reader_variableNamed_26 ?_
      refine g_callV_i X ck_6 (fa_r4_6 _ fo_8) (fa_xn (fa_r4_6 _ fo_8) (by decide) hN) rfl mi_Row_at (ct_Row_at (fa_rf 8 6) (fr_at 35 x2 w) (fa_ro (fa_r4_6 _ fo_8) hN hT) w _ rfl) wd_977 rfl (Nat.le_trans (Nat.le_of_ble_eq_true rfl) hle) (st := []) (Nat.le_of_ble_eq_true rfl) rfl d_Reader_variableNamed_29 ?_
      refine g_iload_n X 1 rfl d_Reader_variableNamed_32 ?_
      refine g_icmp_ne X 45 d_Reader_variableNamed_33 (by decide) (fun hc6 => ?_) (fun hc6 => ?_)
      · have hM := fa_if_f hM hc6
        refine g_iinc X 2 (fun x2_7 => [(2, .int (fa_I x2_7)), (0, .ref (b + 7)), (1, .int (fa_I a1))]) d_Reader_variableNamed_45 rfl (by decide) (fun _ => rfl) (fun x2_7 ex2_7 => ?_)
        have hM := fa_let_to hM ex2_7
        refine g_goto X 10 d_Reader_variableNamed_48 (by decide) ?_
        exact g_lv [1, 2, 0] rfl (ih _ hM)
      · have hM := fa_if_t hM hc6
        refine g_aload_n X 0 rfl d_Reader_variableNamed_36 ?_
        refine g_get X ck_5 fo_7 (fa_xn fo_7 (by decide) hN) 2 (by decide) wd_153 rfl (fr_7_2 rfl hT) d_Reader_variableNamed_37 ?_
        refine g_iload_n X 2 rfl d_Reader_variableNamed_40 ?_
        refine g_callV_i X ck_6 fo_35 (fa_xn fo_35 (by decide) hN) rfl mi_Row_at (ct_Row_at 35 x2 (fa_ro fo_35 hN hT) w _ rfl) wd_977 rfl (Nat.le_trans (Nat.le_of_ble_eq_true rfl) hle) (st := []) (Nat.le_of_ble_eq_true rfl) rfl d_Reader_variableNamed_41 ?_
        cases hM
        exact g_iret X d_Reader_variableNamed_44
def fm_Reader_variableNamed (a1 : Int) (w : fa_W) : Option Int :=
  fa_let ((fm_Row_size 35 w) - 1) fun x2_2 =>
  fm_Reader_variableNamed_l10 a1 w fa_FU x2_2
set_option maxHeartbeats 4000000 in
set_option maxRecDepth 100000 in
theorem c_Reader_variableNamed {l : Launch} {D : va_G} {b : Nat} {aC : Nat → ClassId} {H0 : Heap} {N T : Nat} (hN : fa_NX ≤ N) (hT : fa_TX ≤ T) (a1 : Int)  (w : fa_W) (r : Int) (hM : fm_Reader_variableNamed a1 w = some r) : fa_MC l D b aC H0 N T y_Reader_variableNamed prog_6_method_30_code 3 ((Option.some Jvm.ClassFile.FieldType.int)) (1) [.ref (b + 7), .int (fa_I a1)] w (some (.int (fa_I r))) w := by
  refine fa_enter (lv := [(0, .ref (b + 7)), (1, .int (fa_I a1))]) (by decide +kernel) (Nat.le_of_ble_eq_true rfl) rfl (fun hh hle hnm X => ?_)
  unfold fm_Reader_variableNamed at hM
  refine g_aload_n X 0 rfl d_Reader_variableNamed_0 ?_
  refine g_get X ck_5 fo_7 (fa_xn fo_7 (by decide) hN) 2 (by decide) wd_153 rfl (fr_7_2 rfl hT) d_Reader_variableNamed_1 ?_
  refine g_callV_i X ck_6 fo_35 (fa_xn fo_35 (by decide) hN) rfl mi_Row_size (c_Row_size 35 (fa_ro fo_35 hN hT) w _ rfl) wd_1074 rfl (Nat.le_trans (Nat.le_of_ble_eq_true rfl) hle) (st := []) (Nat.le_of_ble_eq_true rfl) rfl d_Reader_variableNamed_4 ?_
  refine g_iconst X d_Reader_variableNamed_7 ?_
  refine g_isub X d_Reader_variableNamed_8 ?_
  refine g_istore_n X (fun x2_2 => [(2, .int (fa_I x2_2)), (0, .ref (b + 7)), (1, .int (fa_I a1))]) d_Reader_variableNamed_9 (by decide) (fun _ => rfl) (fun x2_2 ex2_2 => ?_)
  have hM := fa_let_to hM ex2_2
  exact g_lv [1, 2, 0] rfl (c_Reader_variableNamed_l10 X hle hN hT a1 w  fa_FU _ hM)
