theorem d_Machine_clear_0 : decode prog_4_method_4_code 0 = .ok (.aload_n 0, 1) := by decide +kernel
theorem d_Machine_clear_1 : decode prog_4_method_4_code 1 = .ok (.getfield 20, 3) := by decide +kernel
theorem d_Machine_clear_4 : decode prog_4_method_4_code 4 = .ok (.invokevirtual 127, 3) := by decide +kernel
theorem d_Machine_clear_7 : decode prog_4_method_4_code 7 = .ok (.aload_n 0, 1) := by decide +kernel
theorem d_Machine_clear_8 : decode prog_4_method_4_code 8 = .ok (.getfield 23, 3) := by decide +kernel
theorem d_Machine_clear_11 : decode prog_4_method_4_code 11 = .ok (.invokevirtual 127, 3) := by decide +kernel
theorem d_Machine_clear_14 : decode prog_4_method_4_code 14 = .ok (.aload_n 0, 1) := by decide +kernel
theorem d_Machine_clear_15 : decode prog_4_method_4_code 15 = .ok (.getfield 26, 3) := by decide +kernel
theorem d_Machine_clear_18 : decode prog_4_method_4_code 18 = .ok (.invokevirtual 127, 3) := by decide +kernel
theorem d_Machine_clear_21 : decode prog_4_method_4_code 21 = .ok (.aload_n 0, 1) := by decide +kernel
theorem d_Machine_clear_22 : decode prog_4_method_4_code 22 = .ok (.getfield 29, 3) := by decide +kernel
theorem d_Machine_clear_25 : decode prog_4_method_4_code 25 = .ok (.invokevirtual 127, 3) := by decide +kernel
theorem d_Machine_clear_28 : decode prog_4_method_4_code 28 = .ok (.aload_n 0, 1) := by decide +kernel
theorem d_Machine_clear_29 : decode prog_4_method_4_code 29 = .ok (.iconst (-1), 1) := by decide +kernel
theorem d_Machine_clear_30 : decode prog_4_method_4_code 30 = .ok (.putfield 39, 3) := by decide +kernel
theorem d_Machine_clear_33 : decode prog_4_method_4_code 33 = .ok (.aload_n 0, 1) := by decide +kernel
theorem d_Machine_clear_34 : decode prog_4_method_4_code 34 = .ok (.iconst 0, 1) := by decide +kernel
theorem d_Machine_clear_35 : decode prog_4_method_4_code 35 = .ok (.putfield 42, 3) := by decide +kernel
theorem d_Machine_clear_38 : decode prog_4_method_4_code 38 = .ok (.aload_n 0, 1) := by decide +kernel
theorem d_Machine_clear_39 : decode prog_4_method_4_code 39 = .ok (.iconst 0, 1) := by decide +kernel
theorem d_Machine_clear_40 : decode prog_4_method_4_code 40 = .ok (.putfield 45, 3) := by decide +kernel
theorem d_Machine_clear_43 : decode prog_4_method_4_code 43 = .ok (.aload_n 0, 1) := by decide +kernel
theorem d_Machine_clear_44 : decode prog_4_method_4_code 44 = .ok (.iconst 0, 1) := by decide +kernel
theorem d_Machine_clear_45 : decode prog_4_method_4_code 45 = .ok (.putfield 48, 3) := by decide +kernel
theorem d_Machine_clear_48 : decode prog_4_method_4_code 48 = .ok (.aload_n 0, 1) := by decide +kernel
theorem d_Machine_clear_49 : decode prog_4_method_4_code 49 = .ok (.iconst 0, 1) := by decide +kernel
theorem d_Machine_clear_50 : decode prog_4_method_4_code 50 = .ok (.putfield 51, 3) := by decide +kernel
theorem d_Machine_clear_53 : decode prog_4_method_4_code 53 = .ok (.return_, 1) := by decide +kernel
def fm_Machine_clear (w : fa_W) : fa_W :=
  fa_let (fm_Row_clear 47 w) fun w2 =>
  fa_let (fm_Row_clear 49 w2) fun w4 =>
  fa_let (fm_Row_clear 51 w4) fun w6 =>
  fa_let (fm_Row_clear 53 w6) fun w8 =>
  fa_let (fa_st w8 44 7 (-1)) fun w9 =>
  fa_let (fa_st w9 44 8 0) fun w10 =>
  fa_let (fa_st w10 44 9 0) fun w11 =>
  fa_let (fa_st w11 44 10 0) fun w12 =>
  fa_let (fa_st w12 44 11 0) fun w13 =>
  w13
set_option maxHeartbeats 4000000 in
set_option maxRecDepth 100000 in
theorem c_Machine_clear {l : Launch} {D : va_G} {b : Nat} {aC : Nat → ClassId} {H0 : Heap} {N T : Nat} (hN : fa_NX ≤ N) (hT : fa_TX ≤ T)   (w : fa_W) (r : fa_W) (hM : fm_Machine_clear w = r) : fa_MC l D b aC H0 N T y_Machine_clear prog_4_method_4_code 1 ((Option.none : Option Jvm.ClassFile.FieldType)) (1) [.ref (b + 44)] w (none) r := by
  refine fa_enter (lv := [(0, .ref (b + 44))]) (by decide +kernel) (Nat.le_of_ble_eq_true rfl) rfl (fun hh hle hnm X => ?_)
  unfold fm_Machine_clear at hM
  refine g_aload_n X 0 rfl d_Machine_clear_0 ?_
  refine g_get X ck_3 fo_44 (fa_xn fo_44 (by decide) hN) 1 (by decide) wd_236 rfl (fr_44_1 rfl hT) d_Machine_clear_1 ?_
  obtain ⟨w2, e1⟩ : ∃ q, fm_Row_clear 47 w = q := ⟨_, rfl⟩
  have hM := fa_let_to hM e1.symm
  refine g_callV_v X ck_6 fo_47 (fa_xn fo_47 (by decide) hN) rfl mi_Row_clear (c_Row_clear 47 (fa_ro fo_47 hN hT) w _ e1) wd_1330 rfl (Nat.le_trans (Nat.le_of_ble_eq_true rfl) hle) (st := []) (Nat.le_of_ble_eq_true rfl) rfl d_Machine_clear_4 ?_
  refine g_aload_n X 0 rfl d_Machine_clear_7 ?_
  refine g_get X ck_3 fo_44 (fa_xn fo_44 (by decide) hN) 2 (by decide) wd_237 rfl (fr_44_2 rfl hT) d_Machine_clear_8 ?_
  obtain ⟨w4, e3⟩ : ∃ q, fm_Row_clear 49 w2 = q := ⟨_, rfl⟩
  have hM := fa_let_to hM e3.symm
  refine g_callV_v X ck_6 fo_49 (fa_xn fo_49 (by decide) hN) rfl mi_Row_clear (c_Row_clear 49 (fa_ro fo_49 hN hT) w2 _ e3) wd_1330 rfl (Nat.le_trans (Nat.le_of_ble_eq_true rfl) hle) (st := []) (Nat.le_of_ble_eq_true rfl) rfl d_Machine_clear_11 ?_
  refine g_aload_n X 0 rfl d_Machine_clear_14 ?_
  refine g_get X ck_3 fo_44 (fa_xn fo_44 (by decide) hN) 3 (by decide) wd_238 rfl (fr_44_3 rfl hT) d_Machine_clear_15 ?_
  obtain ⟨w6, e5⟩ : ∃ q, fm_Row_clear 51 w4 = q := ⟨_, rfl⟩
  have hM := fa_let_to hM e5.symm
  refine g_callV_v X ck_6 fo_51 (fa_xn fo_51 (by decide) hN) rfl mi_Row_clear (c_Row_clear 51 (fa_ro fo_51 hN hT) w4 _ e5) wd_1330 rfl (Nat.le_trans (Nat.le_of_ble_eq_true rfl) hle) (st := []) (Nat.le_of_ble_eq_true rfl) rfl d_Machine_clear_18 ?_
  refine g_aload_n X 0 rfl d_Machine_clear_21 ?_
  refine g_get X ck_3 fo_44 (fa_xn fo_44 (by decide) hN) 4 (by decide) wd_239 rfl (fr_44_4 rfl hT) d_Machine_clear_22 ?_
  obtain ⟨w8, e7⟩ : ∃ q, fm_Row_clear 53 w6 = q := ⟨_, rfl⟩
  have hM := fa_let_to hM e7.symm
  refine g_callV_v X ck_6 fo_53 (fa_xn fo_53 (by decide) hN) rfl mi_Row_clear (c_Row_clear 53 (fa_ro fo_53 hN hT) w6 _ e7) wd_1330 rfl (Nat.le_trans (Nat.le_of_ble_eq_true rfl) hle) (st := []) (Nat.le_of_ble_eq_true rfl) rfl d_Machine_clear_25 ?_
  refine g_aload_n X 0 rfl d_Machine_clear_28 ?_
  refine g_iconst X d_Machine_clear_29 ?_
  refine g_put X ck_3 fo_44 (fa_xn fo_44 (by decide) hN) 7 (z := (-1)) (by decide) wd_242 rfl (fa_fvI' rfl) rfl rfl rfl d_Machine_clear_30 (fun w9 ew9 => ?_)
  have hM := fa_let_to hM ew9
  refine g_aload_n X 0 rfl d_Machine_clear_33 ?_
  refine g_iconst X d_Machine_clear_34 ?_
  refine g_put X ck_3 fo_44 (fa_xn fo_44 (by decide) hN) 8 (z := 0) (by decide) wd_244 rfl (fa_fvI' rfl) rfl rfl rfl d_Machine_clear_35 (fun w10 ew10 => ?_)
  have hM := fa_let_to hM ew10
  refine g_aload_n X 0 rfl d_Machine_clear_38 ?_
  refine g_iconst X d_Machine_clear_39 ?_
  refine g_put X ck_3 fo_44 (fa_xn fo_44 (by decide) hN) 9 (z := 0) (by decide) wd_246 rfl (fa_fvI' rfl) rfl rfl rfl d_Machine_clear_40 (fun w11 ew11 => ?_)
  have hM := fa_let_to hM ew11
  refine g_aload_n X 0 rfl d_Machine_clear_43 ?_
  refine g_iconst X d_Machine_clear_44 ?_
  refine g_put X ck_3 fo_44 (fa_xn fo_44 (by decide) hN) 10 (z := 0) (by decide) wd_248 rfl (fa_fvI' rfl) rfl rfl rfl d_Machine_clear_45 (fun w12 ew12 => ?_)
  have hM := fa_let_to hM ew12
  refine g_aload_n X 0 rfl d_Machine_clear_48 ?_
  refine g_iconst X d_Machine_clear_49 ?_
  refine g_put X ck_3 fo_44 (fa_xn fo_44 (by decide) hN) 11 (z := 0) (by decide) wd_250 rfl (fa_fvI' rfl) rfl rfl rfl d_Machine_clear_50 (fun w13 ew13 => ?_)
  have hM := fa_let_to hM ew13
  subst hM
  exact g_vret X d_Machine_clear_53
theorem d_Machine_begin_0 : decode prog_4_method_7_code 0 = .ok (.aload_n 0, 1) := by decide +kernel
theorem d_Machine_begin_1 : decode prog_4_method_7_code 1 = .ok (.getfield 20, 3) := by decide +kernel
theorem d_Machine_begin_4 : decode prog_4_method_7_code 4 = .ok (.iload_n 1, 1) := by decide +kernel
theorem d_Machine_begin_5 : decode prog_4_method_7_code 5 = .ok (.iconst 4, 1) := by decide +kernel
theorem d_Machine_begin_6 : decode prog_4_method_7_code 6 = .ok (.imul, 1) := by decide +kernel
theorem d_Machine_begin_7 : decode prog_4_method_7_code 7 = .ok (.iload_n 2, 1) := by decide +kernel
theorem d_Machine_begin_8 : decode prog_4_method_7_code 8 = .ok (.iadd, 1) := by decide +kernel
theorem d_Machine_begin_9 : decode prog_4_method_7_code 9 = .ok (.invokevirtual 131, 3) := by decide +kernel
theorem d_Machine_begin_12 : decode prog_4_method_7_code 12 = .ok (.return_, 1) := by decide +kernel
def fm_Machine_begin (a1 : Int) (a2 : Int) (w : fa_W) : fa_W :=
  fa_let (fr_add 47 ((a1 * 4) + a2) w) fun w2 =>
  w2
set_option maxHeartbeats 4000000 in
set_option maxRecDepth 100000 in
theorem c_Machine_begin {l : Launch} {D : va_G} {b : Nat} {aC : Nat → ClassId} {H0 : Heap} {N T : Nat} (hN : fa_NX ≤ N) (hT : fa_TX ≤ T) (a1 : Int) (a2 : Int)  (w : fa_W) (r : fa_W) (hM : fm_Machine_begin a1 a2 w = r) : fa_MC l D b aC H0 N T y_Machine_begin prog_4_method_7_code 3 ((Option.none : Option Jvm.ClassFile.FieldType)) (1) [.ref (b + 44), .int (fa_I a1), .int (fa_I a2)] w (none) r := by
  refine fa_enter (lv := [(0, .ref (b + 44)), (1, .int (fa_I a1)), (2, .int (fa_I a2))]) (by decide +kernel) (Nat.le_of_ble_eq_true rfl) rfl (fun hh hle hnm X => ?_)
  unfold fm_Machine_begin at hM
  refine g_aload_n X 0 rfl d_Machine_begin_0 ?_
  refine g_get X ck_3 fo_44 (fa_xn fo_44 (by decide) hN) 1 (by decide) wd_236 rfl (fr_44_1 rfl hT) d_Machine_begin_1 ?_
  refine g_iload_n X 1 rfl d_Machine_begin_4 ?_
  refine g_iconst X d_Machine_begin_5 ?_
  refine g_imul X d_Machine_begin_6 ?_
  refine g_iload_n X 2 rfl d_Machine_begin_7 ?_
  refine g_iadd X d_Machine_begin_8 ?_
  obtain ⟨w2, e1⟩ : ∃ q, fr_add 47 ((a1 * 4) + a2) w = q := ⟨_, rfl⟩
  have hM := fa_let_to hM e1.symm
  refine g_callV_v X ck_6 fo_47 (fa_xn fo_47 (by decide) hN) rfl mi_Row_add (ct_Row_add 47 ((a1 * 4) + a2) (fa_ro fo_47 hN hT) w _ e1) wd_1339 rfl (Nat.le_trans (Nat.le_of_ble_eq_true rfl) hle) (st := []) (Nat.le_of_ble_eq_true rfl) rfl d_Machine_begin_9 ?_
  subst hM
  exact g_vret X d_Machine_begin_12
theorem d_Machine_frame_0 : decode prog_4_method_9_code 0 = .ok (.aload_n 0, 1) := by decide +kernel
theorem d_Machine_frame_1 : decode prog_4_method_9_code 1 = .ok (.getfield 29, 3) := by decide +kernel
theorem d_Machine_frame_4 : decode prog_4_method_9_code 4 = .ok (.invokevirtual 137, 3) := by decide +kernel
theorem d_Machine_frame_7 : decode prog_4_method_9_code 7 = .ok (.iconst 0, 1) := by decide +kernel
theorem d_Machine_frame_8 : decode prog_4_method_9_code 8 = .ok (.invokestatic 140, 3) := by decide +kernel
theorem d_Machine_frame_11 : decode prog_4_method_9_code 11 = .ok (.ireturn, 1) := by decide +kernel
def fm_Machine_frame (w : fa_W) : Int :=
  fa_max (fr_last 53 w) 0
set_option maxHeartbeats 4000000 in
set_option maxRecDepth 100000 in
theorem c_Machine_frame {l : Launch} {D : va_G} {b : Nat} {aC : Nat → ClassId} {H0 : Heap} {N T : Nat} (hN : fa_NX ≤ N) (hT : fa_TX ≤ T)   (w : fa_W) (r : Int) (hM : fm_Machine_frame w = r) : fa_MC l D b aC H0 N T y_Machine_frame prog_4_method_9_code 1 ((Option.some Jvm.ClassFile.FieldType.int)) (2) [.ref (b + 44)] w (some (.int (fa_I r))) w := by
  refine fa_enter (lv := [(0, .ref (b + 44))]) (by decide +kernel) (Nat.le_of_ble_eq_true rfl) rfl (fun hh hle hnm X => ?_)
  unfold fm_Machine_frame at hM
  refine g_aload_n X 0 rfl d_Machine_frame_0 ?_
  refine g_get X ck_3 fo_44 (fa_xn fo_44 (by decide) hN) 4 (by decide) wd_239 rfl (fr_44_4 rfl hT) d_Machine_frame_1 ?_
  refine g_callV_i X ck_6 fo_53 (fa_xn fo_53 (by decide) hN) rfl mi_Row_last (ct_Row_last 53 (fa_ro fo_53 hN hT) w _ rfl) wd_1353 rfl (Nat.le_trans (Nat.le_of_ble_eq_true rfl) hle) (st := []) (Nat.le_of_ble_eq_true rfl) rfl d_Machine_frame_4 ?_
  refine g_iconst X d_Machine_frame_7 ?_
  refine g_mmax X (Nat.le_trans (Nat.le_of_ble_eq_true rfl) hle) wd_1357 (Nat.le_of_ble_eq_true rfl) d_Machine_frame_8 ?_
  subst hM
  exact g_iret X d_Machine_frame_11
theorem d_Machine_handed_0 : decode prog_4_method_10_code 0 = .ok (.aload_n 0, 1) := by decide +kernel
theorem d_Machine_handed_1 : decode prog_4_method_10_code 1 = .ok (.invokevirtual 145, 3) := by decide +kernel
theorem d_Machine_handed_4 : decode prog_4_method_10_code 4 = .ok (.bipush 32, 2) := by decide +kernel
theorem d_Machine_handed_6 : decode prog_4_method_10_code 6 = .ok (.imul, 1) := by decide +kernel
theorem d_Machine_handed_7 : decode prog_4_method_10_code 7 = .ok (.iload_n 1, 1) := by decide +kernel
theorem d_Machine_handed_8 : decode prog_4_method_10_code 8 = .ok (.iadd, 1) := by decide +kernel
theorem d_Machine_handed_9 : decode prog_4_method_10_code 9 = .ok (.ireturn, 1) := by decide +kernel
def fm_Machine_handed (a1 : Int) (w : fa_W) : Int :=
  ((fm_Machine_frame w) * 32) + a1
set_option maxHeartbeats 4000000 in
set_option maxRecDepth 100000 in
theorem c_Machine_handed {l : Launch} {D : va_G} {b : Nat} {aC : Nat → ClassId} {H0 : Heap} {N T : Nat} (hN : fa_NX ≤ N) (hT : fa_TX ≤ T) (a1 : Int)  (w : fa_W) (r : Int) (hM : fm_Machine_handed a1 w = r) : fa_MC l D b aC H0 N T y_Machine_handed prog_4_method_10_code 2 ((Option.some Jvm.ClassFile.FieldType.int)) (3) [.ref (b + 44), .int (fa_I a1)] w (some (.int (fa_I r))) w := by
  refine fa_enter (lv := [(0, .ref (b + 44)), (1, .int (fa_I a1))]) (by decide +kernel) (Nat.le_of_ble_eq_true rfl) rfl (fun hh hle hnm X => ?_)
  unfold fm_Machine_handed at hM
  refine g_aload_n X 0 rfl d_Machine_handed_0 ?_
  refine g_callV_i X ck_3 fo_44 (fa_xn fo_44 (by decide) hN) rfl mi_Machine_frame (c_Machine_frame hN hT w _ rfl) wd_1349 rfl (Nat.le_trans (Nat.le_of_ble_eq_true rfl) hle) (st := []) (Nat.le_of_ble_eq_true rfl) rfl d_Machine_handed_1 ?_
  refine g_bipush X (by decide) d_Machine_handed_4 ?_
  refine g_imul X d_Machine_handed_6 ?_
  refine g_iload_n X 1 rfl d_Machine_handed_7 ?_
  refine g_iadd X d_Machine_handed_8 ?_
  subst hM
  exact g_iret X d_Machine_handed_9
theorem d_Machine_beginPart_0 : decode prog_4_method_8_code 0 = .ok (.aload_n 0, 1) := by decide +kernel
theorem d_Machine_beginPart_1 : decode prog_4_method_8_code 1 = .ok (.iload_n 2, 1) := by decide +kernel
theorem d_Machine_beginPart_2 : decode prog_4_method_8_code 2 = .ok (.iload_n 3, 1) := by decide +kernel
theorem d_Machine_beginPart_3 : decode prog_4_method_8_code 3 = .ok (.iconst 1, 1) := by decide +kernel
theorem d_Machine_beginPart_4 : decode prog_4_method_8_code 4 = .ok (.iadd, 1) := by decide +kernel
theorem d_Machine_beginPart_5 : decode prog_4_method_8_code 5 = .ok (.invokevirtual 91, 3) := by decide +kernel
theorem d_Machine_beginPart_8 : decode prog_4_method_8_code 8 = .ok (.aload_n 0, 1) := by decide +kernel
theorem d_Machine_beginPart_9 : decode prog_4_method_8_code 9 = .ok (.aload_n 1, 1) := by decide +kernel
theorem d_Machine_beginPart_10 : decode prog_4_method_8_code 10 = .ok (.iload_n 2, 1) := by decide +kernel
theorem d_Machine_beginPart_11 : decode prog_4_method_8_code 11 = .ok (.iload_n 3, 1) := by decide +kernel
theorem d_Machine_beginPart_12 : decode prog_4_method_8_code 12 = .ok (.invokevirtual 134, 3) := by decide +kernel
theorem d_Machine_beginPart_15 : decode prog_4_method_8_code 15 = .ok (.iconst 0, 1) := by decide +kernel
theorem d_Machine_beginPart_16 : decode prog_4_method_8_code 16 = .ok (.invokevirtual 91, 3) := by decide +kernel
theorem d_Machine_beginPart_19 : decode prog_4_method_8_code 19 = .ok (.return_, 1) := by decide +kernel
def fm_Machine_beginPart (a1 : Nat) (a2 : Int) (a3 : Int) (w : fa_W) : fa_W :=
  fa_let (fm_Machine_begin a2 (a3 + 1) w) fun w2 =>
  fa_let (fm_Machine_begin (fm_Program_part a1 a2 a3 w2) 0 w2) fun w5 =>
  w5
set_option maxHeartbeats 4000000 in
set_option maxRecDepth 100000 in
theorem c_Machine_beginPart {l : Launch} {D : va_G} {b : Nat} {aC : Nat → ClassId} {H0 : Heap} {N T : Nat} (hN : fa_NX ≤ N) (hT : fa_TX ≤ T) (a1 : Nat) (a2 : Int) (a3 : Int) (ha1 : (fa_sh a1).1 = 4)  (w : fa_W) (r : fa_W) (hM : fm_Machine_beginPart a1 a2 a3 w = r) : fa_MC l D b aC H0 N T y_Machine_beginPart prog_4_method_8_code 4 ((Option.none : Option Jvm.ClassFile.FieldType)) (2) [.ref (b + 44), .ref (b + a1), .int (fa_I a2), .int (fa_I a3)] w (none) r := by
  refine fa_enter (lv := [(0, .ref (b + 44)), (1, .ref (b + a1)), (2, .int (fa_I a2)), (3, .int (fa_I a3))]) (by decide +kernel) (Nat.le_of_ble_eq_true rfl) rfl (fun hh hle hnm X => ?_)
  unfold fm_Machine_beginPart at hM
  refine g_aload_n X 0 rfl d_Machine_beginPart_0 ?_
  refine g_iload_n X 2 rfl d_Machine_beginPart_1 ?_
  refine g_iload_n X 3 rfl d_Machine_beginPart_2 ?_
  refine g_iconst X d_Machine_beginPart_3 ?_
  refine g_iadd X d_Machine_beginPart_4 ?_
  obtain ⟨w2, e1⟩ : ∃ q, fm_Machine_begin a2 (a3 + 1) w = q := ⟨_, rfl⟩
  have hM := fa_let_to hM e1.symm
  refine g_callV_v X ck_3 fo_44 (fa_xn fo_44 (by decide) hN) rfl mi_Machine_begin (c_Machine_begin hN hT a2 (a3 + 1) w _ e1) wd_1335 rfl (Nat.le_trans (Nat.le_of_ble_eq_true rfl) hle) (st := []) (Nat.le_of_ble_eq_true rfl) rfl d_Machine_beginPart_5 ?_
  refine g_aload_n X 0 rfl d_Machine_beginPart_8 ?_
  refine g_aload_n X 1 rfl d_Machine_beginPart_9 ?_
  refine g_iload_n X 2 rfl d_Machine_beginPart_10 ?_
  refine g_iload_n X 3 rfl d_Machine_beginPart_11 ?_
  refine g_callV_i X ck_4 ha1 (fa_xn ha1 (by decide) hN) rfl mi_Program_part (c_Program_part hN hT a1 a2 a3 ha1 w2 _ rfl) wd_1371 rfl (Nat.le_trans (Nat.le_of_ble_eq_true rfl) hle) (st := [.ref (b + 44)]) (Nat.le_of_ble_eq_true rfl) rfl d_Machine_beginPart_12 ?_
  refine g_iconst X d_Machine_beginPart_15 ?_
  obtain ⟨w5, e4⟩ : ∃ q, fm_Machine_begin (fm_Program_part a1 a2 a3 w2) 0 w2 = q := ⟨_, rfl⟩
  have hM := fa_let_to hM e4.symm
  refine g_callV_v X ck_3 fo_44 (fa_xn fo_44 (by decide) hN) rfl mi_Machine_begin (c_Machine_begin hN hT (fm_Program_part a1 a2 a3 w2) 0 w2 _ e4) wd_1335 rfl (Nat.le_trans (Nat.le_of_ble_eq_true rfl) hle) (st := []) (Nat.le_of_ble_eq_true rfl) rfl d_Machine_beginPart_16 ?_
  subst hM
  exact g_vret X d_Machine_beginPart_19
theorem d_Machine_goChoice_0 : decode prog_4_method_13_code 0 = .ok (.iload_n 3, 1) := by decide +kernel
theorem d_Machine_goChoice_1 : decode prog_4_method_13_code 1 = .ok (.ifCond .ne 13, 3) := by decide +kernel
theorem d_Machine_goChoice_4 : decode prog_4_method_13_code 4 = .ok (.aload_n 0, 1) := by decide +kernel
theorem d_Machine_goChoice_5 : decode prog_4_method_13_code 5 = .ok (.aload_n 1, 1) := by decide +kernel
theorem d_Machine_goChoice_6 : decode prog_4_method_13_code 6 = .ok (.iload_n 2, 1) := by decide +kernel
theorem d_Machine_goChoice_7 : decode prog_4_method_13_code 7 = .ok (.iconst 0, 1) := by decide +kernel
theorem d_Machine_goChoice_8 : decode prog_4_method_13_code 8 = .ok (.invokevirtual 169, 3) := by decide +kernel
theorem d_Machine_goChoice_11 : decode prog_4_method_13_code 11 = .ok (.goto 28, 3) := by decide +kernel
theorem d_Machine_goChoice_14 : decode prog_4_method_13_code 14 = .ok (.aload_n 0, 1) := by decide +kernel
theorem d_Machine_goChoice_15 : decode prog_4_method_13_code 15 = .ok (.aload_n 1, 1) := by decide +kernel
theorem d_Machine_goChoice_16 : decode prog_4_method_13_code 16 = .ok (.iload_n 2, 1) := by decide +kernel
theorem d_Machine_goChoice_17 : decode prog_4_method_13_code 17 = .ok (.aload_n 0, 1) := by decide +kernel
theorem d_Machine_goChoice_18 : decode prog_4_method_13_code 18 = .ok (.getfield 23, 3) := by decide +kernel
theorem d_Machine_goChoice_21 : decode prog_4_method_13_code 21 = .ok (.invokevirtual 99, 3) := by decide +kernel
theorem d_Machine_goChoice_24 : decode prog_4_method_13_code 24 = .ok (.ifCond .eq 7, 3) := by decide +kernel
theorem d_Machine_goChoice_27 : decode prog_4_method_13_code 27 = .ok (.iconst 1, 1) := by decide +kernel
theorem d_Machine_goChoice_28 : decode prog_4_method_13_code 28 = .ok (.goto 4, 3) := by decide +kernel
theorem d_Machine_goChoice_31 : decode prog_4_method_13_code 31 = .ok (.iconst 2, 1) := by decide +kernel
theorem d_Machine_goChoice_32 : decode prog_4_method_13_code 32 = .ok (.invokevirtual 134, 3) := by decide +kernel
theorem d_Machine_goChoice_35 : decode prog_4_method_13_code 35 = .ok (.iconst 0, 1) := by decide +kernel
theorem d_Machine_goChoice_36 : decode prog_4_method_13_code 36 = .ok (.invokevirtual 91, 3) := by decide +kernel
theorem d_Machine_goChoice_39 : decode prog_4_method_13_code 39 = .ok (.return_, 1) := by decide +kernel
def fm_Machine_goChoice_j32 (a1 : Nat) (a2 : Int) (a3 : Int) (s0 : Int) (s1 : Int) (w : fa_W) : fa_W :=
  fa_let (fm_Machine_begin (fm_Program_part a1 s1 s0 w) 0 w) fun w8 =>
  w8
set_option maxHeartbeats 4000000 in
set_option maxRecDepth 100000 in
theorem c_Machine_goChoice_j32 {p : Program} {l : Launch} {e : Env} {s : State} {m : MethodId} {args : Array Value} {below : List Frame} {meth : Method} {c : Code} {hh : Nat} {D : va_G} {b : Nat} {aC : Nat → ClassId} {H0 : Heap} {N T : Nat} (X : fa_GX p s m args meth c prog_4_method_13_code 4 ((Option.none : Option Jvm.ClassFile.FieldType)) y_Machine_goChoice.cls D b aC) (hle : 3 ≤ hh) (hN : fa_NX ≤ N) (hT : fa_TX ≤ T) (a1 : Nat) (a2 : Int) (a3 : Int) (ha1 : (fa_sh a1).1 = 4) {r : fa_W}  : ∀ (s0 : Int) (s1 : Int) (w : fa_W) (_ : fm_Machine_goChoice_j32 a1 a2 a3 s0 s1 w = r), fa_GJ p l e (fa_rm hh) s m args below meth c 0 0 (MQ below (fa_Qc D b aC H0 N T (none) r) args s 0 0 (fun q => b ≤ q)) D b aC H0 N T 4 w 32 [] [.int (fa_I s0), .int (fa_I s1), .ref (b + a1), .ref (b + 44)] := by
  intro s0 s1 w hM
  unfold fm_Machine_goChoice_j32 at hM
  refine g_callV_i X ck_4 ha1 (fa_xn ha1 (by decide) hN) rfl mi_Program_part (c_Program_part hN hT a1 s1 s0 ha1 w _ rfl) wd_1371 rfl (Nat.le_trans (Nat.le_of_ble_eq_true rfl) hle) (st := [.ref (b + 44)]) (Nat.le_of_ble_eq_true rfl) rfl d_Machine_goChoice_32 ?_
  refine g_iconst X d_Machine_goChoice_35 ?_
  obtain ⟨w8, e7⟩ : ∃ q, fm_Machine_begin (fm_Program_part a1 s1 s0 w) 0 w = q := ⟨_, rfl⟩
  have hM := fa_let_to hM e7.symm
  refine g_callV_v X ck_3 fo_44 (fa_xn fo_44 (by decide) hN) rfl mi_Machine_begin (c_Machine_begin hN hT (fm_Program_part a1 s1 s0 w) 0 w _ e7) wd_1335 rfl (Nat.le_trans (Nat.le_of_ble_eq_true rfl) hle) (st := []) (Nat.le_of_ble_eq_true rfl) rfl d_Machine_goChoice_36 ?_
  subst hM
  exact g_vret X d_Machine_goChoice_39
def fm_Machine_goChoice (a1 : Nat) (a2 : Int) (a3 : Int) (w : fa_W) : fa_W :=
  if fa_wr a3 = 0 then
  (fa_let (fm_Machine_beginPart a1 a2 0 w) fun w10 =>
  w10)
  else
  (fa_l2 (fr_drop 49 w) fun v3 w4 =>
  if fa_wr v3 = 0 then
  fm_Machine_goChoice_j32 a1 a2 a3 2 a2 w4
  else
  fm_Machine_goChoice_j32 a1 a2 a3 1 a2 w4)
set_option maxHeartbeats 4000000 in
set_option maxRecDepth 100000 in
theorem c_Machine_goChoice {l : Launch} {D : va_G} {b : Nat} {aC : Nat → ClassId} {H0 : Heap} {N T : Nat} (hN : fa_NX ≤ N) (hT : fa_TX ≤ T) (a1 : Nat) (a2 : Int) (a3 : Int) (ha1 : (fa_sh a1).1 = 4)  (w : fa_W) (r : fa_W) (hM : fm_Machine_goChoice a1 a2 a3 w = r) : fa_MC l D b aC H0 N T y_Machine_goChoice prog_4_method_13_code 4 ((Option.none : Option Jvm.ClassFile.FieldType)) (3) [.ref (b + 44), .ref (b + a1), .int (fa_I a2), .int (fa_I a3)] w (none) r := by
  refine fa_enter (lv := [(0, .ref (b + 44)), (1, .ref (b + a1)), (2, .int (fa_I a2)), (3, .int (fa_I a3))]) (by decide +kernel) (Nat.le_of_ble_eq_true rfl) rfl (fun hh hle hnm X => ?_)
  unfold fm_Machine_goChoice at hM
  refine g_iload_n X 3 rfl d_Machine_goChoice_0 ?_
  refine g_if_ne X 14 d_Machine_goChoice_1 (by decide) (fun hc1 => ?_) (fun hc1 => ?_)
  · have hM := fa_if_f hM hc1
    refine g_aload_n X 0 rfl d_Machine_goChoice_14 ?_
    refine g_aload_n X 1 rfl d_Machine_goChoice_15 ?_
    refine g_iload_n X 2 rfl d_Machine_goChoice_16 ?_
    refine g_aload_n X 0 rfl d_Machine_goChoice_17 ?_
    refine g_get X ck_3 fo_44 (fa_xn fo_44 (by decide) hN) 2 (by decide) wd_237 rfl (fr_44_2 rfl hT) d_Machine_goChoice_18 ?_
    obtain ⟨⟨v3, w4⟩, e2⟩ : ∃ q, fr_drop 49 w = q := ⟨_, rfl⟩
    have hM := fa_l2_e hM e2
    refine g_callV_i X ck_6 fo_49 (fa_xn fo_49 (by decide) hN) rfl mi_Row_drop (ct_Row_drop 49 (fa_ro fo_49 hN hT) w _ e2) wd_1342 rfl (Nat.le_trans (Nat.le_of_ble_eq_true rfl) hle) (st := [.int (fa_I a2), .ref (b + a1), .ref (b + 44)]) (Nat.le_of_ble_eq_true rfl) rfl d_Machine_goChoice_21 ?_
    refine g_if_eq X 31 d_Machine_goChoice_24 (by decide) (fun hc5 => ?_) (fun hc5 => ?_)
    · have hM := fa_if_t hM hc5
      refine g_iconst X d_Machine_goChoice_31 ?_
      exact g_lv [] rfl (c_Machine_goChoice_j32 X hle hN hT a1 a2 a3 ha1    _ _ _ hM)
    · have hM := fa_if_f hM hc5
      refine g_iconst X d_Machine_goChoice_27 ?_
      refine g_goto X 32 d_Machine_goChoice_28 (by decide) ?_
      exact g_lv [] rfl (c_Machine_goChoice_j32 X hle hN hT a1 a2 a3 ha1    _ _ _ hM)
  · have hM := fa_if_t hM hc1
    refine g_aload_n X 0 rfl d_Machine_goChoice_4 ?_
    refine g_aload_n X 1 rfl d_Machine_goChoice_5 ?_
    refine g_iload_n X 2 rfl d_Machine_goChoice_6 ?_
    refine g_iconst X d_Machine_goChoice_7 ?_
    obtain ⟨w10, e9⟩ : ∃ q, fm_Machine_beginPart a1 a2 0 w = q := ⟨_, rfl⟩
    have hM := fa_let_to hM e9.symm
    refine g_callV_v X ck_3 fo_44 (fa_xn fo_44 (by decide) hN) rfl mi_Machine_beginPart (c_Machine_beginPart hN hT a1 a2 0 ha1 w _ e9) wd_1367 rfl (Nat.le_trans (Nat.le_of_ble_eq_true rfl) hle) (st := []) (Nat.le_of_ble_eq_true rfl) rfl d_Machine_goChoice_8 ?_
    refine g_goto X 39 d_Machine_goChoice_11 (by decide) ?_
    subst hM
    exact g_vret X d_Machine_goChoice_39
theorem d_Machine_goLet_0 : decode prog_4_method_14_code 0 = .ok (.iload_n 3, 1) := by decide +kernel
theorem d_Machine_goLet_1 : decode prog_4_method_14_code 1 = .ok (.ifCond .ne 13, 3) := by decide +kernel
theorem d_Machine_goLet_4 : decode prog_4_method_14_code 4 = .ok (.aload_n 0, 1) := by decide +kernel
theorem d_Machine_goLet_5 : decode prog_4_method_14_code 5 = .ok (.aload_n 1, 1) := by decide +kernel
theorem d_Machine_goLet_6 : decode prog_4_method_14_code 6 = .ok (.iload_n 2, 1) := by decide +kernel
theorem d_Machine_goLet_7 : decode prog_4_method_14_code 7 = .ok (.iconst 0, 1) := by decide +kernel
theorem d_Machine_goLet_8 : decode prog_4_method_14_code 8 = .ok (.invokevirtual 169, 3) := by decide +kernel
theorem d_Machine_goLet_11 : decode prog_4_method_14_code 11 = .ok (.goto 41, 3) := by decide +kernel
theorem d_Machine_goLet_14 : decode prog_4_method_14_code 14 = .ok (.aload_n 0, 1) := by decide +kernel
theorem d_Machine_goLet_15 : decode prog_4_method_14_code 15 = .ok (.getfield 14, 3) := by decide +kernel
theorem d_Machine_goLet_18 : decode prog_4_method_14_code 18 = .ok (.aload_n 0, 1) := by decide +kernel
theorem d_Machine_goLet_19 : decode prog_4_method_14_code 19 = .ok (.invokevirtual 145, 3) := by decide +kernel
theorem d_Machine_goLet_22 : decode prog_4_method_14_code 22 = .ok (.bipush 74, 2) := by decide +kernel
theorem d_Machine_goLet_24 : decode prog_4_method_14_code 24 = .ok (.imul, 1) := by decide +kernel
theorem d_Machine_goLet_25 : decode prog_4_method_14_code 25 = .ok (.aload_n 1, 1) := by decide +kernel
theorem d_Machine_goLet_26 : decode prog_4_method_14_code 26 = .ok (.iload_n 2, 1) := by decide +kernel
theorem d_Machine_goLet_27 : decode prog_4_method_14_code 27 = .ok (.invokevirtual 151, 3) := by decide +kernel
theorem d_Machine_goLet_30 : decode prog_4_method_14_code 30 = .ok (.iadd, 1) := by decide +kernel
theorem d_Machine_goLet_31 : decode prog_4_method_14_code 31 = .ok (.aload_n 0, 1) := by decide +kernel
theorem d_Machine_goLet_32 : decode prog_4_method_14_code 32 = .ok (.getfield 23, 3) := by decide +kernel
theorem d_Machine_goLet_35 : decode prog_4_method_14_code 35 = .ok (.invokevirtual 99, 3) := by decide +kernel
theorem d_Machine_goLet_38 : decode prog_4_method_14_code 38 = .ok (.invokevirtual 172, 3) := by decide +kernel
theorem d_Machine_goLet_41 : decode prog_4_method_14_code 41 = .ok (.aload_n 0, 1) := by decide +kernel
theorem d_Machine_goLet_42 : decode prog_4_method_14_code 42 = .ok (.aload_n 1, 1) := by decide +kernel
theorem d_Machine_goLet_43 : decode prog_4_method_14_code 43 = .ok (.iload_n 2, 1) := by decide +kernel
theorem d_Machine_goLet_44 : decode prog_4_method_14_code 44 = .ok (.iconst 1, 1) := by decide +kernel
theorem d_Machine_goLet_45 : decode prog_4_method_14_code 45 = .ok (.invokevirtual 134, 3) := by decide +kernel
theorem d_Machine_goLet_48 : decode prog_4_method_14_code 48 = .ok (.iconst 0, 1) := by decide +kernel
theorem d_Machine_goLet_49 : decode prog_4_method_14_code 49 = .ok (.invokevirtual 91, 3) := by decide +kernel
theorem d_Machine_goLet_52 : decode prog_4_method_14_code 52 = .ok (.return_, 1) := by decide +kernel
def fm_Machine_goLet (a1 : Nat) (a2 : Int) (a3 : Int) (w : fa_W) : fa_W :=
  if fa_wr a3 = 0 then
  (fa_let (fm_Machine_beginPart a1 a2 0 w) fun w13 =>
  w13)
  else
  (fa_l2 (fr_drop 49 w) fun v5 w6 =>
  fa_let (fr_set 45 (((fm_Machine_frame w) * 74) + (fm_Program_value a1 a2 w)) v5 w6) fun w8 =>
  fa_let (fm_Machine_begin (fm_Program_part a1 a2 1 w8) 0 w8) fun w11 =>
  w11)
set_option maxHeartbeats 4000000 in
set_option maxRecDepth 100000 in
theorem c_Machine_goLet {l : Launch} {D : va_G} {b : Nat} {aC : Nat → ClassId} {H0 : Heap} {N T : Nat} (hN : fa_NX ≤ N) (hT : fa_TX ≤ T) (a1 : Nat) (a2 : Int) (a3 : Int) (ha1 : (fa_sh a1).1 = 4)  (w : fa_W) (r : fa_W) (hM : fm_Machine_goLet a1 a2 a3 w = r) : fa_MC l D b aC H0 N T y_Machine_goLet prog_4_method_14_code 4 ((Option.none : Option Jvm.ClassFile.FieldType)) (3) [.ref (b + 44), .ref (b + a1), .int (fa_I a2), .int (fa_I a3)] w (none) r := by
  refine fa_enter (lv := [(0, .ref (b + 44)), (1, .ref (b + a1)), (2, .int (fa_I a2)), (3, .int (fa_I a3))]) (by decide +kernel) (Nat.le_of_ble_eq_true rfl) rfl (fun hh hle hnm X => ?_)
  unfold fm_Machine_goLet at hM
  refine g_iload_n X 3 rfl d_Machine_goLet_0 ?_
  refine g_if_ne X 14 d_Machine_goLet_1 (by decide) (fun hc1 => ?_) (fun hc1 => ?_)
  · have hM := fa_if_f hM hc1
    refine g_aload_n X 0 rfl d_Machine_goLet_14 ?_
    refine g_get X ck_3 fo_44 (fa_xn fo_44 (by decide) hN) 0 (by decide) wd_235 rfl (fr_44_0 rfl hT) d_Machine_goLet_15 ?_
    refine g_aload_n X 0 rfl d_Machine_goLet_18 ?_
    refine g_callV_i X ck_3 fo_44 (fa_xn fo_44 (by decide) hN) rfl mi_Machine_frame (c_Machine_frame hN hT w _ rfl) wd_1349 rfl (Nat.le_trans (Nat.le_of_ble_eq_true rfl) hle) (st := [.ref (b + 45)]) (Nat.le_of_ble_eq_true rfl) rfl d_Machine_goLet_19 ?_
    refine g_bipush X (by decide) d_Machine_goLet_22 ?_
    refine g_imul X d_Machine_goLet_24 ?_
    refine g_aload_n X 1 rfl d_Machine_goLet_25 ?_
    refine g_iload_n X 2 rfl d_Machine_goLet_26 ?_
    refine g_callV_i X ck_4 ha1 (fa_xn ha1 (by decide) hN) rfl mi_Program_value (c_Program_value hN hT a1 a2 ha1 w _ rfl) wd_1348 rfl (Nat.le_trans (Nat.le_of_ble_eq_true rfl) hle) (st := [.int (fa_I ((fm_Machine_frame w) * 74)), .ref (b + 45)]) (Nat.le_of_ble_eq_true rfl) rfl d_Machine_goLet_27 ?_
    refine g_iadd X d_Machine_goLet_30 ?_
    refine g_aload_n X 0 rfl d_Machine_goLet_31 ?_
    refine g_get X ck_3 fo_44 (fa_xn fo_44 (by decide) hN) 2 (by decide) wd_237 rfl (fr_44_2 rfl hT) d_Machine_goLet_32 ?_
    obtain ⟨⟨v5, w6⟩, e4⟩ : ∃ q, fr_drop 49 w = q := ⟨_, rfl⟩
    have hM := fa_l2_e hM e4
    refine g_callV_i X ck_6 fo_49 (fa_xn fo_49 (by decide) hN) rfl mi_Row_drop (ct_Row_drop 49 (fa_ro fo_49 hN hT) w _ e4) wd_1342 rfl (Nat.le_trans (Nat.le_of_ble_eq_true rfl) hle) (st := [.int (fa_I (((fm_Machine_frame w) * 74) + (fm_Program_value a1 a2 w))), .ref (b + 45)]) (Nat.le_of_ble_eq_true rfl) rfl d_Machine_goLet_35 ?_
    obtain ⟨w8, e7⟩ : ∃ q, fr_set 45 (((fm_Machine_frame w) * 74) + (fm_Program_value a1 a2 w)) v5 w6 = q := ⟨_, rfl⟩
    have hM := fa_let_to hM e7.symm
    refine g_callV_v X ck_6 fo_45 (fa_xn fo_45 (by decide) hN) rfl mi_Row_set (ct_Row_set 45 (((fm_Machine_frame w) * 74) + (fm_Program_value a1 a2 w)) v5 (fa_ro fo_45 hN hT) w6 _ e7) wd_1376 rfl (Nat.le_trans (Nat.le_of_ble_eq_true rfl) hle) (st := []) (Nat.le_of_ble_eq_true rfl) rfl d_Machine_goLet_38 ?_
    refine g_aload_n X 0 rfl d_Machine_goLet_41 ?_
    refine g_aload_n X 1 rfl d_Machine_goLet_42 ?_
    refine g_iload_n X 2 rfl d_Machine_goLet_43 ?_
    refine g_iconst X d_Machine_goLet_44 ?_
    refine g_callV_i X ck_4 ha1 (fa_xn ha1 (by decide) hN) rfl mi_Program_part (c_Program_part hN hT a1 a2 1 ha1 w8 _ rfl) wd_1371 rfl (Nat.le_trans (Nat.le_of_ble_eq_true rfl) hle) (st := [.ref (b + 44)]) (Nat.le_of_ble_eq_true rfl) rfl d_Machine_goLet_45 ?_
    refine g_iconst X d_Machine_goLet_48 ?_
    obtain ⟨w11, e10⟩ : ∃ q, fm_Machine_begin (fm_Program_part a1 a2 1 w8) 0 w8 = q := ⟨_, rfl⟩
    have hM := fa_let_to hM e10.symm
    refine g_callV_v X ck_3 fo_44 (fa_xn fo_44 (by decide) hN) rfl mi_Machine_begin (c_Machine_begin hN hT (fm_Program_part a1 a2 1 w8) 0 w8 _ e10) wd_1335 rfl (Nat.le_trans (Nat.le_of_ble_eq_true rfl) hle) (st := []) (Nat.le_of_ble_eq_true rfl) rfl d_Machine_goLet_49 ?_
    subst hM
    exact g_vret X d_Machine_goLet_52
  · have hM := fa_if_t hM hc1
    refine g_aload_n X 0 rfl d_Machine_goLet_4 ?_
    refine g_aload_n X 1 rfl d_Machine_goLet_5 ?_
    refine g_iload_n X 2 rfl d_Machine_goLet_6 ?_
    refine g_iconst X d_Machine_goLet_7 ?_
    obtain ⟨w13, e12⟩ : ∃ q, fm_Machine_beginPart a1 a2 0 w = q := ⟨_, rfl⟩
    have hM := fa_let_to hM e12.symm
    refine g_callV_v X ck_3 fo_44 (fa_xn fo_44 (by decide) hN) rfl mi_Machine_beginPart (c_Machine_beginPart hN hT a1 a2 0 ha1 w _ e12) wd_1367 rfl (Nat.le_trans (Nat.le_of_ble_eq_true rfl) hle) (st := []) (Nat.le_of_ble_eq_true rfl) rfl d_Machine_goLet_8 ?_
    refine g_goto X 52 d_Machine_goLet_11 (by decide) ?_
    subst hM
    exact g_vret X d_Machine_goLet_52
theorem d_Machine_divide_0 : decode prog_4_method_16_code 0 = .ok (.iload_n 2, 1) := by decide +kernel
theorem d_Machine_divide_1 : decode prog_4_method_16_code 1 = .ok (.ifCond .ne 11, 3) := by decide +kernel
theorem d_Machine_divide_4 : decode prog_4_method_16_code 4 = .ok (.aload_n 0, 1) := by decide +kernel
theorem d_Machine_divide_5 : decode prog_4_method_16_code 5 = .ok (.iconst 2, 1) := by decide +kernel
theorem d_Machine_divide_6 : decode prog_4_method_16_code 6 = .ok (.putfield 39, 3) := by decide +kernel
theorem d_Machine_divide_9 : decode prog_4_method_16_code 9 = .ok (.goto 13, 3) := by decide +kernel
theorem d_Machine_divide_12 : decode prog_4_method_16_code 12 = .ok (.aload_n 0, 1) := by decide +kernel
theorem d_Machine_divide_13 : decode prog_4_method_16_code 13 = .ok (.getfield 23, 3) := by decide +kernel
theorem d_Machine_divide_16 : decode prog_4_method_16_code 16 = .ok (.iload_n 1, 1) := by decide +kernel
theorem d_Machine_divide_17 : decode prog_4_method_16_code 17 = .ok (.iload_n 2, 1) := by decide +kernel
theorem d_Machine_divide_18 : decode prog_4_method_16_code 18 = .ok (.idiv, 1) := by decide +kernel
theorem d_Machine_divide_19 : decode prog_4_method_16_code 19 = .ok (.invokevirtual 131, 3) := by decide +kernel
theorem d_Machine_divide_22 : decode prog_4_method_16_code 22 = .ok (.return_, 1) := by decide +kernel
def fm_Machine_divide (a1 : Int) (a2 : Int) (w : fa_W) : Option fa_W :=
  if fa_wr a2 = 0 then
  (fa_let (fa_st w 44 7 2) fun w5 =>
  some w5)
  else
  (if fa_wr a2 = 0 then none else
  fa_let (fr_add 49 (fa_idiv a1 a2) w) fun w4 =>
  some w4)
set_option maxHeartbeats 4000000 in
set_option maxRecDepth 100000 in
theorem c_Machine_divide {l : Launch} {D : va_G} {b : Nat} {aC : Nat → ClassId} {H0 : Heap} {N T : Nat} (hN : fa_NX ≤ N) (hT : fa_TX ≤ T) (a1 : Int) (a2 : Int)  (w : fa_W) (r : fa_W) (hM : fm_Machine_divide a1 a2 w = some r) : fa_MC l D b aC H0 N T y_Machine_divide prog_4_method_16_code 3 ((Option.none : Option Jvm.ClassFile.FieldType)) (1) [.ref (b + 44), .int (fa_I a1), .int (fa_I a2)] w (none) r := by
  refine fa_enter (lv := [(0, .ref (b + 44)), (1, .int (fa_I a1)), (2, .int (fa_I a2))]) (by decide +kernel) (Nat.le_of_ble_eq_true rfl) rfl (fun hh hle hnm X => ?_)
  unfold fm_Machine_divide at hM
  refine g_iload_n X 2 rfl d_Machine_divide_0 ?_
  refine g_if_ne X 12 d_Machine_divide_1 (by decide) (fun hc1 => ?_) (fun hc1 => ?_)
  · have hM := fa_if_f hM hc1
    refine g_aload_n X 0 rfl d_Machine_divide_12 ?_
    refine g_get X ck_3 fo_44 (fa_xn fo_44 (by decide) hN) 2 (by decide) wd_237 rfl (fr_44_2 rfl hT) d_Machine_divide_13 ?_
    refine g_iload_n X 1 rfl d_Machine_divide_16 ?_
    refine g_iload_n X 2 rfl d_Machine_divide_17 ?_
    obtain ⟨hz2, hM⟩ := fa_nz hM
    refine g_idiv X hz2 d_Machine_divide_18 ?_
    obtain ⟨w4, e3⟩ : ∃ q, fr_add 49 (fa_idiv a1 a2) w = q := ⟨_, rfl⟩
    have hM := fa_let_to hM e3.symm
    refine g_callV_v X ck_6 fo_49 (fa_xn fo_49 (by decide) hN) rfl mi_Row_add (ct_Row_add 49 (fa_idiv a1 a2) (fa_ro fo_49 hN hT) w _ e3) wd_1339 rfl (Nat.le_trans (Nat.le_of_ble_eq_true rfl) hle) (st := []) (Nat.le_of_ble_eq_true rfl) rfl d_Machine_divide_19 ?_
    cases hM
    exact g_vret X d_Machine_divide_22
  · have hM := fa_if_t hM hc1
    refine g_aload_n X 0 rfl d_Machine_divide_4 ?_
    refine g_iconst X d_Machine_divide_5 ?_
    refine g_put X ck_3 fo_44 (fa_xn fo_44 (by decide) hN) 7 (z := 2) (by decide) wd_242 rfl (fa_fvI' rfl) rfl rfl rfl d_Machine_divide_6 (fun w5 ew5 => ?_)
    have hM := fa_let_to hM ew5
    refine g_goto X 22 d_Machine_divide_9 (by decide) ?_
    cases hM
    exact g_vret X d_Machine_divide_22
theorem d_Machine_goOperator_0 : decode prog_4_method_15_code 0 = .ok (.iload_n 3, 1) := by decide +kernel
theorem d_Machine_goOperator_1 : decode prog_4_method_15_code 1 = .ok (.iconst 2, 1) := by decide +kernel
theorem d_Machine_goOperator_2 : decode prog_4_method_15_code 2 = .ok (.if_icmp .ge 11, 3) := by decide +kernel
theorem d_Machine_goOperator_5 : decode prog_4_method_15_code 5 = .ok (.aload_n 0, 1) := by decide +kernel
theorem d_Machine_goOperator_6 : decode prog_4_method_15_code 6 = .ok (.aload_n 1, 1) := by decide +kernel
theorem d_Machine_goOperator_7 : decode prog_4_method_15_code 7 = .ok (.iload_n 2, 1) := by decide +kernel
theorem d_Machine_goOperator_8 : decode prog_4_method_15_code 8 = .ok (.iload_n 3, 1) := by decide +kernel
theorem d_Machine_goOperator_9 : decode prog_4_method_15_code 9 = .ok (.invokevirtual 169, 3) := by decide +kernel
theorem d_Machine_goOperator_12 : decode prog_4_method_15_code 12 = .ok (.return_, 1) := by decide +kernel
theorem d_Machine_goOperator_13 : decode prog_4_method_15_code 13 = .ok (.aload_n 0, 1) := by decide +kernel
theorem d_Machine_goOperator_14 : decode prog_4_method_15_code 14 = .ok (.getfield 23, 3) := by decide +kernel
theorem d_Machine_goOperator_17 : decode prog_4_method_15_code 17 = .ok (.invokevirtual 99, 3) := by decide +kernel
theorem d_Machine_goOperator_20 : decode prog_4_method_15_code 20 = .ok (.istore 4, 2) := by decide +kernel
theorem d_Machine_goOperator_22 : decode prog_4_method_15_code 22 = .ok (.aload_n 0, 1) := by decide +kernel
theorem d_Machine_goOperator_23 : decode prog_4_method_15_code 23 = .ok (.getfield 23, 3) := by decide +kernel
theorem d_Machine_goOperator_26 : decode prog_4_method_15_code 26 = .ok (.invokevirtual 99, 3) := by decide +kernel
theorem d_Machine_goOperator_29 : decode prog_4_method_15_code 29 = .ok (.istore 5, 2) := by decide +kernel
theorem d_Machine_goOperator_31 : decode prog_4_method_15_code 31 = .ok (.aload_n 1, 1) := by decide +kernel
theorem d_Machine_goOperator_32 : decode prog_4_method_15_code 32 = .ok (.iload_n 2, 1) := by decide +kernel
theorem d_Machine_goOperator_33 : decode prog_4_method_15_code 33 = .ok (.invokevirtual 151, 3) := by decide +kernel
theorem d_Machine_goOperator_36 : decode prog_4_method_15_code 36 = .ok (.lookupswitch 114 #[(42, 74), (43, 44), (45, 59), (60, 89)], 44) := by decide +kernel
theorem d_Machine_goOperator_80 : decode prog_4_method_15_code 80 = .ok (.aload_n 0, 1) := by decide +kernel
theorem d_Machine_goOperator_81 : decode prog_4_method_15_code 81 = .ok (.getfield 23, 3) := by decide +kernel
theorem d_Machine_goOperator_84 : decode prog_4_method_15_code 84 = .ok (.iload 5, 2) := by decide +kernel
theorem d_Machine_goOperator_86 : decode prog_4_method_15_code 86 = .ok (.iload 4, 2) := by decide +kernel
theorem d_Machine_goOperator_88 : decode prog_4_method_15_code 88 = .ok (.iadd, 1) := by decide +kernel
theorem d_Machine_goOperator_89 : decode prog_4_method_15_code 89 = .ok (.invokevirtual 131, 3) := by decide +kernel
theorem d_Machine_goOperator_92 : decode prog_4_method_15_code 92 = .ok (.goto 66, 3) := by decide +kernel
theorem d_Machine_goOperator_95 : decode prog_4_method_15_code 95 = .ok (.aload_n 0, 1) := by decide +kernel
theorem d_Machine_goOperator_96 : decode prog_4_method_15_code 96 = .ok (.getfield 23, 3) := by decide +kernel
theorem d_Machine_goOperator_99 : decode prog_4_method_15_code 99 = .ok (.iload 5, 2) := by decide +kernel
theorem d_Machine_goOperator_101 : decode prog_4_method_15_code 101 = .ok (.iload 4, 2) := by decide +kernel
theorem d_Machine_goOperator_103 : decode prog_4_method_15_code 103 = .ok (.isub, 1) := by decide +kernel
theorem d_Machine_goOperator_104 : decode prog_4_method_15_code 104 = .ok (.invokevirtual 131, 3) := by decide +kernel
theorem d_Machine_goOperator_107 : decode prog_4_method_15_code 107 = .ok (.goto 51, 3) := by decide +kernel
theorem d_Machine_goOperator_110 : decode prog_4_method_15_code 110 = .ok (.aload_n 0, 1) := by decide +kernel
theorem d_Machine_goOperator_111 : decode prog_4_method_15_code 111 = .ok (.getfield 23, 3) := by decide +kernel
theorem d_Machine_goOperator_114 : decode prog_4_method_15_code 114 = .ok (.iload 5, 2) := by decide +kernel
theorem d_Machine_goOperator_116 : decode prog_4_method_15_code 116 = .ok (.iload 4, 2) := by decide +kernel
theorem d_Machine_goOperator_118 : decode prog_4_method_15_code 118 = .ok (.imul, 1) := by decide +kernel
theorem d_Machine_goOperator_119 : decode prog_4_method_15_code 119 = .ok (.invokevirtual 131, 3) := by decide +kernel
theorem d_Machine_goOperator_122 : decode prog_4_method_15_code 122 = .ok (.goto 36, 3) := by decide +kernel
theorem d_Machine_goOperator_125 : decode prog_4_method_15_code 125 = .ok (.aload_n 0, 1) := by decide +kernel
theorem d_Machine_goOperator_126 : decode prog_4_method_15_code 126 = .ok (.getfield 23, 3) := by decide +kernel
theorem d_Machine_goOperator_129 : decode prog_4_method_15_code 129 = .ok (.iload 5, 2) := by decide +kernel
theorem d_Machine_goOperator_131 : decode prog_4_method_15_code 131 = .ok (.iload 4, 2) := by decide +kernel
theorem d_Machine_goOperator_133 : decode prog_4_method_15_code 133 = .ok (.if_icmp .ge 7, 3) := by decide +kernel
theorem d_Machine_goOperator_136 : decode prog_4_method_15_code 136 = .ok (.iconst 1, 1) := by decide +kernel
theorem d_Machine_goOperator_137 : decode prog_4_method_15_code 137 = .ok (.goto 4, 3) := by decide +kernel
theorem d_Machine_goOperator_140 : decode prog_4_method_15_code 140 = .ok (.iconst 0, 1) := by decide +kernel
theorem d_Machine_goOperator_141 : decode prog_4_method_15_code 141 = .ok (.invokestatic 175, 3) := by decide +kernel
theorem d_Machine_goOperator_144 : decode prog_4_method_15_code 144 = .ok (.invokevirtual 131, 3) := by decide +kernel
theorem d_Machine_goOperator_147 : decode prog_4_method_15_code 147 = .ok (.goto 11, 3) := by decide +kernel
theorem d_Machine_goOperator_150 : decode prog_4_method_15_code 150 = .ok (.aload_n 0, 1) := by decide +kernel
theorem d_Machine_goOperator_151 : decode prog_4_method_15_code 151 = .ok (.iload 5, 2) := by decide +kernel
theorem d_Machine_goOperator_153 : decode prog_4_method_15_code 153 = .ok (.iload 4, 2) := by decide +kernel
theorem d_Machine_goOperator_155 : decode prog_4_method_15_code 155 = .ok (.invokevirtual 179, 3) := by decide +kernel
theorem d_Machine_goOperator_158 : decode prog_4_method_15_code 158 = .ok (.return_, 1) := by decide +kernel
def fm_Machine_goOperator_j141 (a1 : Nat) (a2 : Int) (a3 : Int) (s0 : Bool) (w : fa_W) : Option fa_W :=
  fa_let (fr_add 49 (fm_Face_oneIf s0 w) w) fun w22 =>
  some w22
set_option maxHeartbeats 4000000 in
set_option maxRecDepth 100000 in
theorem c_Machine_goOperator_j141 {p : Program} {l : Launch} {e : Env} {s : State} {m : MethodId} {args : Array Value} {below : List Frame} {meth : Method} {c : Code} {hh : Nat} {D : va_G} {b : Nat} {aC : Nat → ClassId} {H0 : Heap} {N T : Nat} (X : fa_GX p s m args meth c prog_4_method_15_code 6 ((Option.none : Option Jvm.ClassFile.FieldType)) y_Machine_goOperator.cls D b aC) (hle : 3 ≤ hh) (hN : fa_NX ≤ N) (hT : fa_TX ≤ T) (a1 : Nat) (a2 : Int) (a3 : Int) (ha1 : (fa_sh a1).1 = 4) {r : fa_W}  : ∀ (s0 : Bool) (w : fa_W) (_ : fm_Machine_goOperator_j141 a1 a2 a3 s0 w = some r), fa_GJ p l e (fa_rm hh) s m args below meth c 0 0 (MQ below (fa_Qc D b aC H0 N T (none) r) args s 0 0 (fun q => b ≤ q)) D b aC H0 N T 6 w 141 [] [.int (fa_I (fa_bi s0)), .ref (b + 49)] := by
  intro s0 w hM
  unfold fm_Machine_goOperator_j141 at hM
  refine g_callSN_i X mi_Face_oneIf (c_Face_oneIf hN hT s0 w _ rfl) wd_1381 rfl (Nat.le_trans (Nat.le_of_ble_eq_true rfl) hle) (st := [.ref (b + 49)]) (Nat.le_of_ble_eq_true rfl) rfl d_Machine_goOperator_141 ?_
  obtain ⟨w22, e21⟩ : ∃ q, fr_add 49 (fm_Face_oneIf s0 w) w = q := ⟨_, rfl⟩
  have hM := fa_let_to hM e21.symm
  refine g_callV_v X ck_6 fo_49 (fa_xn fo_49 (by decide) hN) rfl mi_Row_add (ct_Row_add 49 (fm_Face_oneIf s0 w) (fa_ro fo_49 hN hT) w _ e21) wd_1339 rfl (Nat.le_trans (Nat.le_of_ble_eq_true rfl) hle) (st := []) (Nat.le_of_ble_eq_true rfl) rfl d_Machine_goOperator_144 ?_
  refine g_goto X 158 d_Machine_goOperator_147 (by decide) ?_
  cases hM
  exact g_vret X d_Machine_goOperator_158
def fm_Machine_goOperator (a1 : Nat) (a2 : Int) (a3 : Int) (w : fa_W) : Option fa_W :=
  if 2 ≤ fa_wr a3 then
  (fa_l2 (fr_drop 49 w) fun v3 w4 =>
  fa_l2 (fr_drop 49 w4) fun v6 w7 =>
  if fa_wr (fm_Program_value a1 a2 w7) = 42 then
  (fa_let (fr_add 49 (v6 * v3) w7) fun w11 =>
  some w11)
  else
  if fa_wr (fm_Program_value a1 a2 w7) = 43 then
  (fa_let (fr_add 49 (v6 + v3) w7) fun w14 =>
  some w14)
  else
  if fa_wr (fm_Program_value a1 a2 w7) = 45 then
  (fa_let (fr_add 49 (v6 - v3) w7) fun w17 =>
  some w17)
  else
  if fa_wr (fm_Program_value a1 a2 w7) = 60 then
  (if fa_wr v3 ≤ fa_wr v6 then
  fm_Machine_goOperator_j141 a1 a2 a3 false w7
  else
  fm_Machine_goOperator_j141 a1 a2 a3 true w7)
  else
  ((fm_Machine_divide v6 v3 w7).bind fun w24 =>
  some w24))
  else
  (fa_let (fm_Machine_beginPart a1 a2 a3 w) fun w26 =>
  some w26)
set_option maxHeartbeats 4000000 in
set_option maxRecDepth 100000 in
theorem c_Machine_goOperator {l : Launch} {D : va_G} {b : Nat} {aC : Nat → ClassId} {H0 : Heap} {N T : Nat} (hN : fa_NX ≤ N) (hT : fa_TX ≤ T) (a1 : Nat) (a2 : Int) (a3 : Int) (ha1 : (fa_sh a1).1 = 4)  (w : fa_W) (r : fa_W) (hM : fm_Machine_goOperator a1 a2 a3 w = some r) : fa_MC l D b aC H0 N T y_Machine_goOperator prog_4_method_15_code 6 ((Option.none : Option Jvm.ClassFile.FieldType)) (3) [.ref (b + 44), .ref (b + a1), .int (fa_I a2), .int (fa_I a3)] w (none) r := by
  refine fa_enter (lv := [(0, .ref (b + 44)), (1, .ref (b + a1)), (2, .int (fa_I a2)), (3, .int (fa_I a3))]) (by decide +kernel) (Nat.le_of_ble_eq_true rfl) rfl (fun hh hle hnm X => ?_)
  unfold fm_Machine_goOperator at hM
  refine g_iload_n X 3 rfl d_Machine_goOperator_0 ?_
  refine g_iconst X d_Machine_goOperator_1 ?_
  refine g_icmp_ge X 13 d_Machine_goOperator_2 (by decide) (fun hc1 => ?_) (fun hc1 => ?_)
  · have hM := fa_if_t hM hc1
    refine g_aload_n X 0 rfl d_Machine_goOperator_13 ?_
    refine g_get X ck_3 fo_44 (fa_xn fo_44 (by decide) hN) 2 (by decide) wd_237 rfl (fr_44_2 rfl hT) d_Machine_goOperator_14 ?_
    obtain ⟨⟨v3, w4⟩, e2⟩ : ∃ q, fr_drop 49 w = q := ⟨_, rfl⟩
    have hM := fa_l2_e hM e2
    refine g_callV_i X ck_6 fo_49 (fa_xn fo_49 (by decide) hN) rfl mi_Row_drop (ct_Row_drop 49 (fa_ro fo_49 hN hT) w _ e2) wd_1342 rfl (Nat.le_trans (Nat.le_of_ble_eq_true rfl) hle) (st := []) (Nat.le_of_ble_eq_true rfl) rfl d_Machine_goOperator_17 ?_
    refine g_istorec X [(4, .int (fa_I v3)), (0, .ref (b + 44)), (1, .ref (b + a1)), (2, .int (fa_I a2)), (3, .int (fa_I a3))] d_Machine_goOperator_20 (by decide) rfl ?_
    refine g_aload_n X 1 rfl d_Machine_goOperator_22 ?_
    refine g_get X ck_3 fo_44 (fa_xn fo_44 (by decide) hN) 2 (by decide) wd_237 rfl (fr_44_2 rfl hT) d_Machine_goOperator_23 ?_
    obtain ⟨⟨v6, w7⟩, e5⟩ : ∃ q, fr_drop 49 w4 = q := ⟨_, rfl⟩
    have hM := fa_l2_e hM e5
    refine g_callV_i X ck_6 fo_49 (fa_xn fo_49 (by decide) hN) rfl mi_Row_drop (ct_Row_drop 49 (fa_ro fo_49 hN hT) w4 _ e5) wd_1342 rfl (Nat.le_trans (Nat.le_of_ble_eq_true rfl) hle) (st := []) (Nat.le_of_ble_eq_true rfl) rfl d_Machine_goOperator_26 ?_
    refine g_istorec X [(5, .int (fa_I v6)), (4, .int (fa_I v3)), (0, .ref (b + 44)), (1, .ref (b + a1)), (2, .int (fa_I a2)), (3, .int (fa_I a3))] d_Machine_goOperator_29 (by decide) rfl ?_
    refine g_aload_n X 3 rfl d_Machine_goOperator_31 ?_
    refine g_iload_n X 4 rfl d_Machine_goOperator_32 ?_
    refine g_callV_i X ck_4 ha1 (fa_xn ha1 (by decide) hN) rfl mi_Program_value (c_Program_value hN hT a1 a2 ha1 w7 _ rfl) wd_1348 rfl (Nat.le_trans (Nat.le_of_ble_eq_true rfl) hle) (st := []) (Nat.le_of_ble_eq_true rfl) rfl d_Machine_goOperator_33 ?_
    by_cases hc9 : fa_wr (fm_Program_value a1 a2 w7) = 42
    · have hM := fa_if_t hM hc9
      refine g_lookup X (off := 74) 110 d_Machine_goOperator_36 (by decide) (by rw [hc9]; rfl) (by decide) ?_
      refine g_aload_n X 2 rfl d_Machine_goOperator_110 ?_
      refine g_get X ck_3 fo_44 (fa_xn fo_44 (by decide) hN) 2 (by decide) wd_237 rfl (fr_44_2 rfl hT) d_Machine_goOperator_111 ?_
      refine g_iload X 0 rfl d_Machine_goOperator_114 ?_
      refine g_iload X 1 rfl d_Machine_goOperator_116 ?_
      refine g_imul X d_Machine_goOperator_118 ?_
      obtain ⟨w11, e10⟩ : ∃ q, fr_add 49 (v6 * v3) w7 = q := ⟨_, rfl⟩
      have hM := fa_let_to hM e10.symm
      refine g_callV_v X ck_6 fo_49 (fa_xn fo_49 (by decide) hN) rfl mi_Row_add (ct_Row_add 49 (v6 * v3) (fa_ro fo_49 hN hT) w7 _ e10) wd_1339 rfl (Nat.le_trans (Nat.le_of_ble_eq_true rfl) hle) (st := []) (Nat.le_of_ble_eq_true rfl) rfl d_Machine_goOperator_119 ?_
      refine g_goto X 158 d_Machine_goOperator_122 (by decide) ?_
      cases hM
      exact g_vret X d_Machine_goOperator_158
    have hM := fa_if_f hM hc9
    by_cases hc12 : fa_wr (fm_Program_value a1 a2 w7) = 43
    · have hM := fa_if_t hM hc12
      refine g_lookup X (off := 44) 80 d_Machine_goOperator_36 (by decide) (by rw [hc12]; rfl) (by decide) ?_
      refine g_aload_n X 2 rfl d_Machine_goOperator_80 ?_
      refine g_get X ck_3 fo_44 (fa_xn fo_44 (by decide) hN) 2 (by decide) wd_237 rfl (fr_44_2 rfl hT) d_Machine_goOperator_81 ?_
      refine g_iload X 0 rfl d_Machine_goOperator_84 ?_
      refine g_iload X 1 rfl d_Machine_goOperator_86 ?_
      refine g_iadd X d_Machine_goOperator_88 ?_
      obtain ⟨w14, e13⟩ : ∃ q, fr_add 49 (v6 + v3) w7 = q := ⟨_, rfl⟩
      have hM := fa_let_to hM e13.symm
      refine g_callV_v X ck_6 fo_49 (fa_xn fo_49 (by decide) hN) rfl mi_Row_add (ct_Row_add 49 (v6 + v3) (fa_ro fo_49 hN hT) w7 _ e13) wd_1339 rfl (Nat.le_trans (Nat.le_of_ble_eq_true rfl) hle) (st := []) (Nat.le_of_ble_eq_true rfl) rfl d_Machine_goOperator_89 ?_
      refine g_goto X 158 d_Machine_goOperator_92 (by decide) ?_
      cases hM
      exact g_vret X d_Machine_goOperator_158
    have hM := fa_if_f hM hc12
    by_cases hc15 : fa_wr (fm_Program_value a1 a2 w7) = 45
    · have hM := fa_if_t hM hc15
      refine g_lookup X (off := 59) 95 d_Machine_goOperator_36 (by decide) (by rw [hc15]; rfl) (by decide) ?_
      refine g_aload_n X 2 rfl d_Machine_goOperator_95 ?_
      refine g_get X ck_3 fo_44 (fa_xn fo_44 (by decide) hN) 2 (by decide) wd_237 rfl (fr_44_2 rfl hT) d_Machine_goOperator_96 ?_
      refine g_iload X 0 rfl d_Machine_goOperator_99 ?_
      refine g_iload X 1 rfl d_Machine_goOperator_101 ?_
      refine g_isub X d_Machine_goOperator_103 ?_
      obtain ⟨w17, e16⟩ : ∃ q, fr_add 49 (v6 - v3) w7 = q := ⟨_, rfl⟩
      have hM := fa_let_to hM e16.symm
      refine g_callV_v X ck_6 fo_49 (fa_xn fo_49 (by decide) hN) rfl mi_Row_add (ct_Row_add 49 (v6 - v3) (fa_ro fo_49 hN hT) w7 _ e16) wd_1339 rfl (Nat.le_trans (Nat.le_of_ble_eq_true rfl) hle) (st := []) (Nat.le_of_ble_eq_true rfl) rfl d_Machine_goOperator_104 ?_
      refine g_goto X 158 d_Machine_goOperator_107 (by decide) ?_
      cases hM
      exact g_vret X d_Machine_goOperator_158
    have hM := fa_if_f hM hc15
    by_cases hc18 : fa_wr (fm_Program_value a1 a2 w7) = 60
    · have hM := fa_if_t hM hc18
      refine g_lookup X (off := 89) 125 d_Machine_goOperator_36 (by decide) (by rw [hc18]; rfl) (by decide) ?_
      refine g_aload_n X 2 rfl d_Machine_goOperator_125 ?_
      refine g_get X ck_3 fo_44 (fa_xn fo_44 (by decide) hN) 2 (by decide) wd_237 rfl (fr_44_2 rfl hT) d_Machine_goOperator_126 ?_
      refine g_iload X 0 rfl d_Machine_goOperator_129 ?_
      refine g_iload X 1 rfl d_Machine_goOperator_131 ?_
      refine g_icmp_ge X 140 d_Machine_goOperator_133 (by decide) (fun hc19 => ?_) (fun hc19 => ?_)
      · have hM := fa_if_t hM hc19
        refine g_iconst X d_Machine_goOperator_140 ?_
        exact g_lv [] rfl (c_Machine_goOperator_j141 X hle hN hT a1 a2 a3 ha1    _ _ hM)
      · have hM := fa_if_f hM hc19
        refine g_iconst X d_Machine_goOperator_136 ?_
        refine g_goto X 141 d_Machine_goOperator_137 (by decide) ?_
        exact g_lv [] rfl (c_Machine_goOperator_j141 X hle hN hT a1 a2 a3 ha1    _ _ hM)
    have hM := fa_if_f hM hc18
    refine g_lookup X (off := 114) 150 d_Machine_goOperator_36 (by decide) (by simp only [Op.lookupswitch.offset_cons, Op.lookupswitch.offset_nil]; rw [if_neg (fun q => hc9 q.symm), if_neg (fun q => hc12 q.symm), if_neg (fun q => hc15 q.symm), if_neg (fun q => hc18 q.symm)]) (by decide) ?_
    refine g_aload_n X 2 rfl d_Machine_goOperator_150 ?_
    refine g_iload X 0 rfl d_Machine_goOperator_151 ?_
    refine g_iload X 1 rfl d_Machine_goOperator_153 ?_
    obtain ⟨w24, e23, hM⟩ := fa_ob hM
    refine g_callV_v X ck_3 fo_44 (fa_xn fo_44 (by decide) hN) rfl mi_Machine_divide (c_Machine_divide hN hT v6 v3 w7 _ e23) wd_1382 rfl (Nat.le_trans (Nat.le_of_ble_eq_true rfl) hle) (st := []) (Nat.le_of_ble_eq_true rfl) rfl d_Machine_goOperator_155 ?_
    cases hM
    exact g_vret X d_Machine_goOperator_158
  · have hM := fa_if_f hM hc1
    refine g_aload_n X 0 rfl d_Machine_goOperator_5 ?_
    refine g_aload_n X 1 rfl d_Machine_goOperator_6 ?_
    refine g_iload_n X 2 rfl d_Machine_goOperator_7 ?_
    refine g_iload_n X 3 rfl d_Machine_goOperator_8 ?_
    obtain ⟨w26, e25⟩ : ∃ q, fm_Machine_beginPart a1 a2 a3 w = q := ⟨_, rfl⟩
    have hM := fa_let_to hM e25.symm
    refine g_callV_v X ck_3 fo_44 (fa_xn fo_44 (by decide) hN) rfl mi_Machine_beginPart (c_Machine_beginPart hN hT a1 a2 a3 ha1 w _ e25) wd_1367 rfl (Nat.le_trans (Nat.le_of_ble_eq_true rfl) hle) (st := []) (Nat.le_of_ble_eq_true rfl) rfl d_Machine_goOperator_9 ?_
    cases hM
    exact g_vret X d_Machine_goOperator_12
theorem d_Machine_functionOf_0 : decode prog_4_method_11_code 0 = .ok (.iload_n 0, 1) := by decide +kernel
theorem d_Machine_functionOf_1 : decode prog_4_method_11_code 1 = .ok (.bipush 31, 2) := by decide +kernel
theorem d_Machine_functionOf_3 : decode prog_4_method_11_code 3 = .ok (.iand, 1) := by decide +kernel
theorem d_Machine_functionOf_4 : decode prog_4_method_11_code 4 = .ok (.ireturn, 1) := by decide +kernel
def fm_Machine_functionOf (a1 : Int) (w : fa_W) : Int :=
  fa_iand a1 31
set_option maxHeartbeats 4000000 in
set_option maxRecDepth 100000 in
theorem c_Machine_functionOf {l : Launch} {D : va_G} {b : Nat} {aC : Nat → ClassId} {H0 : Heap} {N T : Nat} (hN : fa_NX ≤ N) (hT : fa_TX ≤ T) (a1 : Int)  (w : fa_W) (r : Int) (hM : fm_Machine_functionOf a1 w = r) : fa_MC l D b aC H0 N T y_Machine_functionOf prog_4_method_11_code 1 ((Option.some Jvm.ClassFile.FieldType.int)) (0) [.int (fa_I a1)] w (some (.int (fa_I r))) w := by
  refine fa_enter (lv := [(0, .int (fa_I a1))]) (by decide +kernel) (Nat.le_of_ble_eq_true rfl) rfl (fun hh hle hnm X => ?_)
  unfold fm_Machine_functionOf at hM
  refine g_iload_n X 0 rfl d_Machine_functionOf_0 ?_
  refine g_bipush X (by decide) d_Machine_functionOf_1 ?_
  refine g_iand X d_Machine_functionOf_3 ?_
  subst hM
  exact g_iret X d_Machine_functionOf_4
theorem d_Machine_enter_0 : decode prog_4_method_18_code 0 = .ok (.iload_n 2, 1) := by decide +kernel
theorem d_Machine_enter_1 : decode prog_4_method_18_code 1 = .ok (.invokestatic 128, 3) := by decide +kernel
theorem d_Machine_enter_4 : decode prog_4_method_18_code 4 = .ok (.istore 4, 2) := by decide +kernel
theorem d_Machine_enter_6 : decode prog_4_method_18_code 6 = .ok (.aload_n 0, 1) := by decide +kernel
theorem d_Machine_enter_7 : decode prog_4_method_18_code 7 = .ok (.dup, 1) := by decide +kernel
theorem d_Machine_enter_8 : decode prog_4_method_18_code 8 = .ok (.getfield 45, 3) := by decide +kernel
theorem d_Machine_enter_11 : decode prog_4_method_18_code 11 = .ok (.iconst 1, 1) := by decide +kernel
theorem d_Machine_enter_12 : decode prog_4_method_18_code 12 = .ok (.iadd, 1) := by decide +kernel
theorem d_Machine_enter_13 : decode prog_4_method_18_code 13 = .ok (.putfield 45, 3) := by decide +kernel
theorem d_Machine_enter_16 : decode prog_4_method_18_code 16 = .ok (.aload_n 0, 1) := by decide +kernel
theorem d_Machine_enter_17 : decode prog_4_method_18_code 17 = .ok (.getfield 14, 3) := by decide +kernel
theorem d_Machine_enter_20 : decode prog_4_method_18_code 20 = .ok (.iload_n 2, 1) := by decide +kernel
theorem d_Machine_enter_21 : decode prog_4_method_18_code 21 = .ok (.iconst 5, 1) := by decide +kernel
theorem d_Machine_enter_22 : decode prog_4_method_18_code 22 = .ok (.iushr, 1) := by decide +kernel
theorem d_Machine_enter_23 : decode prog_4_method_18_code 23 = .ok (.bipush 74, 2) := by decide +kernel
theorem d_Machine_enter_25 : decode prog_4_method_18_code 25 = .ok (.imul, 1) := by decide +kernel
theorem d_Machine_enter_26 : decode prog_4_method_18_code 26 = .ok (.aload_n 0, 1) := by decide +kernel
theorem d_Machine_enter_27 : decode prog_4_method_18_code 27 = .ok (.getfield 45, 3) := by decide +kernel
theorem d_Machine_enter_30 : decode prog_4_method_18_code 30 = .ok (.bipush 74, 2) := by decide +kernel
theorem d_Machine_enter_32 : decode prog_4_method_18_code 32 = .ok (.imul, 1) := by decide +kernel
theorem d_Machine_enter_33 : decode prog_4_method_18_code 33 = .ok (.bipush 74, 2) := by decide +kernel
theorem d_Machine_enter_35 : decode prog_4_method_18_code 35 = .ok (.invokevirtual 189, 3) := by decide +kernel
theorem d_Machine_enter_38 : decode prog_4_method_18_code 38 = .ok (.aload_n 0, 1) := by decide +kernel
theorem d_Machine_enter_39 : decode prog_4_method_18_code 39 = .ok (.getfield 14, 3) := by decide +kernel
theorem d_Machine_enter_42 : decode prog_4_method_18_code 42 = .ok (.aload_n 0, 1) := by decide +kernel
theorem d_Machine_enter_43 : decode prog_4_method_18_code 43 = .ok (.getfield 45, 3) := by decide +kernel
theorem d_Machine_enter_46 : decode prog_4_method_18_code 46 = .ok (.bipush 74, 2) := by decide +kernel
theorem d_Machine_enter_48 : decode prog_4_method_18_code 48 = .ok (.imul, 1) := by decide +kernel
theorem d_Machine_enter_49 : decode prog_4_method_18_code 49 = .ok (.iload 4, 2) := by decide +kernel
theorem d_Machine_enter_51 : decode prog_4_method_18_code 51 = .ok (.iadd, 1) := by decide +kernel
theorem d_Machine_enter_52 : decode prog_4_method_18_code 52 = .ok (.iload_n 3, 1) := by decide +kernel
theorem d_Machine_enter_53 : decode prog_4_method_18_code 53 = .ok (.invokevirtual 172, 3) := by decide +kernel
theorem d_Machine_enter_56 : decode prog_4_method_18_code 56 = .ok (.aload_n 0, 1) := by decide +kernel
theorem d_Machine_enter_57 : decode prog_4_method_18_code 57 = .ok (.getfield 26, 3) := by decide +kernel
theorem d_Machine_enter_60 : decode prog_4_method_18_code 60 = .ok (.iload 4, 2) := by decide +kernel
theorem d_Machine_enter_62 : decode prog_4_method_18_code 62 = .ok (.invokevirtual 131, 3) := by decide +kernel
theorem d_Machine_enter_65 : decode prog_4_method_18_code 65 = .ok (.aload_n 0, 1) := by decide +kernel
theorem d_Machine_enter_66 : decode prog_4_method_18_code 66 = .ok (.getfield 29, 3) := by decide +kernel
theorem d_Machine_enter_69 : decode prog_4_method_18_code 69 = .ok (.aload_n 0, 1) := by decide +kernel
theorem d_Machine_enter_70 : decode prog_4_method_18_code 70 = .ok (.getfield 45, 3) := by decide +kernel
theorem d_Machine_enter_73 : decode prog_4_method_18_code 73 = .ok (.invokevirtual 131, 3) := by decide +kernel
theorem d_Machine_enter_76 : decode prog_4_method_18_code 76 = .ok (.aload_n 0, 1) := by decide +kernel
theorem d_Machine_enter_77 : decode prog_4_method_18_code 77 = .ok (.aload_n 0, 1) := by decide +kernel
theorem d_Machine_enter_78 : decode prog_4_method_18_code 78 = .ok (.getfield 48, 3) := by decide +kernel
theorem d_Machine_enter_81 : decode prog_4_method_18_code 81 = .ok (.aload_n 0, 1) := by decide +kernel
theorem d_Machine_enter_82 : decode prog_4_method_18_code 82 = .ok (.getfield 26, 3) := by decide +kernel
theorem d_Machine_enter_85 : decode prog_4_method_18_code 85 = .ok (.invokevirtual 95, 3) := by decide +kernel
theorem d_Machine_enter_88 : decode prog_4_method_18_code 88 = .ok (.invokestatic 140, 3) := by decide +kernel
theorem d_Machine_enter_91 : decode prog_4_method_18_code 91 = .ok (.putfield 48, 3) := by decide +kernel
theorem d_Machine_enter_94 : decode prog_4_method_18_code 94 = .ok (.aload_n 0, 1) := by decide +kernel
theorem d_Machine_enter_95 : decode prog_4_method_18_code 95 = .ok (.dup, 1) := by decide +kernel
theorem d_Machine_enter_96 : decode prog_4_method_18_code 96 = .ok (.getfield 51, 3) := by decide +kernel
theorem d_Machine_enter_99 : decode prog_4_method_18_code 99 = .ok (.iload 4, 2) := by decide +kernel
theorem d_Machine_enter_101 : decode prog_4_method_18_code 101 = .ok (.invokestatic 193, 3) := by decide +kernel
theorem d_Machine_enter_104 : decode prog_4_method_18_code 104 = .ok (.ior, 1) := by decide +kernel
theorem d_Machine_enter_105 : decode prog_4_method_18_code 105 = .ok (.putfield 51, 3) := by decide +kernel
theorem d_Machine_enter_108 : decode prog_4_method_18_code 108 = .ok (.aload_n 0, 1) := by decide +kernel
theorem d_Machine_enter_109 : decode prog_4_method_18_code 109 = .ok (.getfield 20, 3) := by decide +kernel
theorem d_Machine_enter_112 : decode prog_4_method_18_code 112 = .ok (.iconst (-1), 1) := by decide +kernel
theorem d_Machine_enter_113 : decode prog_4_method_18_code 113 = .ok (.invokevirtual 131, 3) := by decide +kernel
theorem d_Machine_enter_116 : decode prog_4_method_18_code 116 = .ok (.aload_n 0, 1) := by decide +kernel
theorem d_Machine_enter_117 : decode prog_4_method_18_code 117 = .ok (.aload_n 1, 1) := by decide +kernel
theorem d_Machine_enter_118 : decode prog_4_method_18_code 118 = .ok (.getfield 196, 3) := by decide +kernel
theorem d_Machine_enter_121 : decode prog_4_method_18_code 121 = .ok (.iload 4, 2) := by decide +kernel
theorem d_Machine_enter_123 : decode prog_4_method_18_code 123 = .ok (.invokevirtual 115, 3) := by decide +kernel
theorem d_Machine_enter_126 : decode prog_4_method_18_code 126 = .ok (.iconst 0, 1) := by decide +kernel
theorem d_Machine_enter_127 : decode prog_4_method_18_code 127 = .ok (.invokevirtual 91, 3) := by decide +kernel
theorem d_Machine_enter_130 : decode prog_4_method_18_code 130 = .ok (.return_, 1) := by decide +kernel
def fm_Machine_enter (a1 : Nat) (a2 : Int) (a3 : Int) (w : fa_W) : Option fa_W :=
  fa_let (fm_Machine_functionOf a2 w) fun x4_2 =>
  fa_let (fa_st w 44 9 ((w 44 9) + 1)) fun w3 =>
  (fm_Row_repeat 45 ((fa_iushr a2 5) * 74) ((w3 44 9) * 74) 74 w3).bind fun w5 =>
  fa_let (fr_set 45 (((w5 44 9) * 74) + x4_2) a3 w5) fun w7 =>
  fa_let (fr_add 51 x4_2 w7) fun w9 =>
  fa_let (fr_add 53 (w9 44 9) w9) fun w11 =>
  fa_let (fa_st w11 44 10 (fa_max (w11 44 10) (fm_Row_size 51 w11))) fun w13 =>
  fa_let (fa_st w13 44 11 (fa_ior (w13 44 11) (fm_Face_bit x4_2 w13))) fun w15 =>
  fa_let (fr_add 47 (-1) w15) fun w17 =>
  fa_let (fm_Machine_begin (fr_at (fa_rf a1 9) x4_2 w17) 0 w17) fun w20 =>
  some w20
set_option maxHeartbeats 4000000 in
set_option maxRecDepth 100000 in
theorem c_Machine_enter {l : Launch} {D : va_G} {b : Nat} {aC : Nat → ClassId} {H0 : Heap} {N T : Nat} (hN : fa_NX ≤ N) (hT : fa_TX ≤ T) (a1 : Nat) (a2 : Int) (a3 : Int) (ha1 : (fa_sh a1).1 = 4)  (w : fa_W) (r : fa_W) (hM : fm_Machine_enter a1 a2 a3 w = some r) : fa_MC l D b aC H0 N T y_Machine_enter prog_4_method_18_code 5 ((Option.none : Option Jvm.ClassFile.FieldType)) (2) [.ref (b + 44), .ref (b + a1), .int (fa_I a2), .int (fa_I a3)] w (none) r := by
  refine fa_enter (lv := [(0, .ref (b + 44)), (1, .ref (b + a1)), (2, .int (fa_I a2)), (3, .int (fa_I a3))]) (by decide +kernel) (Nat.le_of_ble_eq_true rfl) rfl (fun hh hle hnm X => ?_)
  unfold fm_Machine_enter at hM
  refine g_iload_n X 2 rfl d_Machine_enter_0 ?_
  refine g_callS_i X mi_Machine_functionOf (c_Machine_functionOf hN hT a2 w _ rfl) wd_1390 rfl (Nat.le_trans (Nat.le_of_ble_eq_true rfl) hle) (st := []) (Nat.le_of_ble_eq_true rfl) rfl d_Machine_enter_1 ?_
  refine g_istore X (fun x4_2 => [(4, .int (fa_I x4_2)), (0, .ref (b + 44)), (1, .ref (b + a1)), (2, .int (fa_I a2)), (3, .int (fa_I a3))]) d_Machine_enter_4 (by decide) (fun _ => rfl) (fun x4_2 ex4_2 => ?_)
  have hM := fa_let_to hM ex4_2
  refine g_aload_n X 1 rfl d_Machine_enter_6 ?_
  refine g_dup X rfl d_Machine_enter_7 ?_
  refine g_get X ck_3 fo_44 (fa_xn fo_44 (by decide) hN) 9 (by decide) wd_246 rfl (fa_fvI rfl) d_Machine_enter_8 ?_
  refine g_iconst X d_Machine_enter_11 ?_
  refine g_iadd X d_Machine_enter_12 ?_
  refine g_put X ck_3 fo_44 (fa_xn fo_44 (by decide) hN) 9 (z := ((w 44 9) + 1)) (by decide) wd_246 rfl (fa_fvI' rfl) rfl rfl rfl d_Machine_enter_13 (fun w3 ew3 => ?_)
  have hM := fa_let_to hM ew3
  refine g_aload_n X 1 rfl d_Machine_enter_16 ?_
  refine g_get X ck_3 fo_44 (fa_xn fo_44 (by decide) hN) 0 (by decide) wd_235 rfl (fr_44_0 rfl hT) d_Machine_enter_17 ?_
  refine g_iload_n X 3 rfl d_Machine_enter_20 ?_
  refine g_iconst X d_Machine_enter_21 ?_
  refine g_iushr X d_Machine_enter_22 ?_
  refine g_bipush X (by decide) d_Machine_enter_23 ?_
  refine g_imul X d_Machine_enter_25 ?_
  refine g_aload_n X 1 rfl d_Machine_enter_26 ?_
  refine g_get X ck_3 fo_44 (fa_xn fo_44 (by decide) hN) 9 (by decide) wd_246 rfl (fa_fvI rfl) d_Machine_enter_27 ?_
  refine g_bipush X (by decide) d_Machine_enter_30 ?_
  refine g_imul X d_Machine_enter_32 ?_
  refine g_bipush X (by decide) d_Machine_enter_33 ?_
  obtain ⟨w5, e4, hM⟩ := fa_ob hM
  refine g_callV_v X ck_6 fo_45 (fa_xn fo_45 (by decide) hN) rfl mi_Row_repeat (c_Row_repeat 45 ((fa_iushr a2 5) * 74) ((w3 44 9) * 74) 74 (fa_ro fo_45 hN hT) w3 _ e4) wd_1398 rfl (Nat.le_trans (Nat.le_of_ble_eq_true rfl) hle) (st := []) (Nat.le_of_ble_eq_true rfl) rfl d_Machine_enter_35 ?_
  refine g_aload_n X 1 rfl d_Machine_enter_38 ?_
  refine g_get X ck_3 fo_44 (fa_xn fo_44 (by decide) hN) 0 (by decide) wd_235 rfl (fr_44_0 rfl hT) d_Machine_enter_39 ?_
  refine g_aload_n X 1 rfl d_Machine_enter_42 ?_
  refine g_get X ck_3 fo_44 (fa_xn fo_44 (by decide) hN) 9 (by decide) wd_246 rfl (fa_fvI rfl) d_Machine_enter_43 ?_
  refine g_bipush X (by decide) d_Machine_enter_46 ?_
  refine g_imul X d_Machine_enter_48 ?_
  refine g_iload X 0 rfl d_Machine_enter_49 ?_
  refine g_iadd X d_Machine_enter_51 ?_
  refine g_iload_n X 4 rfl d_Machine_enter_52 ?_
  obtain ⟨w7, e6⟩ : ∃ q, fr_set 45 (((w5 44 9) * 74) + x4_2) a3 w5 = q := ⟨_, rfl⟩
  have hM := fa_let_to hM e6.symm
  refine g_callV_v X ck_6 fo_45 (fa_xn fo_45 (by decide) hN) rfl mi_Row_set (ct_Row_set 45 (((w5 44 9) * 74) + x4_2) a3 (fa_ro fo_45 hN hT) w5 _ e6) wd_1376 rfl (Nat.le_trans (Nat.le_of_ble_eq_true rfl) hle) (st := []) (Nat.le_of_ble_eq_true rfl) rfl d_Machine_enter_53 ?_
  refine g_aload_n X 1 rfl d_Machine_enter_56 ?_
  refine g_get X ck_3 fo_44 (fa_xn fo_44 (by decide) hN) 3 (by decide) wd_238 rfl (fr_44_3 rfl hT) d_Machine_enter_57 ?_
  refine g_iload X 0 rfl d_Machine_enter_60 ?_
  obtain ⟨w9, e8⟩ : ∃ q, fr_add 51 x4_2 w7 = q := ⟨_, rfl⟩
  have hM := fa_let_to hM e8.symm
  refine g_callV_v X ck_6 fo_51 (fa_xn fo_51 (by decide) hN) rfl mi_Row_add (ct_Row_add 51 x4_2 (fa_ro fo_51 hN hT) w7 _ e8) wd_1339 rfl (Nat.le_trans (Nat.le_of_ble_eq_true rfl) hle) (st := []) (Nat.le_of_ble_eq_true rfl) rfl d_Machine_enter_62 ?_
  refine g_aload_n X 1 rfl d_Machine_enter_65 ?_
  refine g_get X ck_3 fo_44 (fa_xn fo_44 (by decide) hN) 4 (by decide) wd_239 rfl (fr_44_4 rfl hT) d_Machine_enter_66 ?_
  refine g_aload_n X 1 rfl d_Machine_enter_69 ?_
  refine g_get X ck_3 fo_44 (fa_xn fo_44 (by decide) hN) 9 (by decide) wd_246 rfl (fa_fvI rfl) d_Machine_enter_70 ?_
  obtain ⟨w11, e10⟩ : ∃ q, fr_add 53 (w9 44 9) w9 = q := ⟨_, rfl⟩
  have hM := fa_let_to hM e10.symm
  refine g_callV_v X ck_6 fo_53 (fa_xn fo_53 (by decide) hN) rfl mi_Row_add (ct_Row_add 53 (w9 44 9) (fa_ro fo_53 hN hT) w9 _ e10) wd_1339 rfl (Nat.le_trans (Nat.le_of_ble_eq_true rfl) hle) (st := []) (Nat.le_of_ble_eq_true rfl) rfl d_Machine_enter_73 ?_
  refine g_aload_n X 1 rfl d_Machine_enter_76 ?_
  refine g_aload_n X 1 rfl d_Machine_enter_77 ?_
  refine g_get X ck_3 fo_44 (fa_xn fo_44 (by decide) hN) 10 (by decide) wd_248 rfl (fa_fvI rfl) d_Machine_enter_78 ?_
  refine g_aload_n X 1 rfl d_Machine_enter_81 ?_
  refine g_get X ck_3 fo_44 (fa_xn fo_44 (by decide) hN) 3 (by decide) wd_238 rfl (fr_44_3 rfl hT) d_Machine_enter_82 ?_
  refine g_callV_i X ck_6 fo_51 (fa_xn fo_51 (by decide) hN) rfl mi_Row_size (c_Row_size 51 (fa_ro fo_51 hN hT) w11 _ rfl) wd_1341 rfl (Nat.le_trans (Nat.le_of_ble_eq_true rfl) hle) (st := [.int (fa_I (w11 44 10)), .ref (b + 44)]) (Nat.le_of_ble_eq_true rfl) rfl d_Machine_enter_85 ?_
  refine g_mmax X (Nat.le_trans (Nat.le_of_ble_eq_true rfl) hle) wd_1357 (Nat.le_of_ble_eq_true rfl) d_Machine_enter_88 ?_
  refine g_put X ck_3 fo_44 (fa_xn fo_44 (by decide) hN) 10 (z := (fa_max (w11 44 10) (fm_Row_size 51 w11))) (by decide) wd_248 rfl (fa_fvI' rfl) rfl rfl rfl d_Machine_enter_91 (fun w13 ew13 => ?_)
  have hM := fa_let_to hM ew13
  refine g_aload_n X 1 rfl d_Machine_enter_94 ?_
  refine g_dup X rfl d_Machine_enter_95 ?_
  refine g_get X ck_3 fo_44 (fa_xn fo_44 (by decide) hN) 11 (by decide) wd_250 rfl (fa_fvI rfl) d_Machine_enter_96 ?_
  refine g_iload X 0 rfl d_Machine_enter_99 ?_
  refine g_callSN_i X mi_Face_bit (c_Face_bit hN hT x4_2 w13 _ rfl) wd_1405 rfl (Nat.le_trans (Nat.le_of_ble_eq_true rfl) hle) (st := [.int (fa_I (w13 44 11)), .ref (b + 44)]) (Nat.le_of_ble_eq_true rfl) rfl d_Machine_enter_101 ?_
  refine g_ior X d_Machine_enter_104 ?_
  refine g_put X ck_3 fo_44 (fa_xn fo_44 (by decide) hN) 11 (z := (fa_ior (w13 44 11) (fm_Face_bit x4_2 w13))) (by decide) wd_250 rfl (fa_fvI' rfl) rfl rfl rfl d_Machine_enter_105 (fun w15 ew15 => ?_)
  have hM := fa_let_to hM ew15
  refine g_aload_n X 1 rfl d_Machine_enter_108 ?_
  refine g_get X ck_3 fo_44 (fa_xn fo_44 (by decide) hN) 1 (by decide) wd_236 rfl (fr_44_1 rfl hT) d_Machine_enter_109 ?_
  refine g_iconst X d_Machine_enter_112 ?_
  obtain ⟨w17, e16⟩ : ∃ q, fr_add 47 (-1) w15 = q := ⟨_, rfl⟩
  have hM := fa_let_to hM e16.symm
  refine g_callV_v X ck_6 fo_47 (fa_xn fo_47 (by decide) hN) rfl mi_Row_add (ct_Row_add 47 (-1) (fa_ro fo_47 hN hT) w15 _ e16) wd_1339 rfl (Nat.le_trans (Nat.le_of_ble_eq_true rfl) hle) (st := []) (Nat.le_of_ble_eq_true rfl) rfl d_Machine_enter_113 ?_
  refine g_aload_n X 1 rfl d_Machine_enter_116 ?_
  refine g_aload_n X 2 rfl d_Machine_enter_117 ?_
  refine g_getN X ck_4 ha1 (fa_xn ha1 (by decide) hN) 9 (by decide) wd_87 rfl (fa_fvR rfl (fa_xt ha1 (by decide) hT 9)) d_Machine_enter_118 ?_
  refine g_iload X 0 rfl d_Machine_enter_121 ?_
  refine g_callV_i X ck_6 (fa_r4_9 _ ha1) (fa_xn (fa_r4_9 _ ha1) (by decide) hN) rfl mi_Row_at (ct_Row_at (fa_rf a1 9) x4_2 (fa_ro (fa_r4_9 _ ha1) hN hT) w17 _ rfl) wd_1358 rfl (Nat.le_trans (Nat.le_of_ble_eq_true rfl) hle) (st := [.ref (b + 44)]) (Nat.le_of_ble_eq_true rfl) rfl d_Machine_enter_123 ?_
  refine g_iconst X d_Machine_enter_126 ?_
  obtain ⟨w20, e19⟩ : ∃ q, fm_Machine_begin (fr_at (fa_rf a1 9) x4_2 w17) 0 w17 = q := ⟨_, rfl⟩
  have hM := fa_let_to hM e19.symm
  refine g_callV_v X ck_3 fo_44 (fa_xn fo_44 (by decide) hN) rfl mi_Machine_begin (c_Machine_begin hN hT (fr_at (fa_rf a1 9) x4_2 w17) 0 w17 _ e19) wd_1335 rfl (Nat.le_trans (Nat.le_of_ble_eq_true rfl) hle) (st := []) (Nat.le_of_ble_eq_true rfl) rfl d_Machine_enter_127 ?_
  cases hM
  exact g_vret X d_Machine_enter_130
theorem d_Machine_goSite_0 : decode prog_4_method_17_code 0 = .ok (.iload_n 3, 1) := by decide +kernel
theorem d_Machine_goSite_1 : decode prog_4_method_17_code 1 = .ok (.iconst 2, 1) := by decide +kernel
theorem d_Machine_goSite_2 : decode prog_4_method_17_code 2 = .ok (.if_icmp .ge 11, 3) := by decide +kernel
theorem d_Machine_goSite_5 : decode prog_4_method_17_code 5 = .ok (.aload_n 0, 1) := by decide +kernel
theorem d_Machine_goSite_6 : decode prog_4_method_17_code 6 = .ok (.aload_n 1, 1) := by decide +kernel
theorem d_Machine_goSite_7 : decode prog_4_method_17_code 7 = .ok (.iload_n 2, 1) := by decide +kernel
theorem d_Machine_goSite_8 : decode prog_4_method_17_code 8 = .ok (.iload_n 3, 1) := by decide +kernel
theorem d_Machine_goSite_9 : decode prog_4_method_17_code 9 = .ok (.invokevirtual 169, 3) := by decide +kernel
theorem d_Machine_goSite_12 : decode prog_4_method_17_code 12 = .ok (.return_, 1) := by decide +kernel
theorem d_Machine_goSite_13 : decode prog_4_method_17_code 13 = .ok (.aload_n 0, 1) := by decide +kernel
theorem d_Machine_goSite_14 : decode prog_4_method_17_code 14 = .ok (.getfield 23, 3) := by decide +kernel
theorem d_Machine_goSite_17 : decode prog_4_method_17_code 17 = .ok (.invokevirtual 99, 3) := by decide +kernel
theorem d_Machine_goSite_20 : decode prog_4_method_17_code 20 = .ok (.istore 4, 2) := by decide +kernel
theorem d_Machine_goSite_22 : decode prog_4_method_17_code 22 = .ok (.aload_n 0, 1) := by decide +kernel
theorem d_Machine_goSite_23 : decode prog_4_method_17_code 23 = .ok (.getfield 23, 3) := by decide +kernel
theorem d_Machine_goSite_26 : decode prog_4_method_17_code 26 = .ok (.invokevirtual 99, 3) := by decide +kernel
theorem d_Machine_goSite_29 : decode prog_4_method_17_code 29 = .ok (.istore 5, 2) := by decide +kernel
theorem d_Machine_goSite_31 : decode prog_4_method_17_code 31 = .ok (.aload_n 0, 1) := by decide +kernel
theorem d_Machine_goSite_32 : decode prog_4_method_17_code 32 = .ok (.getfield 36, 3) := by decide +kernel
theorem d_Machine_goSite_35 : decode prog_4_method_17_code 35 = .ok (.iload 5, 2) := by decide +kernel
theorem d_Machine_goSite_37 : decode prog_4_method_17_code 37 = .ok (.invokestatic 128, 3) := by decide +kernel
theorem d_Machine_goSite_40 : decode prog_4_method_17_code 40 = .ok (.invokestatic 182, 3) := by decide +kernel
theorem d_Machine_goSite_43 : decode prog_4_method_17_code 43 = .ok (.ifCond .ne 11, 3) := by decide +kernel
theorem d_Machine_goSite_46 : decode prog_4_method_17_code 46 = .ok (.aload_n 0, 1) := by decide +kernel
theorem d_Machine_goSite_47 : decode prog_4_method_17_code 47 = .ok (.iconst 5, 1) := by decide +kernel
theorem d_Machine_goSite_48 : decode prog_4_method_17_code 48 = .ok (.putfield 39, 3) := by decide +kernel
theorem d_Machine_goSite_51 : decode prog_4_method_17_code 51 = .ok (.goto 29, 3) := by decide +kernel
theorem d_Machine_goSite_54 : decode prog_4_method_17_code 54 = .ok (.aload_n 0, 1) := by decide +kernel
theorem d_Machine_goSite_55 : decode prog_4_method_17_code 55 = .ok (.getfield 45, 3) := by decide +kernel
theorem d_Machine_goSite_58 : decode prog_4_method_17_code 58 = .ok (.bipush 100, 2) := by decide +kernel
theorem d_Machine_goSite_60 : decode prog_4_method_17_code 60 = .ok (.if_icmp .lt 11, 3) := by decide +kernel
theorem d_Machine_goSite_63 : decode prog_4_method_17_code 63 = .ok (.aload_n 0, 1) := by decide +kernel
theorem d_Machine_goSite_64 : decode prog_4_method_17_code 64 = .ok (.iconst 4, 1) := by decide +kernel
theorem d_Machine_goSite_65 : decode prog_4_method_17_code 65 = .ok (.putfield 39, 3) := by decide +kernel
theorem d_Machine_goSite_68 : decode prog_4_method_17_code 68 = .ok (.goto 12, 3) := by decide +kernel
theorem d_Machine_goSite_71 : decode prog_4_method_17_code 71 = .ok (.aload_n 0, 1) := by decide +kernel
theorem d_Machine_goSite_72 : decode prog_4_method_17_code 72 = .ok (.aload_n 1, 1) := by decide +kernel
theorem d_Machine_goSite_73 : decode prog_4_method_17_code 73 = .ok (.iload 5, 2) := by decide +kernel
theorem d_Machine_goSite_75 : decode prog_4_method_17_code 75 = .ok (.iload 4, 2) := by decide +kernel
theorem d_Machine_goSite_77 : decode prog_4_method_17_code 77 = .ok (.invokevirtual 186, 3) := by decide +kernel
theorem d_Machine_goSite_80 : decode prog_4_method_17_code 80 = .ok (.return_, 1) := by decide +kernel
def fm_Machine_goSite (a1 : Nat) (a2 : Int) (a3 : Int) (w : fa_W) : Option fa_W :=
  if 2 ≤ fa_wr a3 then
  (fa_l2 (fr_drop 49 w) fun v3 w4 =>
  fa_l2 (fr_drop 49 w4) fun v6 w7 =>
  if fm_Face_hasBit (w7 44 6) (fm_Machine_functionOf v6 w7) w7 = true then
  (if fa_wr (w7 44 9) < 100 then
  ((fm_Machine_enter a1 v6 v3 w7).bind fun w13 =>
  some w13)
  else
  (fa_let (fa_st w7 44 7 4) fun w14 =>
  some w14))
  else
  (fa_let (fa_st w7 44 7 5) fun w15 =>
  some w15))
  else
  (fa_let (fm_Machine_beginPart a1 a2 a3 w) fun w17 =>
  some w17)
set_option maxHeartbeats 4000000 in
set_option maxRecDepth 100000 in
theorem c_Machine_goSite {l : Launch} {D : va_G} {b : Nat} {aC : Nat → ClassId} {H0 : Heap} {N T : Nat} (hN : fa_NX ≤ N) (hT : fa_TX ≤ T) (a1 : Nat) (a2 : Int) (a3 : Int) (ha1 : (fa_sh a1).1 = 4)  (w : fa_W) (r : fa_W) (hM : fm_Machine_goSite a1 a2 a3 w = some r) : fa_MC l D b aC H0 N T y_Machine_goSite prog_4_method_17_code 6 ((Option.none : Option Jvm.ClassFile.FieldType)) (3) [.ref (b + 44), .ref (b + a1), .int (fa_I a2), .int (fa_I a3)] w (none) r := by
  refine fa_enter (lv := [(0, .ref (b + 44)), (1, .ref (b + a1)), (2, .int (fa_I a2)), (3, .int (fa_I a3))]) (by decide +kernel) (Nat.le_of_ble_eq_true rfl) rfl (fun hh hle hnm X => ?_)
  unfold fm_Machine_goSite at hM
  refine g_iload_n X 3 rfl d_Machine_goSite_0 ?_
  refine g_iconst X d_Machine_goSite_1 ?_
  refine g_icmp_ge X 13 d_Machine_goSite_2 (by decide) (fun hc1 => ?_) (fun hc1 => ?_)
  · have hM := fa_if_t hM hc1
    refine g_aload_n X 0 rfl d_Machine_goSite_13 ?_
    refine g_get X ck_3 fo_44 (fa_xn fo_44 (by decide) hN) 2 (by decide) wd_237 rfl (fr_44_2 rfl hT) d_Machine_goSite_14 ?_
    obtain ⟨⟨v3, w4⟩, e2⟩ : ∃ q, fr_drop 49 w = q := ⟨_, rfl⟩
    have hM := fa_l2_e hM e2
    refine g_callV_i X ck_6 fo_49 (fa_xn fo_49 (by decide) hN) rfl mi_Row_drop (ct_Row_drop 49 (fa_ro fo_49 hN hT) w _ e2) wd_1342 rfl (Nat.le_trans (Nat.le_of_ble_eq_true rfl) hle) (st := []) (Nat.le_of_ble_eq_true rfl) rfl d_Machine_goSite_17 ?_
    refine g_istorec X [(4, .int (fa_I v3)), (0, .ref (b + 44)), (1, .ref (b + a1)), (2, .int (fa_I a2)), (3, .int (fa_I a3))] d_Machine_goSite_20 (by decide) rfl ?_
    refine g_aload_n X 1 rfl d_Machine_goSite_22 ?_
    refine g_get X ck_3 fo_44 (fa_xn fo_44 (by decide) hN) 2 (by decide) wd_237 rfl (fr_44_2 rfl hT) d_Machine_goSite_23 ?_
    obtain ⟨⟨v6, w7⟩, e5⟩ : ∃ q, fr_drop 49 w4 = q := ⟨_, rfl⟩
    have hM := fa_l2_e hM e5
    refine g_callV_i X ck_6 fo_49 (fa_xn fo_49 (by decide) hN) rfl mi_Row_drop (ct_Row_drop 49 (fa_ro fo_49 hN hT) w4 _ e5) wd_1342 rfl (Nat.le_trans (Nat.le_of_ble_eq_true rfl) hle) (st := []) (Nat.le_of_ble_eq_true rfl) rfl d_Machine_goSite_26 ?_
    refine g_istorec X [(5, .int (fa_I v6)), (4, .int (fa_I v3)), (0, .ref (b + 44)), (1, .ref (b + a1)), (2, .int (fa_I a2)), (3, .int (fa_I a3))] d_Machine_goSite_29 (by decide) rfl ?_
    refine g_aload_n X 2 rfl d_Machine_goSite_31 ?_
    refine g_get X ck_3 fo_44 (fa_xn fo_44 (by decide) hN) 6 (by decide) wd_241 rfl (fa_fvI rfl) d_Machine_goSite_32 ?_
    refine g_iload X 0 rfl d_Machine_goSite_35 ?_
    refine g_callS_i X mi_Machine_functionOf (c_Machine_functionOf hN hT v6 w7 _ rfl) wd_1390 rfl (Nat.le_trans (Nat.le_of_ble_eq_true rfl) hle) (st := [.int (fa_I (w7 44 6))]) (Nat.le_of_ble_eq_true rfl) rfl d_Machine_goSite_37 ?_
    refine g_callSN_i X mi_Face_hasBit (c_Face_hasBit hN hT (w7 44 6) (fm_Machine_functionOf v6 w7) w7 _ rfl) wd_1393 rfl (Nat.le_trans (Nat.le_of_ble_eq_true rfl) hle) (st := []) (Nat.le_of_ble_eq_true rfl) rfl d_Machine_goSite_40 ?_
    refine g_ifb_ne X 54 d_Machine_goSite_43 (by decide) (fun hc10 => ?_) (fun hc10 => ?_)
    · have hM := fa_ifb_t hM hc10
      refine g_aload_n X 2 rfl d_Machine_goSite_54 ?_
      refine g_get X ck_3 fo_44 (fa_xn fo_44 (by decide) hN) 9 (by decide) wd_246 rfl (fa_fvI rfl) d_Machine_goSite_55 ?_
      refine g_bipush X (by decide) d_Machine_goSite_58 ?_
      refine g_icmp_lt X 71 d_Machine_goSite_60 (by decide) (fun hc11 => ?_) (fun hc11 => ?_)
      · have hM := fa_if_t hM hc11
        refine g_aload_n X 2 rfl d_Machine_goSite_71 ?_
        refine g_aload_n X 3 rfl d_Machine_goSite_72 ?_
        refine g_iload X 0 rfl d_Machine_goSite_73 ?_
        refine g_iload X 1 rfl d_Machine_goSite_75 ?_
        obtain ⟨w13, e12, hM⟩ := fa_ob hM
        refine g_callV_v X ck_3 fo_44 (fa_xn fo_44 (by decide) hN) rfl mi_Machine_enter (c_Machine_enter hN hT a1 v6 v3 ha1 w7 _ e12) wd_1394 rfl (Nat.le_trans (Nat.le_of_ble_eq_true rfl) hle) (st := []) (Nat.le_of_ble_eq_true rfl) rfl d_Machine_goSite_77 ?_
        cases hM
        exact g_vret X d_Machine_goSite_80
      · have hM := fa_if_f hM hc11
        refine g_aload_n X 2 rfl d_Machine_goSite_63 ?_
        refine g_iconst X d_Machine_goSite_64 ?_
        refine g_put X ck_3 fo_44 (fa_xn fo_44 (by decide) hN) 7 (z := 4) (by decide) wd_242 rfl (fa_fvI' rfl) rfl rfl rfl d_Machine_goSite_65 (fun w14 ew14 => ?_)
        have hM := fa_let_to hM ew14
        refine g_goto X 80 d_Machine_goSite_68 (by decide) ?_
        cases hM
        exact g_vret X d_Machine_goSite_80
    · have hM := fa_ifb_f hM hc10
      refine g_aload_n X 2 rfl d_Machine_goSite_46 ?_
      refine g_iconst X d_Machine_goSite_47 ?_
      refine g_put X ck_3 fo_44 (fa_xn fo_44 (by decide) hN) 7 (z := 5) (by decide) wd_242 rfl (fa_fvI' rfl) rfl rfl rfl d_Machine_goSite_48 (fun w15 ew15 => ?_)
      have hM := fa_let_to hM ew15
      refine g_goto X 80 d_Machine_goSite_51 (by decide) ?_
      cases hM
      exact g_vret X d_Machine_goSite_80
  · have hM := fa_if_f hM hc1
    refine g_aload_n X 0 rfl d_Machine_goSite_5 ?_
    refine g_aload_n X 1 rfl d_Machine_goSite_6 ?_
    refine g_iload_n X 2 rfl d_Machine_goSite_7 ?_
    refine g_iload_n X 3 rfl d_Machine_goSite_8 ?_
    obtain ⟨w17, e16⟩ : ∃ q, fm_Machine_beginPart a1 a2 a3 w = q := ⟨_, rfl⟩
    have hM := fa_let_to hM e16.symm
    refine g_callV_v X ck_3 fo_44 (fa_xn fo_44 (by decide) hN) rfl mi_Machine_beginPart (c_Machine_beginPart hN hT a1 a2 a3 ha1 w _ e16) wd_1367 rfl (Nat.le_trans (Nat.le_of_ble_eq_true rfl) hle) (st := []) (Nat.le_of_ble_eq_true rfl) rfl d_Machine_goSite_9 ?_
    cases hM
    exact g_vret X d_Machine_goSite_12
theorem d_Machine_go_0 : decode prog_4_method_12_code 0 = .ok (.aload_n 1, 1) := by decide +kernel
theorem d_Machine_go_1 : decode prog_4_method_12_code 1 = .ok (.iload_n 2, 1) := by decide +kernel
theorem d_Machine_go_2 : decode prog_4_method_12_code 2 = .ok (.invokevirtual 148, 3) := by decide +kernel
theorem d_Machine_go_5 : decode prog_4_method_12_code 5 = .ok (.tableswitch 155 1 9 #[51, 66, 96, 155, 96, 115, 125, 135, 145], 51) := by decide +kernel
theorem d_Machine_go_56 : decode prog_4_method_12_code 56 = .ok (.aload_n 0, 1) := by decide +kernel
theorem d_Machine_go_57 : decode prog_4_method_12_code 57 = .ok (.getfield 23, 3) := by decide +kernel
theorem d_Machine_go_60 : decode prog_4_method_12_code 60 = .ok (.aload_n 1, 1) := by decide +kernel
theorem d_Machine_go_61 : decode prog_4_method_12_code 61 = .ok (.iload_n 2, 1) := by decide +kernel
theorem d_Machine_go_62 : decode prog_4_method_12_code 62 = .ok (.invokevirtual 151, 3) := by decide +kernel
theorem d_Machine_go_65 : decode prog_4_method_12_code 65 = .ok (.invokevirtual 131, 3) := by decide +kernel
theorem d_Machine_go_68 : decode prog_4_method_12_code 68 = .ok (.goto 97, 3) := by decide +kernel
theorem d_Machine_go_71 : decode prog_4_method_12_code 71 = .ok (.aload_n 0, 1) := by decide +kernel
theorem d_Machine_go_72 : decode prog_4_method_12_code 72 = .ok (.getfield 23, 3) := by decide +kernel
theorem d_Machine_go_75 : decode prog_4_method_12_code 75 = .ok (.aload_n 0, 1) := by decide +kernel
theorem d_Machine_go_76 : decode prog_4_method_12_code 76 = .ok (.getfield 14, 3) := by decide +kernel
theorem d_Machine_go_79 : decode prog_4_method_12_code 79 = .ok (.aload_n 0, 1) := by decide +kernel
theorem d_Machine_go_80 : decode prog_4_method_12_code 80 = .ok (.invokevirtual 145, 3) := by decide +kernel
theorem d_Machine_go_83 : decode prog_4_method_12_code 83 = .ok (.bipush 74, 2) := by decide +kernel
theorem d_Machine_go_85 : decode prog_4_method_12_code 85 = .ok (.imul, 1) := by decide +kernel
theorem d_Machine_go_86 : decode prog_4_method_12_code 86 = .ok (.aload_n 1, 1) := by decide +kernel
theorem d_Machine_go_87 : decode prog_4_method_12_code 87 = .ok (.iload_n 2, 1) := by decide +kernel
theorem d_Machine_go_88 : decode prog_4_method_12_code 88 = .ok (.invokevirtual 151, 3) := by decide +kernel
theorem d_Machine_go_91 : decode prog_4_method_12_code 91 = .ok (.iadd, 1) := by decide +kernel
theorem d_Machine_go_92 : decode prog_4_method_12_code 92 = .ok (.invokevirtual 115, 3) := by decide +kernel
theorem d_Machine_go_95 : decode prog_4_method_12_code 95 = .ok (.invokevirtual 131, 3) := by decide +kernel
theorem d_Machine_go_98 : decode prog_4_method_12_code 98 = .ok (.goto 67, 3) := by decide +kernel
theorem d_Machine_go_101 : decode prog_4_method_12_code 101 = .ok (.aload_n 0, 1) := by decide +kernel
theorem d_Machine_go_102 : decode prog_4_method_12_code 102 = .ok (.getfield 23, 3) := by decide +kernel
theorem d_Machine_go_105 : decode prog_4_method_12_code 105 = .ok (.aload_n 0, 1) := by decide +kernel
theorem d_Machine_go_106 : decode prog_4_method_12_code 106 = .ok (.aload_n 1, 1) := by decide +kernel
theorem d_Machine_go_107 : decode prog_4_method_12_code 107 = .ok (.iload_n 2, 1) := by decide +kernel
theorem d_Machine_go_108 : decode prog_4_method_12_code 108 = .ok (.invokevirtual 151, 3) := by decide +kernel
theorem d_Machine_go_111 : decode prog_4_method_12_code 111 = .ok (.invokevirtual 154, 3) := by decide +kernel
theorem d_Machine_go_114 : decode prog_4_method_12_code 114 = .ok (.invokevirtual 131, 3) := by decide +kernel
theorem d_Machine_go_117 : decode prog_4_method_12_code 117 = .ok (.goto 48, 3) := by decide +kernel
theorem d_Machine_go_120 : decode prog_4_method_12_code 120 = .ok (.aload_n 0, 1) := by decide +kernel
theorem d_Machine_go_121 : decode prog_4_method_12_code 121 = .ok (.aload_n 1, 1) := by decide +kernel
theorem d_Machine_go_122 : decode prog_4_method_12_code 122 = .ok (.iload_n 2, 1) := by decide +kernel
theorem d_Machine_go_123 : decode prog_4_method_12_code 123 = .ok (.iload_n 3, 1) := by decide +kernel
theorem d_Machine_go_124 : decode prog_4_method_12_code 124 = .ok (.invokevirtual 157, 3) := by decide +kernel
theorem d_Machine_go_127 : decode prog_4_method_12_code 127 = .ok (.goto 38, 3) := by decide +kernel
theorem d_Machine_go_130 : decode prog_4_method_12_code 130 = .ok (.aload_n 0, 1) := by decide +kernel
theorem d_Machine_go_131 : decode prog_4_method_12_code 131 = .ok (.aload_n 1, 1) := by decide +kernel
theorem d_Machine_go_132 : decode prog_4_method_12_code 132 = .ok (.iload_n 2, 1) := by decide +kernel
theorem d_Machine_go_133 : decode prog_4_method_12_code 133 = .ok (.iload_n 3, 1) := by decide +kernel
theorem d_Machine_go_134 : decode prog_4_method_12_code 134 = .ok (.invokevirtual 160, 3) := by decide +kernel
theorem d_Machine_go_137 : decode prog_4_method_12_code 137 = .ok (.goto 28, 3) := by decide +kernel
theorem d_Machine_go_140 : decode prog_4_method_12_code 140 = .ok (.aload_n 0, 1) := by decide +kernel
theorem d_Machine_go_141 : decode prog_4_method_12_code 141 = .ok (.aload_n 1, 1) := by decide +kernel
theorem d_Machine_go_142 : decode prog_4_method_12_code 142 = .ok (.iload_n 2, 1) := by decide +kernel
theorem d_Machine_go_143 : decode prog_4_method_12_code 143 = .ok (.iload_n 3, 1) := by decide +kernel
theorem d_Machine_go_144 : decode prog_4_method_12_code 144 = .ok (.invokevirtual 163, 3) := by decide +kernel
theorem d_Machine_go_147 : decode prog_4_method_12_code 147 = .ok (.goto 18, 3) := by decide +kernel
theorem d_Machine_go_150 : decode prog_4_method_12_code 150 = .ok (.aload_n 0, 1) := by decide +kernel
theorem d_Machine_go_151 : decode prog_4_method_12_code 151 = .ok (.aload_n 1, 1) := by decide +kernel
theorem d_Machine_go_152 : decode prog_4_method_12_code 152 = .ok (.iload_n 2, 1) := by decide +kernel
theorem d_Machine_go_153 : decode prog_4_method_12_code 153 = .ok (.iload_n 3, 1) := by decide +kernel
theorem d_Machine_go_154 : decode prog_4_method_12_code 154 = .ok (.invokevirtual 166, 3) := by decide +kernel
theorem d_Machine_go_157 : decode prog_4_method_12_code 157 = .ok (.goto 8, 3) := by decide +kernel
theorem d_Machine_go_160 : decode prog_4_method_12_code 160 = .ok (.aload_n 0, 1) := by decide +kernel
theorem d_Machine_go_161 : decode prog_4_method_12_code 161 = .ok (.iconst 3, 1) := by decide +kernel
theorem d_Machine_go_162 : decode prog_4_method_12_code 162 = .ok (.putfield 39, 3) := by decide +kernel
theorem d_Machine_go_165 : decode prog_4_method_12_code 165 = .ok (.return_, 1) := by decide +kernel
def fm_Machine_go (a1 : Nat) (a2 : Int) (a3 : Int) (w : fa_W) : Option fa_W :=
  if fa_wr (fm_Program_kind a1 a2 w) = 1 then
  (fa_let (fr_add 49 (fm_Program_value a1 a2 w) w) fun w5 =>
  some w5)
  else
  if fa_wr (fm_Program_kind a1 a2 w) = 2 then
  (fa_let (fr_add 49 (fr_at 45 (((fm_Machine_frame w) * 74) + (fm_Program_value a1 a2 w)) w) w) fun w11 =>
  some w11)
  else
  if fa_wr (fm_Program_kind a1 a2 w) = 3 then
  (fa_let (fr_add 49 (fm_Machine_handed (fm_Program_value a1 a2 w) w) w) fun w16 =>
  some w16)
  else
  if fa_wr (fm_Program_kind a1 a2 w) = 5 then
  (fa_let (fr_add 49 (fm_Machine_handed (fm_Program_value a1 a2 w) w) w) fun w21 =>
  some w21)
  else
  if fa_wr (fm_Program_kind a1 a2 w) = 6 then
  (fa_let (fm_Machine_goChoice a1 a2 a3 w) fun w24 =>
  some w24)
  else
  if fa_wr (fm_Program_kind a1 a2 w) = 7 then
  (fa_let (fm_Machine_goLet a1 a2 a3 w) fun w27 =>
  some w27)
  else
  if fa_wr (fm_Program_kind a1 a2 w) = 8 then
  ((fm_Machine_goOperator a1 a2 a3 w).bind fun w30 =>
  some w30)
  else
  if fa_wr (fm_Program_kind a1 a2 w) = 9 then
  ((fm_Machine_goSite a1 a2 a3 w).bind fun w33 =>
  some w33)
  else
  (fa_let (fa_st w 44 7 3) fun w34 =>
  some w34)
set_option maxHeartbeats 4000000 in
set_option maxRecDepth 100000 in
theorem c_Machine_go {l : Launch} {D : va_G} {b : Nat} {aC : Nat → ClassId} {H0 : Heap} {N T : Nat} (hN : fa_NX ≤ N) (hT : fa_TX ≤ T) (a1 : Nat) (a2 : Int) (a3 : Int) (ha1 : (fa_sh a1).1 = 4)  (w : fa_W) (r : fa_W) (hM : fm_Machine_go a1 a2 a3 w = some r) : fa_MC l D b aC H0 N T y_Machine_go prog_4_method_12_code 4 ((Option.none : Option Jvm.ClassFile.FieldType)) (4) [.ref (b + 44), .ref (b + a1), .int (fa_I a2), .int (fa_I a3)] w (none) r := by
  refine fa_enter (lv := [(0, .ref (b + 44)), (1, .ref (b + a1)), (2, .int (fa_I a2)), (3, .int (fa_I a3))]) (by decide +kernel) (Nat.le_of_ble_eq_true rfl) rfl (fun hh hle hnm X => ?_)
  unfold fm_Machine_go at hM
  refine g_aload_n X 1 rfl d_Machine_go_0 ?_
  refine g_iload_n X 2 rfl d_Machine_go_1 ?_
  refine g_callV_i X ck_4 ha1 (fa_xn ha1 (by decide) hN) rfl mi_Program_kind (c_Program_kind hN hT a1 a2 ha1 w _ rfl) wd_1347 rfl (Nat.le_trans (Nat.le_of_ble_eq_true rfl) hle) (st := []) (Nat.le_of_ble_eq_true rfl) rfl d_Machine_go_2 ?_
  by_cases hc2 : fa_wr (fm_Program_kind a1 a2 w) = 1
  · have hM := fa_if_t hM hc2
    refine g_tableIn X 1 56 d_Machine_go_5 hc2 (by decide) (by decide) rfl (by decide) ?_
    refine g_aload_n X 0 rfl d_Machine_go_56 ?_
    refine g_get X ck_3 fo_44 (fa_xn fo_44 (by decide) hN) 2 (by decide) wd_237 rfl (fr_44_2 rfl hT) d_Machine_go_57 ?_
    refine g_aload_n X 1 rfl d_Machine_go_60 ?_
    refine g_iload_n X 2 rfl d_Machine_go_61 ?_
    refine g_callV_i X ck_4 ha1 (fa_xn ha1 (by decide) hN) rfl mi_Program_value (c_Program_value hN hT a1 a2 ha1 w _ rfl) wd_1348 rfl (Nat.le_trans (Nat.le_of_ble_eq_true rfl) hle) (st := [.ref (b + 49)]) (Nat.le_of_ble_eq_true rfl) rfl d_Machine_go_62 ?_
    obtain ⟨w5, e4⟩ : ∃ q, fr_add 49 (fm_Program_value a1 a2 w) w = q := ⟨_, rfl⟩
    have hM := fa_let_to hM e4.symm
    refine g_callV_v X ck_6 fo_49 (fa_xn fo_49 (by decide) hN) rfl mi_Row_add (ct_Row_add 49 (fm_Program_value a1 a2 w) (fa_ro fo_49 hN hT) w _ e4) wd_1339 rfl (Nat.le_trans (Nat.le_of_ble_eq_true rfl) hle) (st := []) (Nat.le_of_ble_eq_true rfl) rfl d_Machine_go_65 ?_
    refine g_goto X 165 d_Machine_go_68 (by decide) ?_
    cases hM
    exact g_vret X d_Machine_go_165
  have hM := fa_if_f hM hc2
  by_cases hc6 : fa_wr (fm_Program_kind a1 a2 w) = 2
  · have hM := fa_if_t hM hc6
    refine g_tableIn X 2 71 d_Machine_go_5 hc6 (by decide) (by decide) rfl (by decide) ?_
    refine g_aload_n X 0 rfl d_Machine_go_71 ?_
    refine g_get X ck_3 fo_44 (fa_xn fo_44 (by decide) hN) 2 (by decide) wd_237 rfl (fr_44_2 rfl hT) d_Machine_go_72 ?_
    refine g_aload_n X 0 rfl d_Machine_go_75 ?_
    refine g_get X ck_3 fo_44 (fa_xn fo_44 (by decide) hN) 0 (by decide) wd_235 rfl (fr_44_0 rfl hT) d_Machine_go_76 ?_
    refine g_aload_n X 0 rfl d_Machine_go_79 ?_
    refine g_callV_i X ck_3 fo_44 (fa_xn fo_44 (by decide) hN) rfl mi_Machine_frame (c_Machine_frame hN hT w _ rfl) wd_1349 rfl (Nat.le_trans (Nat.le_of_ble_eq_true rfl) hle) (st := [.ref (b + 45), .ref (b + 49)]) (Nat.le_of_ble_eq_true rfl) rfl d_Machine_go_80 ?_
    refine g_bipush X (by decide) d_Machine_go_83 ?_
    refine g_imul X d_Machine_go_85 ?_
    refine g_aload_n X 1 rfl d_Machine_go_86 ?_
    refine g_iload_n X 2 rfl d_Machine_go_87 ?_
    refine g_callV_i X ck_4 ha1 (fa_xn ha1 (by decide) hN) rfl mi_Program_value (c_Program_value hN hT a1 a2 ha1 w _ rfl) wd_1348 rfl (Nat.le_trans (Nat.le_of_ble_eq_true rfl) hle) (st := [.int (fa_I ((fm_Machine_frame w) * 74)), .ref (b + 45), .ref (b + 49)]) (Nat.le_of_ble_eq_true rfl) rfl d_Machine_go_88 ?_
    refine g_iadd X d_Machine_go_91 ?_
    refine g_callV_i X ck_6 fo_45 (fa_xn fo_45 (by decide) hN) rfl mi_Row_at (ct_Row_at 45 (((fm_Machine_frame w) * 74) + (fm_Program_value a1 a2 w)) (fa_ro fo_45 hN hT) w _ rfl) wd_1358 rfl (Nat.le_trans (Nat.le_of_ble_eq_true rfl) hle) (st := [.ref (b + 49)]) (Nat.le_of_ble_eq_true rfl) rfl d_Machine_go_92 ?_
    obtain ⟨w11, e10⟩ : ∃ q, fr_add 49 (fr_at 45 (((fm_Machine_frame w) * 74) + (fm_Program_value a1 a2 w)) w) w = q := ⟨_, rfl⟩
    have hM := fa_let_to hM e10.symm
    refine g_callV_v X ck_6 fo_49 (fa_xn fo_49 (by decide) hN) rfl mi_Row_add (ct_Row_add 49 (fr_at 45 (((fm_Machine_frame w) * 74) + (fm_Program_value a1 a2 w)) w) (fa_ro fo_49 hN hT) w _ e10) wd_1339 rfl (Nat.le_trans (Nat.le_of_ble_eq_true rfl) hle) (st := []) (Nat.le_of_ble_eq_true rfl) rfl d_Machine_go_95 ?_
    refine g_goto X 165 d_Machine_go_98 (by decide) ?_
    cases hM
    exact g_vret X d_Machine_go_165
  have hM := fa_if_f hM hc6
  by_cases hc12 : fa_wr (fm_Program_kind a1 a2 w) = 3
  · have hM := fa_if_t hM hc12
    refine g_tableIn X 3 101 d_Machine_go_5 hc12 (by decide) (by decide) rfl (by decide) ?_
    refine g_aload_n X 0 rfl d_Machine_go_101 ?_
    refine g_get X ck_3 fo_44 (fa_xn fo_44 (by decide) hN) 2 (by decide) wd_237 rfl (fr_44_2 rfl hT) d_Machine_go_102 ?_
    refine g_aload_n X 0 rfl d_Machine_go_105 ?_
    refine g_aload_n X 1 rfl d_Machine_go_106 ?_
    refine g_iload_n X 2 rfl d_Machine_go_107 ?_
    refine g_callV_i X ck_4 ha1 (fa_xn ha1 (by decide) hN) rfl mi_Program_value (c_Program_value hN hT a1 a2 ha1 w _ rfl) wd_1348 rfl (Nat.le_trans (Nat.le_of_ble_eq_true rfl) hle) (st := [.ref (b + 44), .ref (b + 49)]) (Nat.le_of_ble_eq_true rfl) rfl d_Machine_go_108 ?_
    refine g_callV_i X ck_3 fo_44 (fa_xn fo_44 (by decide) hN) rfl mi_Machine_handed (c_Machine_handed hN hT (fm_Program_value a1 a2 w) w _ rfl) wd_1359 rfl (Nat.le_trans (Nat.le_of_ble_eq_true rfl) hle) (st := [.ref (b + 49)]) (Nat.le_of_ble_eq_true rfl) rfl d_Machine_go_111 ?_
    obtain ⟨w16, e15⟩ : ∃ q, fr_add 49 (fm_Machine_handed (fm_Program_value a1 a2 w) w) w = q := ⟨_, rfl⟩
    have hM := fa_let_to hM e15.symm
    refine g_callV_v X ck_6 fo_49 (fa_xn fo_49 (by decide) hN) rfl mi_Row_add (ct_Row_add 49 (fm_Machine_handed (fm_Program_value a1 a2 w) w) (fa_ro fo_49 hN hT) w _ e15) wd_1339 rfl (Nat.le_trans (Nat.le_of_ble_eq_true rfl) hle) (st := []) (Nat.le_of_ble_eq_true rfl) rfl d_Machine_go_114 ?_
    refine g_goto X 165 d_Machine_go_117 (by decide) ?_
    cases hM
    exact g_vret X d_Machine_go_165
  have hM := fa_if_f hM hc12
  by_cases hc17 : fa_wr (fm_Program_kind a1 a2 w) = 5
  · have hM := fa_if_t hM hc17
    refine g_tableIn X 5 101 d_Machine_go_5 hc17 (by decide) (by decide) rfl (by decide) ?_
    refine g_aload_n X 0 rfl d_Machine_go_101 ?_
    refine g_get X ck_3 fo_44 (fa_xn fo_44 (by decide) hN) 2 (by decide) wd_237 rfl (fr_44_2 rfl hT) d_Machine_go_102 ?_
    refine g_aload_n X 0 rfl d_Machine_go_105 ?_
    refine g_aload_n X 1 rfl d_Machine_go_106 ?_
    refine g_iload_n X 2 rfl d_Machine_go_107 ?_
    refine g_callV_i X ck_4 ha1 (fa_xn ha1 (by decide) hN) rfl mi_Program_value (c_Program_value hN hT a1 a2 ha1 w _ rfl) wd_1348 rfl (Nat.le_trans (Nat.le_of_ble_eq_true rfl) hle) (st := [.ref (b + 44), .ref (b + 49)]) (Nat.le_of_ble_eq_true rfl) rfl d_Machine_go_108 ?_
    refine g_callV_i X ck_3 fo_44 (fa_xn fo_44 (by decide) hN) rfl mi_Machine_handed (c_Machine_handed hN hT (fm_Program_value a1 a2 w) w _ rfl) wd_1359 rfl (Nat.le_trans (Nat.le_of_ble_eq_true rfl) hle) (st := [.ref (b + 49)]) (Nat.le_of_ble_eq_true rfl) rfl d_Machine_go_111 ?_
    obtain ⟨w21, e20⟩ : ∃ q, fr_add 49 (fm_Machine_handed (fm_Program_value a1 a2 w) w) w = q := ⟨_, rfl⟩
    have hM := fa_let_to hM e20.symm
    refine g_callV_v X ck_6 fo_49 (fa_xn fo_49 (by decide) hN) rfl mi_Row_add (ct_Row_add 49 (fm_Machine_handed (fm_Program_value a1 a2 w) w) (fa_ro fo_49 hN hT) w _ e20) wd_1339 rfl (Nat.le_trans (Nat.le_of_ble_eq_true rfl) hle) (st := []) (Nat.le_of_ble_eq_true rfl) rfl d_Machine_go_114 ?_
    refine g_goto X 165 d_Machine_go_117 (by decide) ?_
    cases hM
    exact g_vret X d_Machine_go_165
  have hM := fa_if_f hM hc17
  by_cases hc22 : fa_wr (fm_Program_kind a1 a2 w) = 6
  · have hM := fa_if_t hM hc22
    refine g_tableIn X 6 120 d_Machine_go_5 hc22 (by decide) (by decide) rfl (by decide) ?_
    refine g_aload_n X 0 rfl d_Machine_go_120 ?_
    refine g_aload_n X 1 rfl d_Machine_go_121 ?_
    refine g_iload_n X 2 rfl d_Machine_go_122 ?_
    refine g_iload_n X 3 rfl d_Machine_go_123 ?_
    obtain ⟨w24, e23⟩ : ∃ q, fm_Machine_goChoice a1 a2 a3 w = q := ⟨_, rfl⟩
    have hM := fa_let_to hM e23.symm
    refine g_callV_v X ck_3 fo_44 (fa_xn fo_44 (by decide) hN) rfl mi_Machine_goChoice (c_Machine_goChoice hN hT a1 a2 a3 ha1 w _ e23) wd_1363 rfl (Nat.le_trans (Nat.le_of_ble_eq_true rfl) hle) (st := []) (Nat.le_of_ble_eq_true rfl) rfl d_Machine_go_124 ?_
    refine g_goto X 165 d_Machine_go_127 (by decide) ?_
    cases hM
    exact g_vret X d_Machine_go_165
  have hM := fa_if_f hM hc22
  by_cases hc25 : fa_wr (fm_Program_kind a1 a2 w) = 7
  · have hM := fa_if_t hM hc25
    refine g_tableIn X 7 130 d_Machine_go_5 hc25 (by decide) (by decide) rfl (by decide) ?_
    refine g_aload_n X 0 rfl d_Machine_go_130 ?_
    refine g_aload_n X 1 rfl d_Machine_go_131 ?_
    refine g_iload_n X 2 rfl d_Machine_go_132 ?_
    refine g_iload_n X 3 rfl d_Machine_go_133 ?_
    obtain ⟨w27, e26⟩ : ∃ q, fm_Machine_goLet a1 a2 a3 w = q := ⟨_, rfl⟩
    have hM := fa_let_to hM e26.symm
    refine g_callV_v X ck_3 fo_44 (fa_xn fo_44 (by decide) hN) rfl mi_Machine_goLet (c_Machine_goLet hN hT a1 a2 a3 ha1 w _ e26) wd_1372 rfl (Nat.le_trans (Nat.le_of_ble_eq_true rfl) hle) (st := []) (Nat.le_of_ble_eq_true rfl) rfl d_Machine_go_134 ?_
    refine g_goto X 165 d_Machine_go_137 (by decide) ?_
    cases hM
    exact g_vret X d_Machine_go_165
  have hM := fa_if_f hM hc25
  by_cases hc28 : fa_wr (fm_Program_kind a1 a2 w) = 8
  · have hM := fa_if_t hM hc28
    refine g_tableIn X 8 140 d_Machine_go_5 hc28 (by decide) (by decide) rfl (by decide) ?_
    refine g_aload_n X 0 rfl d_Machine_go_140 ?_
    refine g_aload_n X 1 rfl d_Machine_go_141 ?_
    refine g_iload_n X 2 rfl d_Machine_go_142 ?_
    refine g_iload_n X 3 rfl d_Machine_go_143 ?_
    obtain ⟨w30, e29, hM⟩ := fa_ob hM
    refine g_callV_v X ck_3 fo_44 (fa_xn fo_44 (by decide) hN) rfl mi_Machine_goOperator (c_Machine_goOperator hN hT a1 a2 a3 ha1 w _ e29) wd_1377 rfl (Nat.le_trans (Nat.le_of_ble_eq_true rfl) hle) (st := []) (Nat.le_of_ble_eq_true rfl) rfl d_Machine_go_144 ?_
    refine g_goto X 165 d_Machine_go_147 (by decide) ?_
    cases hM
    exact g_vret X d_Machine_go_165
  have hM := fa_if_f hM hc28
  by_cases hc31 : fa_wr (fm_Program_kind a1 a2 w) = 9
  · have hM := fa_if_t hM hc31
    refine g_tableIn X 9 150 d_Machine_go_5 hc31 (by decide) (by decide) rfl (by decide) ?_
    refine g_aload_n X 0 rfl d_Machine_go_150 ?_
    refine g_aload_n X 1 rfl d_Machine_go_151 ?_
    refine g_iload_n X 2 rfl d_Machine_go_152 ?_
    refine g_iload_n X 3 rfl d_Machine_go_153 ?_
    obtain ⟨w33, e32, hM⟩ := fa_ob hM
    refine g_callV_v X ck_3 fo_44 (fa_xn fo_44 (by decide) hN) rfl mi_Machine_goSite (c_Machine_goSite hN hT a1 a2 a3 ha1 w _ e32) wd_1386 rfl (Nat.le_trans (Nat.le_of_ble_eq_true rfl) hle) (st := []) (Nat.le_of_ble_eq_true rfl) rfl d_Machine_go_154 ?_
    refine g_goto X 165 d_Machine_go_157 (by decide) ?_
    cases hM
    exact g_vret X d_Machine_go_165
  have hM := fa_if_f hM hc31
  refine g_tableDef X 160 d_Machine_go_5 (by
    by_cases h9 : fa_wr (fm_Program_kind a1 a2 w) = 4
    · rw [h9]; exact Or.inr ⟨by decide, by decide, _, rfl, by decide⟩
    exact Or.inl (by omega)) (by decide) ?_
  refine g_aload_n X 0 rfl d_Machine_go_160 ?_
  refine g_iconst X d_Machine_go_161 ?_
  refine g_put X ck_3 fo_44 (fa_xn fo_44 (by decide) hN) 7 (z := 3) (by decide) wd_242 rfl (fa_fvI' rfl) rfl rfl rfl d_Machine_go_162 (fun w34 ew34 => ?_)
  have hM := fa_let_to hM ew34
  cases hM
  exact g_vret X d_Machine_go_165
theorem d_Machine_finish_0 : decode prog_4_method_5_code 0 = .ok (.aload_n 0, 1) := by decide +kernel
theorem d_Machine_finish_1 : decode prog_4_method_5_code 1 = .ok (.getfield 23, 3) := by decide +kernel
theorem d_Machine_finish_4 : decode prog_4_method_5_code 4 = .ok (.invokevirtual 99, 3) := by decide +kernel
theorem d_Machine_finish_7 : decode prog_4_method_5_code 7 = .ok (.istore_n 2, 1) := by decide +kernel
theorem d_Machine_finish_8 : decode prog_4_method_5_code 8 = .ok (.aload_n 0, 1) := by decide +kernel
theorem d_Machine_finish_9 : decode prog_4_method_5_code 9 = .ok (.iload_n 1, 1) := by decide +kernel
theorem d_Machine_finish_10 : decode prog_4_method_5_code 10 = .ok (.ifCond .eq 7, 3) := by decide +kernel
theorem d_Machine_finish_13 : decode prog_4_method_5_code 13 = .ok (.iconst 0, 1) := by decide +kernel
theorem d_Machine_finish_14 : decode prog_4_method_5_code 14 = .ok (.goto 4, 3) := by decide +kernel
theorem d_Machine_finish_17 : decode prog_4_method_5_code 17 = .ok (.iconst 1, 1) := by decide +kernel
theorem d_Machine_finish_18 : decode prog_4_method_5_code 18 = .ok (.putfield 39, 3) := by decide +kernel
theorem d_Machine_finish_21 : decode prog_4_method_5_code 21 = .ok (.aload_n 0, 1) := by decide +kernel
theorem d_Machine_finish_22 : decode prog_4_method_5_code 22 = .ok (.iload_n 1, 1) := by decide +kernel
theorem d_Machine_finish_23 : decode prog_4_method_5_code 23 = .ok (.ifCond .eq 7, 3) := by decide +kernel
theorem d_Machine_finish_26 : decode prog_4_method_5_code 26 = .ok (.iload_n 2, 1) := by decide +kernel
theorem d_Machine_finish_27 : decode prog_4_method_5_code 27 = .ok (.goto 7, 3) := by decide +kernel
theorem d_Machine_finish_30 : decode prog_4_method_5_code 30 = .ok (.iload_n 2, 1) := by decide +kernel
theorem d_Machine_finish_31 : decode prog_4_method_5_code 31 = .ok (.invokestatic 128, 3) := by decide +kernel
theorem d_Machine_finish_34 : decode prog_4_method_5_code 34 = .ok (.putfield 42, 3) := by decide +kernel
theorem d_Machine_finish_37 : decode prog_4_method_5_code 37 = .ok (.return_, 1) := by decide +kernel
def fm_Machine_finish_j34 (a1 : Bool) (s0 : Int) (w : fa_W) : fa_W :=
  fa_let (fa_st w 44 8 s0) fun w8 =>
  w8
set_option maxHeartbeats 4000000 in
set_option maxRecDepth 100000 in
theorem c_Machine_finish_j34 {p : Program} {l : Launch} {e : Env} {s : State} {m : MethodId} {args : Array Value} {below : List Frame} {meth : Method} {c : Code} {hh : Nat} {D : va_G} {b : Nat} {aC : Nat → ClassId} {H0 : Heap} {N T : Nat} (X : fa_GX p s m args meth c prog_4_method_5_code 3 ((Option.none : Option Jvm.ClassFile.FieldType)) y_Machine_finish.cls D b aC) (hle : 2 ≤ hh) (hN : fa_NX ≤ N) (hT : fa_TX ≤ T) (a1 : Bool) {r : fa_W}  : ∀ (s0 : Int) (w : fa_W) (_ : fm_Machine_finish_j34 a1 s0 w = r), fa_GJ p l e (fa_rm hh) s m args below meth c 0 0 (MQ below (fa_Qc D b aC H0 N T (none) r) args s 0 0 (fun q => b ≤ q)) D b aC H0 N T 3 w 34 [] [.int (fa_I s0), .ref (b + 44)] := by
  intro s0 w hM
  unfold fm_Machine_finish_j34 at hM
  refine g_put X ck_3 fo_44 (fa_xn fo_44 (by decide) hN) 8 (z := s0) (by decide) wd_244 rfl (fa_fvI' rfl) rfl rfl rfl d_Machine_finish_34 (fun w8 ew8 => ?_)
  have hM := fa_let_to hM ew8
  subst hM
  exact g_vret X d_Machine_finish_37
def fm_Machine_finish_j18 (a1 : Bool) (x2 : Int) (s0 : Bool) (w : fa_W) : fa_W :=
  fa_let (fa_st w 44 7 (fa_bi s0)) fun w5 =>
  if a1 = true then
  fm_Machine_finish_j34 a1 x2 w5
  else
  fm_Machine_finish_j34 a1 (fm_Machine_functionOf x2 w5) w5
set_option maxHeartbeats 4000000 in
set_option maxRecDepth 100000 in
theorem c_Machine_finish_j18 {p : Program} {l : Launch} {e : Env} {s : State} {m : MethodId} {args : Array Value} {below : List Frame} {meth : Method} {c : Code} {hh : Nat} {D : va_G} {b : Nat} {aC : Nat → ClassId} {H0 : Heap} {N T : Nat} (X : fa_GX p s m args meth c prog_4_method_5_code 3 ((Option.none : Option Jvm.ClassFile.FieldType)) y_Machine_finish.cls D b aC) (hle : 2 ≤ hh) (hN : fa_NX ≤ N) (hT : fa_TX ≤ T) (a1 : Bool) {r : fa_W}  : ∀ (x2 : Int) (s0 : Bool) (w : fa_W) (_ : fm_Machine_finish_j18 a1 x2 s0 w = r), fa_GJ p l e (fa_rm hh) s m args below meth c 0 0 (MQ below (fa_Qc D b aC H0 N T (none) r) args s 0 0 (fun q => b ≤ q)) D b aC H0 N T 3 w 18 [(0, .ref (b + 44)), (1, .int (fa_I (fa_bi a1))), (2, .int (fa_I x2))] [.int (fa_I (fa_bi s0)), .ref (b + 44)] := by
  intro x2 s0 w hM
  unfold fm_Machine_finish_j18 at hM
  refine g_put X ck_3 fo_44 (fa_xn fo_44 (by decide) hN) 7 (z := (fa_bi s0)) (by decide) wd_242 rfl (fa_fvI' rfl) rfl rfl rfl d_Machine_finish_18 (fun w5 ew5 => ?_)
  have hM := fa_let_to hM ew5
  refine g_aload_n X 0 rfl d_Machine_finish_21 ?_
  refine g_iload_n X 1 rfl d_Machine_finish_22 ?_
  refine g_ifb_eq X 30 d_Machine_finish_23 (by decide) (fun hc6 => ?_) (fun hc6 => ?_)
  · have hM := fa_ifb_f hM hc6
    refine g_iload_n X 2 rfl d_Machine_finish_30 ?_
    refine g_callS_i X mi_Machine_functionOf (c_Machine_functionOf hN hT x2 w5 _ rfl) wd_1390 rfl (Nat.le_trans (Nat.le_of_ble_eq_true rfl) hle) (st := [.ref (b + 44)]) (Nat.le_of_ble_eq_true rfl) rfl d_Machine_finish_31 ?_
    exact g_lv [] rfl (c_Machine_finish_j34 X hle hN hT a1    _ _ hM)
  · have hM := fa_ifb_t hM hc6
    refine g_iload_n X 2 rfl d_Machine_finish_26 ?_
    refine g_goto X 34 d_Machine_finish_27 (by decide) ?_
    exact g_lv [] rfl (c_Machine_finish_j34 X hle hN hT a1    _ _ hM)
def fm_Machine_finish (a1 : Bool) (w : fa_W) : fa_W :=
  fa_l2 (fr_drop 49 w) fun v2 w3 =>
  if a1 = true then
  fm_Machine_finish_j18 a1 v2 false w3
  else
  fm_Machine_finish_j18 a1 v2 true w3
set_option maxHeartbeats 4000000 in
set_option maxRecDepth 100000 in
theorem c_Machine_finish {l : Launch} {D : va_G} {b : Nat} {aC : Nat → ClassId} {H0 : Heap} {N T : Nat} (hN : fa_NX ≤ N) (hT : fa_TX ≤ T) (a1 : Bool)  (w : fa_W) (r : fa_W) (hM : fm_Machine_finish a1 w = r) : fa_MC l D b aC H0 N T y_Machine_finish prog_4_method_5_code 3 ((Option.none : Option Jvm.ClassFile.FieldType)) (2) [.ref (b + 44), .int (fa_I (fa_bi a1))] w (none) r := by
  refine fa_enter (lv := [(0, .ref (b + 44)), (1, .int (fa_I (fa_bi a1)))]) (by decide +kernel) (Nat.le_of_ble_eq_true rfl) rfl (fun hh hle hnm X => ?_)
  unfold fm_Machine_finish at hM
  refine g_aload_n X 0 rfl d_Machine_finish_0 ?_
  refine g_get X ck_3 fo_44 (fa_xn fo_44 (by decide) hN) 2 (by decide) wd_237 rfl (fr_44_2 rfl hT) d_Machine_finish_1 ?_
  obtain ⟨⟨v2, w3⟩, e1⟩ : ∃ q, fr_drop 49 w = q := ⟨_, rfl⟩
  have hM := fa_l2_e hM e1
  refine g_callV_i X ck_6 fo_49 (fa_xn fo_49 (by decide) hN) rfl mi_Row_drop (ct_Row_drop 49 (fa_ro fo_49 hN hT) w _ e1) wd_1342 rfl (Nat.le_trans (Nat.le_of_ble_eq_true rfl) hle) (st := []) (Nat.le_of_ble_eq_true rfl) rfl d_Machine_finish_4 ?_
  refine g_istorec_n X [(2, .int (fa_I v2)), (0, .ref (b + 44)), (1, .int (fa_I (fa_bi a1)))] d_Machine_finish_7 (by decide) rfl ?_
  refine g_aload_n X 1 rfl d_Machine_finish_8 ?_
  refine g_iload_n X 2 rfl d_Machine_finish_9 ?_
  refine g_ifb_eq X 17 d_Machine_finish_10 (by decide) (fun hc4 => ?_) (fun hc4 => ?_)
  · have hM := fa_ifb_f hM hc4
    refine g_iconst X d_Machine_finish_17 ?_
    exact g_lv [1, 2, 0] rfl (c_Machine_finish_j18 X hle hN hT a1    _ _ _ hM)
  · have hM := fa_ifb_t hM hc4
    refine g_iconst X d_Machine_finish_13 ?_
    refine g_goto X 18 d_Machine_finish_14 (by decide) ?_
    exact g_lv [1, 2, 0] rfl (c_Machine_finish_j18 X hle hN hT a1    _ _ _ hM)
theorem d_Machine_perform_0 : decode prog_4_method_2_code 0 = .ok (.aload_n 0, 1) := by decide +kernel
theorem d_Machine_perform_1 : decode prog_4_method_2_code 1 = .ok (.getfield 32, 3) := by decide +kernel
theorem d_Machine_perform_4 : decode prog_4_method_2_code 4 = .ok (.iload_n 2, 1) := by decide +kernel
theorem d_Machine_perform_5 : decode prog_4_method_2_code 5 = .ok (.if_icmp .ne 4, 3) := by decide +kernel
theorem d_Machine_perform_8 : decode prog_4_method_2_code 8 = .ok (.return_, 1) := by decide +kernel
theorem d_Machine_perform_9 : decode prog_4_method_2_code 9 = .ok (.aload_n 0, 1) := by decide +kernel
theorem d_Machine_perform_10 : decode prog_4_method_2_code 10 = .ok (.iload_n 2, 1) := by decide +kernel
theorem d_Machine_perform_11 : decode prog_4_method_2_code 11 = .ok (.putfield 32, 3) := by decide +kernel
theorem d_Machine_perform_14 : decode prog_4_method_2_code 14 = .ok (.aload_n 0, 1) := by decide +kernel
theorem d_Machine_perform_15 : decode prog_4_method_2_code 15 = .ok (.invokevirtual 58, 3) := by decide +kernel
theorem d_Machine_perform_18 : decode prog_4_method_2_code 18 = .ok (.aload_n 0, 1) := by decide +kernel
theorem d_Machine_perform_19 : decode prog_4_method_2_code 19 = .ok (.iload_n 2, 1) := by decide +kernel
theorem d_Machine_perform_20 : decode prog_4_method_2_code 20 = .ok (.ifCond .ne 7, 3) := by decide +kernel
theorem d_Machine_perform_23 : decode prog_4_method_2_code 23 = .ok (.iconst (-1), 1) := by decide +kernel
theorem d_Machine_perform_24 : decode prog_4_method_2_code 24 = .ok (.goto 20, 3) := by decide +kernel
theorem d_Machine_perform_27 : decode prog_4_method_2_code 27 = .ok (.aload_n 1, 1) := by decide +kernel
theorem d_Machine_perform_28 : decode prog_4_method_2_code 28 = .ok (.getfield 61, 3) := by decide +kernel
theorem d_Machine_perform_31 : decode prog_4_method_2_code 31 = .ok (.iload_n 2, 1) := by decide +kernel
theorem d_Machine_perform_32 : decode prog_4_method_2_code 32 = .ok (.iconst 1, 1) := by decide +kernel
theorem d_Machine_perform_33 : decode prog_4_method_2_code 33 = .ok (.isub, 1) := by decide +kernel
theorem d_Machine_perform_34 : decode prog_4_method_2_code 34 = .ok (.aload_n 1, 1) := by decide +kernel
theorem d_Machine_perform_35 : decode prog_4_method_2_code 35 = .ok (.getfield 67, 3) := by decide +kernel
theorem d_Machine_perform_38 : decode prog_4_method_2_code 38 = .ok (.getfield 71, 3) := by decide +kernel
theorem d_Machine_perform_41 : decode prog_4_method_2_code 41 = .ok (.invokevirtual 76, 3) := by decide +kernel
theorem d_Machine_perform_44 : decode prog_4_method_2_code 44 = .ok (.putfield 36, 3) := by decide +kernel
theorem d_Machine_perform_47 : decode prog_4_method_2_code 47 = .ok (.aload_n 0, 1) := by decide +kernel
theorem d_Machine_perform_48 : decode prog_4_method_2_code 48 = .ok (.aload_n 1, 1) := by decide +kernel
theorem d_Machine_perform_49 : decode prog_4_method_2_code 49 = .ok (.getfield 82, 3) := by decide +kernel
theorem d_Machine_perform_52 : decode prog_4_method_2_code 52 = .ok (.getfield 86, 3) := by decide +kernel
theorem d_Machine_perform_55 : decode prog_4_method_2_code 55 = .ok (.iconst 0, 1) := by decide +kernel
theorem d_Machine_perform_56 : decode prog_4_method_2_code 56 = .ok (.invokevirtual 91, 3) := by decide +kernel
theorem d_Machine_perform_59 : decode prog_4_method_2_code 59 = .ok (.iconst 0, 1) := by decide +kernel
theorem d_Machine_perform_60 : decode prog_4_method_2_code 60 = .ok (.istore_n 3, 1) := by decide +kernel
theorem d_Machine_perform_61 : decode prog_4_method_2_code 61 = .ok (.iload_n 3, 1) := by decide +kernel
theorem d_Machine_perform_62 : decode prog_4_method_2_code 62 = .ok (.ldc 94, 2) := by decide +kernel
theorem d_Machine_perform_64 : decode prog_4_method_2_code 64 = .ok (.if_icmp .ge 77, 3) := by decide +kernel
theorem d_Machine_perform_67 : decode prog_4_method_2_code 67 = .ok (.aload_n 0, 1) := by decide +kernel
theorem d_Machine_perform_68 : decode prog_4_method_2_code 68 = .ok (.getfield 39, 3) := by decide +kernel
theorem d_Machine_perform_71 : decode prog_4_method_2_code 71 = .ok (.iconst (-1), 1) := by decide +kernel
theorem d_Machine_perform_72 : decode prog_4_method_2_code 72 = .ok (.if_icmp .ne 69, 3) := by decide +kernel
theorem d_Machine_perform_75 : decode prog_4_method_2_code 75 = .ok (.aload_n 0, 1) := by decide +kernel
theorem d_Machine_perform_76 : decode prog_4_method_2_code 76 = .ok (.getfield 20, 3) := by decide +kernel
theorem d_Machine_perform_79 : decode prog_4_method_2_code 79 = .ok (.invokevirtual 95, 3) := by decide +kernel
theorem d_Machine_perform_82 : decode prog_4_method_2_code 82 = .ok (.ifCond .le 59, 3) := by decide +kernel
theorem d_Machine_perform_85 : decode prog_4_method_2_code 85 = .ok (.aload_n 0, 1) := by decide +kernel
theorem d_Machine_perform_86 : decode prog_4_method_2_code 86 = .ok (.getfield 20, 3) := by decide +kernel
theorem d_Machine_perform_89 : decode prog_4_method_2_code 89 = .ok (.invokevirtual 99, 3) := by decide +kernel
theorem d_Machine_perform_92 : decode prog_4_method_2_code 92 = .ok (.istore 4, 2) := by decide +kernel
theorem d_Machine_perform_94 : decode prog_4_method_2_code 94 = .ok (.iload 4, 2) := by decide +kernel
theorem d_Machine_perform_96 : decode prog_4_method_2_code 96 = .ok (.iconst (-1), 1) := by decide +kernel
theorem d_Machine_perform_97 : decode prog_4_method_2_code 97 = .ok (.if_icmp .ne 22, 3) := by decide +kernel
theorem d_Machine_perform_100 : decode prog_4_method_2_code 100 = .ok (.aload_n 0, 1) := by decide +kernel
theorem d_Machine_perform_101 : decode prog_4_method_2_code 101 = .ok (.getfield 26, 3) := by decide +kernel
theorem d_Machine_perform_104 : decode prog_4_method_2_code 104 = .ok (.invokevirtual 99, 3) := by decide +kernel
theorem d_Machine_perform_107 : decode prog_4_method_2_code 107 = .ok (.pop, 1) := by decide +kernel
theorem d_Machine_perform_108 : decode prog_4_method_2_code 108 = .ok (.aload_n 0, 1) := by decide +kernel
theorem d_Machine_perform_109 : decode prog_4_method_2_code 109 = .ok (.getfield 29, 3) := by decide +kernel
theorem d_Machine_perform_112 : decode prog_4_method_2_code 112 = .ok (.invokevirtual 99, 3) := by decide +kernel
theorem d_Machine_perform_115 : decode prog_4_method_2_code 115 = .ok (.pop, 1) := by decide +kernel
theorem d_Machine_perform_116 : decode prog_4_method_2_code 116 = .ok (.goto 19, 3) := by decide +kernel
theorem d_Machine_perform_119 : decode prog_4_method_2_code 119 = .ok (.aload_n 0, 1) := by decide +kernel
theorem d_Machine_perform_120 : decode prog_4_method_2_code 120 = .ok (.aload_n 1, 1) := by decide +kernel
theorem d_Machine_perform_121 : decode prog_4_method_2_code 121 = .ok (.getfield 82, 3) := by decide +kernel
theorem d_Machine_perform_124 : decode prog_4_method_2_code 124 = .ok (.iload 4, 2) := by decide +kernel
theorem d_Machine_perform_126 : decode prog_4_method_2_code 126 = .ok (.iconst 4, 1) := by decide +kernel
theorem d_Machine_perform_127 : decode prog_4_method_2_code 127 = .ok (.idiv, 1) := by decide +kernel
theorem d_Machine_perform_128 : decode prog_4_method_2_code 128 = .ok (.iload 4, 2) := by decide +kernel
theorem d_Machine_perform_130 : decode prog_4_method_2_code 130 = .ok (.iconst 4, 1) := by decide +kernel
theorem d_Machine_perform_131 : decode prog_4_method_2_code 131 = .ok (.irem, 1) := by decide +kernel
theorem d_Machine_perform_132 : decode prog_4_method_2_code 132 = .ok (.invokevirtual 102, 3) := by decide +kernel
theorem d_Machine_perform_135 : decode prog_4_method_2_code 135 = .ok (.iinc 3 1, 3) := by decide +kernel
theorem d_Machine_perform_138 : decode prog_4_method_2_code 138 = .ok (.goto (-77), 3) := by decide +kernel
theorem d_Machine_perform_141 : decode prog_4_method_2_code 141 = .ok (.aload_n 0, 1) := by decide +kernel
theorem d_Machine_perform_142 : decode prog_4_method_2_code 142 = .ok (.getfield 39, 3) := by decide +kernel
theorem d_Machine_perform_145 : decode prog_4_method_2_code 145 = .ok (.iconst (-1), 1) := by decide +kernel
theorem d_Machine_perform_146 : decode prog_4_method_2_code 146 = .ok (.if_icmp .ne 31, 3) := by decide +kernel
theorem d_Machine_perform_149 : decode prog_4_method_2_code 149 = .ok (.aload_n 0, 1) := by decide +kernel
theorem d_Machine_perform_150 : decode prog_4_method_2_code 150 = .ok (.aload_n 1, 1) := by decide +kernel
theorem d_Machine_perform_151 : decode prog_4_method_2_code 151 = .ok (.getfield 106, 3) := by decide +kernel
theorem d_Machine_perform_154 : decode prog_4_method_2_code 154 = .ok (.aload_n 1, 1) := by decide +kernel
theorem d_Machine_perform_155 : decode prog_4_method_2_code 155 = .ok (.getfield 106, 3) := by decide +kernel
theorem d_Machine_perform_158 : decode prog_4_method_2_code 158 = .ok (.getfield 110, 3) := by decide +kernel
theorem d_Machine_perform_161 : decode prog_4_method_2_code 161 = .ok (.aload_n 1, 1) := by decide +kernel
theorem d_Machine_perform_162 : decode prog_4_method_2_code 162 = .ok (.getfield 82, 3) := by decide +kernel
theorem d_Machine_perform_165 : decode prog_4_method_2_code 165 = .ok (.getfield 86, 3) := by decide +kernel
theorem d_Machine_perform_168 : decode prog_4_method_2_code 168 = .ok (.invokevirtual 115, 3) := by decide +kernel
theorem d_Machine_perform_171 : decode prog_4_method_2_code 171 = .ok (.invokevirtual 119, 3) := by decide +kernel
theorem d_Machine_perform_174 : decode prog_4_method_2_code 174 = .ok (.invokevirtual 123, 3) := by decide +kernel
theorem d_Machine_perform_177 : decode prog_4_method_2_code 177 = .ok (.return_, 1) := by decide +kernel
def fm_Machine_perform_j141 (a1 : Nat) (a2 : Int) (w : fa_W) : Option fa_W :=
  if fa_wr (w 44 7) = (-1) then
  ((fm_Typing_isInt (fa_rf a1 1) (fr_at (fa_rf (fa_rf a1 1) 4) (w (fa_rf a1 0) 16) w) w).bind fun v15 =>
  fa_let (fm_Machine_finish v15 w) fun w17 =>
  some w17)
  else
  some w
set_option maxHeartbeats 4000000 in
set_option maxRecDepth 100000 in
theorem c_Machine_perform_j141 {p : Program} {l : Launch} {e : Env} {s : State} {m : MethodId} {args : Array Value} {below : List Frame} {meth : Method} {c : Code} {hh : Nat} {D : va_G} {b : Nat} {aC : Nat → ClassId} {H0 : Heap} {N T : Nat} (X : fa_GX p s m args meth c prog_4_method_2_code 5 ((Option.none : Option Jvm.ClassFile.FieldType)) y_Machine_perform.cls D b aC) (hle : 5 ≤ hh) (hN : fa_NX ≤ N) (hT : fa_TX ≤ T) (a1 : Nat) (a2 : Int) (ha1 : (fa_sh a1).1 = 7) {r : fa_W}  : ∀ (w : fa_W) (_ : fm_Machine_perform_j141 a1 a2 w = some r), fa_GJ p l e (fa_rm hh) s m args below meth c 0 0 (MQ below (fa_Qc D b aC H0 N T (none) r) args s 0 0 (fun q => b ≤ q)) D b aC H0 N T 5 w 141 [(0, .ref (b + 44)), (1, .ref (b + a1))] [] := by
  intro w hM
  unfold fm_Machine_perform_j141 at hM
  refine g_aload_n X 0 rfl d_Machine_perform_141 ?_
  refine g_get X ck_3 fo_44 (fa_xn fo_44 (by decide) hN) 7 (by decide) wd_242 rfl (fa_fvI rfl) d_Machine_perform_142 ?_
  refine g_iconst X d_Machine_perform_145 ?_
  refine g_icmp_ne X 177 d_Machine_perform_146 (by decide) (fun hc12 => ?_) (fun hc12 => ?_)
  · have hM := fa_if_f hM hc12
    cases hM
    exact g_vret X d_Machine_perform_177
  · have hM := fa_if_t hM hc12
    refine g_aload_n X 0 rfl d_Machine_perform_149 ?_
    refine g_aload_n X 1 rfl d_Machine_perform_150 ?_
    refine g_getN X ck_7 ha1 (fa_xn ha1 (by decide) hN) 1 (by decide) wd_389 rfl (fa_fvR rfl (fa_xt ha1 (by decide) hT 1)) d_Machine_perform_151 ?_
    refine g_aload_n X 1 rfl d_Machine_perform_154 ?_
    refine g_getN X ck_7 ha1 (fa_xn ha1 (by decide) hN) 1 (by decide) wd_389 rfl (fa_fvR rfl (fa_xt ha1 (by decide) hT 1)) d_Machine_perform_155 ?_
    refine g_getN X ck_8 (fa_r7_1 _ ha1) (fa_xn (fa_r7_1 _ ha1) (by decide) hN) 4 (by decide) wd_298 rfl (fa_fvR rfl (fa_xt (fa_r7_1 _ ha1) (by decide) hT 4)) d_Machine_perform_158 ?_
    refine g_aload_n X 1 rfl d_Machine_perform_161 ?_
    refine g_getN X ck_7 ha1 (fa_xn ha1 (by decide) hN) 0 (by decide) wd_386 rfl (fa_fvR rfl (fa_xt ha1 (by decide) hT 0)) d_Machine_perform_162 ?_
    refine g_getN X ck_4 (fa_r7_0 _ ha1) (fa_xn (fa_r7_0 _ ha1) (by decide) hN) 16 (by decide) wd_109 rfl (fa_fvI rfl) d_Machine_perform_165 ?_
    refine g_callV_i X ck_6 (fa_r8_4 _ (fa_r7_1 _ ha1)) (fa_xn (fa_r8_4 _ (fa_r7_1 _ ha1)) (by decide) hN) rfl mi_Row_at (ct_Row_at (fa_rf (fa_rf a1 1) 4) (w (fa_rf a1 0) 16) (fa_ro (fa_r8_4 _ (fa_r7_1 _ ha1)) hN hT) w _ rfl) wd_1358 rfl (Nat.le_trans (Nat.le_of_ble_eq_true rfl) hle) (st := [.ref (b + (fa_rf a1 1)), .ref (b + 44)]) (Nat.le_of_ble_eq_true rfl) rfl d_Machine_perform_168 ?_
    obtain ⟨v15, e14, hM⟩ := fa_ob hM
    refine g_callV_i X ck_8 (fa_r7_1 _ ha1) (fa_xn (fa_r7_1 _ ha1) (by decide) hN) rfl mi_Typing_isInt (c_Typing_isInt hN hT (fa_rf a1 1) (fr_at (fa_rf (fa_rf a1 1) 4) (w (fa_rf a1 0) 16) w) (fa_r7_1 _ ha1) w _ e14) wd_1406 rfl (Nat.le_trans (Nat.le_of_ble_eq_true rfl) hle) (st := [.ref (b + 44)]) (Nat.le_of_ble_eq_true rfl) rfl d_Machine_perform_171 ?_
    obtain ⟨w17, e16⟩ : ∃ q, fm_Machine_finish v15 w = q := ⟨_, rfl⟩
    have hM := fa_let_to hM e16.symm
    refine g_callV_v X ck_3 fo_44 (fa_xn fo_44 (by decide) hN) rfl mi_Machine_finish (c_Machine_finish hN hT v15 w _ e16) wd_1407 rfl (Nat.le_trans (Nat.le_of_ble_eq_true rfl) hle) (st := []) (Nat.le_of_ble_eq_true rfl) rfl d_Machine_perform_174 ?_
    cases hM
    exact g_vret X d_Machine_perform_177
def fm_Machine_perform_l61 (a1 : Nat) (a2 : Int) : Nat → Int → fa_W → Option fa_W
  | 0, _, _ => none
  | n + 1, x3, w => if 1000000 ≤ fa_wr x3 then
  fm_Machine_perform_j141 a1 a2 w
  else
  (if fa_wr (w 44 7) = (-1) then
  (if fa_wr (fm_Row_size 47 w) ≤ 0 then
  fm_Machine_perform_j141 a1 a2 w
  else
  (fa_l2 (fr_drop 47 w) fun v22 w23 =>
  if fa_wr v22 = (-1) then
  (fa_l2 (fr_drop 51 w23) fun v29 w30 =>
  fa_l2 (fr_drop 53 w30) fun v32 w33 =>
  fa_let (x3 + 1) fun x3_34 =>
  fm_Machine_perform_l61 a1 a2 n x3_34 w33)
  else
  ((fm_Machine_go (fa_rf a1 0) (fa_idiv v22 4) (fa_irem v22 4) w23).bind fun w26 =>
  fa_let (x3 + 1) fun x3_27 =>
  fm_Machine_perform_l61 a1 a2 n x3_27 w26)))
  else
  fm_Machine_perform_j141 a1 a2 w)
set_option maxHeartbeats 4000000 in
set_option maxRecDepth 100000 in
theorem c_Machine_perform_l61 {p : Program} {l : Launch} {e : Env} {s : State} {m : MethodId} {args : Array Value} {below : List Frame} {meth : Method} {c : Code} {hh : Nat} {D : va_G} {b : Nat} {aC : Nat → ClassId} {H0 : Heap} {N T : Nat} (X : fa_GX p s m args meth c prog_4_method_2_code 5 ((Option.none : Option Jvm.ClassFile.FieldType)) y_Machine_perform.cls D b aC) (hle : 5 ≤ hh) (hN : fa_NX ≤ N) (hT : fa_TX ≤ T) (a1 : Nat) (a2 : Int) (ha1 : (fa_sh a1).1 = 7) {r : fa_W}  : ∀ (n : Nat) (x3 : Int) (w : fa_W), fm_Machine_perform_l61 a1 a2 n x3 w = some r → fa_GJ p l e (fa_rm hh) s m args below meth c 0 0 (MQ below (fa_Qc D b aC H0 N T (none) r) args s 0 0 (fun q => b ≤ q)) D b aC H0 N T 5 w 61 [(0, .ref (b + 44)), (1, .ref (b + a1)), (3, .int (fa_I x3))] [] := by
  intro n
  induction n with
  | zero => intro x3 w hM; exact fa_no hM
  | succ n ih =>
    intro x3 w hM
    rw [fm_Machine_perform_l61] at hM
    refine g_iload_n X 2 rfl d_Machine_perform_61 ?_
    refine g_ldc X (n := 1000000) wd_1340 (by decide) d_Machine_perform_62 ?_
    refine g_icmp_ge X 141 d_Machine_perform_64 (by decide) (fun hc11 => ?_) (fun hc11 => ?_)
    · have hM := fa_if_t hM hc11
      exact g_lv [0, 1] rfl (c_Machine_perform_j141 X hle hN hT a1 a2 ha1    _ hM)
    · have hM := fa_if_f hM hc11
      refine g_aload_n X 0 rfl d_Machine_perform_67 ?_
      refine g_get X ck_3 fo_44 (fa_xn fo_44 (by decide) hN) 7 (by decide) wd_242 rfl (fa_fvI rfl) d_Machine_perform_68 ?_
      refine g_iconst X d_Machine_perform_71 ?_
      refine g_icmp_ne X 141 d_Machine_perform_72 (by decide) (fun hc18 => ?_) (fun hc18 => ?_)
      · have hM := fa_if_f hM hc18
        exact g_lv [0, 1] rfl (c_Machine_perform_j141 X hle hN hT a1 a2 ha1    _ hM)
      · have hM := fa_if_t hM hc18
        refine g_aload_n X 0 rfl d_Machine_perform_75 ?_
        refine g_get X ck_3 fo_44 (fa_xn fo_44 (by decide) hN) 1 (by decide) wd_236 rfl (fr_44_1 rfl hT) d_Machine_perform_76 ?_
        refine g_callV_i X ck_6 fo_47 (fa_xn fo_47 (by decide) hN) rfl mi_Row_size (c_Row_size 47 (fa_ro fo_47 hN hT) w _ rfl) wd_1341 rfl (Nat.le_trans (Nat.le_of_ble_eq_true rfl) hle) (st := []) (Nat.le_of_ble_eq_true rfl) rfl d_Machine_perform_79 ?_
        refine g_if_le X 141 d_Machine_perform_82 (by decide) (fun hc20 => ?_) (fun hc20 => ?_)
        · have hM := fa_if_t hM hc20
          exact g_lv [0, 1] rfl (c_Machine_perform_j141 X hle hN hT a1 a2 ha1    _ hM)
        · have hM := fa_if_f hM hc20
          refine g_aload_n X 0 rfl d_Machine_perform_85 ?_
          refine g_get X ck_3 fo_44 (fa_xn fo_44 (by decide) hN) 1 (by decide) wd_236 rfl (fr_44_1 rfl hT) d_Machine_perform_86 ?_
          obtain ⟨⟨v22, w23⟩, e21⟩ : ∃ q, fr_drop 47 w = q := ⟨_, rfl⟩
          have hM := fa_l2_e hM e21
          refine g_callV_i X ck_6 fo_47 (fa_xn fo_47 (by decide) hN) rfl mi_Row_drop (ct_Row_drop 47 (fa_ro fo_47 hN hT) w _ e21) wd_1342 rfl (Nat.le_trans (Nat.le_of_ble_eq_true rfl) hle) (st := []) (Nat.le_of_ble_eq_true rfl) rfl d_Machine_perform_89 ?_
          refine g_istorec X [(4, .int (fa_I v22)), (0, .ref (b + 44)), (1, .ref (b + a1)), (3, .int (fa_I x3))] d_Machine_perform_92 (by decide) rfl ?_
          refine g_iload X 0 rfl d_Machine_perform_94 ?_
          refine g_iconst X d_Machine_perform_96 ?_
          refine g_icmp_ne X 119 d_Machine_perform_97 (by decide) (fun hc24 => ?_) (fun hc24 => ?_)
          · have hM := fa_if_f hM hc24
            refine g_aload_n X 1 rfl d_Machine_perform_119 ?_
            refine g_aload_n X 2 rfl d_Machine_perform_120 ?_
            refine g_getN X ck_7 ha1 (fa_xn ha1 (by decide) hN) 0 (by decide) wd_386 rfl (fa_fvR rfl (fa_xt ha1 (by decide) hT 0)) d_Machine_perform_121 ?_
            refine g_iload X 0 rfl d_Machine_perform_124 ?_
            refine g_iconst X d_Machine_perform_126 ?_
            refine g_idiv X (by decide) d_Machine_perform_127 ?_
            refine g_iload X 0 rfl d_Machine_perform_128 ?_
            refine g_iconst X d_Machine_perform_130 ?_
            refine g_irem X (by decide) d_Machine_perform_131 ?_
            obtain ⟨w26, e25, hM⟩ := fa_ob hM
            refine g_callV_v X ck_3 fo_44 (fa_xn fo_44 (by decide) hN) rfl mi_Machine_go (c_Machine_go hN hT (fa_rf a1 0) (fa_idiv v22 4) (fa_irem v22 4) (fa_r7_0 _ ha1) w23 _ e25) wd_1343 rfl (Nat.le_trans (Nat.le_of_ble_eq_true rfl) hle) (st := []) (Nat.le_of_ble_eq_true rfl) rfl d_Machine_perform_132 ?_
            refine g_iinc X 3 (fun x3_27 => [(3, .int (fa_I x3_27)), (4, .int (fa_I v22)), (0, .ref (b + 44)), (1, .ref (b + a1))]) d_Machine_perform_135 rfl (by decide) (fun _ => rfl) (fun x3_27 ex3_27 => ?_)
            have hM := fa_let_to hM ex3_27
            refine g_goto X 61 d_Machine_perform_138 (by decide) ?_
            exact g_lv [2, 3, 0] rfl (ih _ _ hM)
          · have hM := fa_if_t hM hc24
            refine g_aload_n X 1 rfl d_Machine_perform_100 ?_
            refine g_get X ck_3 fo_44 (fa_xn fo_44 (by decide) hN) 3 (by decide) wd_238 rfl (fr_44_3 rfl hT) d_Machine_perform_101 ?_
            obtain ⟨⟨v29, w30⟩, e28⟩ : ∃ q, fr_drop 51 w23 = q := ⟨_, rfl⟩
            have hM := fa_l2_e hM e28
            refine g_callV_i X ck_6 fo_51 (fa_xn fo_51 (by decide) hN) rfl mi_Row_drop (ct_Row_drop 51 (fa_ro fo_51 hN hT) w23 _ e28) wd_1342 rfl (Nat.le_trans (Nat.le_of_ble_eq_true rfl) hle) (st := []) (Nat.le_of_ble_eq_true rfl) rfl d_Machine_perform_104 ?_
            refine g_pop X rfl d_Machine_perform_107 ?_
            refine g_aload_n X 1 rfl d_Machine_perform_108 ?_
            refine g_get X ck_3 fo_44 (fa_xn fo_44 (by decide) hN) 4 (by decide) wd_239 rfl (fr_44_4 rfl hT) d_Machine_perform_109 ?_
            obtain ⟨⟨v32, w33⟩, e31⟩ : ∃ q, fr_drop 53 w30 = q := ⟨_, rfl⟩
            have hM := fa_l2_e hM e31
            refine g_callV_i X ck_6 fo_53 (fa_xn fo_53 (by decide) hN) rfl mi_Row_drop (ct_Row_drop 53 (fa_ro fo_53 hN hT) w30 _ e31) wd_1342 rfl (Nat.le_trans (Nat.le_of_ble_eq_true rfl) hle) (st := []) (Nat.le_of_ble_eq_true rfl) rfl d_Machine_perform_112 ?_
            refine g_pop X rfl d_Machine_perform_115 ?_
            refine g_goto X 135 d_Machine_perform_116 (by decide) ?_
            refine g_iinc X 3 (fun x3_34 => [(3, .int (fa_I x3_34)), (4, .int (fa_I v22)), (0, .ref (b + 44)), (1, .ref (b + a1))]) d_Machine_perform_135 rfl (by decide) (fun _ => rfl) (fun x3_34 ex3_34 => ?_)
            have hM := fa_let_to hM ex3_34
            refine g_goto X 61 d_Machine_perform_138 (by decide) ?_
            exact g_lv [2, 3, 0] rfl (ih _ _ hM)
def fm_Machine_perform_j44 (a1 : Nat) (a2 : Int) (s0 : Int) (w : fa_W) : Option fa_W :=
  fa_let (fa_st w 44 6 s0) fun w8 =>
  fa_let (fm_Machine_begin (w8 (fa_rf a1 0) 16) 0 w8) fun w10 =>
  fm_Machine_perform_l61 a1 a2 fa_FU 0 w10
set_option maxHeartbeats 4000000 in
set_option maxRecDepth 100000 in
theorem c_Machine_perform_j44 {p : Program} {l : Launch} {e : Env} {s : State} {m : MethodId} {args : Array Value} {below : List Frame} {meth : Method} {c : Code} {hh : Nat} {D : va_G} {b : Nat} {aC : Nat → ClassId} {H0 : Heap} {N T : Nat} (X : fa_GX p s m args meth c prog_4_method_2_code 5 ((Option.none : Option Jvm.ClassFile.FieldType)) y_Machine_perform.cls D b aC) (hle : 5 ≤ hh) (hN : fa_NX ≤ N) (hT : fa_TX ≤ T) (a1 : Nat) (a2 : Int) (ha1 : (fa_sh a1).1 = 7) {r : fa_W}  : ∀ (s0 : Int) (w : fa_W) (_ : fm_Machine_perform_j44 a1 a2 s0 w = some r), fa_GJ p l e (fa_rm hh) s m args below meth c 0 0 (MQ below (fa_Qc D b aC H0 N T (none) r) args s 0 0 (fun q => b ≤ q)) D b aC H0 N T 5 w 44 [(0, .ref (b + 44)), (1, .ref (b + a1))] [.int (fa_I s0), .ref (b + 44)] := by
  intro s0 w hM
  unfold fm_Machine_perform_j44 at hM
  refine g_put X ck_3 fo_44 (fa_xn fo_44 (by decide) hN) 6 (z := s0) (by decide) wd_241 rfl (fa_fvI' rfl) rfl rfl rfl d_Machine_perform_44 (fun w8 ew8 => ?_)
  have hM := fa_let_to hM ew8
  refine g_aload_n X 0 rfl d_Machine_perform_47 ?_
  refine g_aload_n X 1 rfl d_Machine_perform_48 ?_
  refine g_getN X ck_7 ha1 (fa_xn ha1 (by decide) hN) 0 (by decide) wd_386 rfl (fa_fvR rfl (fa_xt ha1 (by decide) hT 0)) d_Machine_perform_49 ?_
  refine g_getN X ck_4 (fa_r7_0 _ ha1) (fa_xn (fa_r7_0 _ ha1) (by decide) hN) 16 (by decide) wd_109 rfl (fa_fvI rfl) d_Machine_perform_52 ?_
  refine g_iconst X d_Machine_perform_55 ?_
  obtain ⟨w10, e9⟩ : ∃ q, fm_Machine_begin (w8 (fa_rf a1 0) 16) 0 w8 = q := ⟨_, rfl⟩
  have hM := fa_let_to hM e9.symm
  refine g_callV_v X ck_3 fo_44 (fa_xn fo_44 (by decide) hN) rfl mi_Machine_begin (c_Machine_begin hN hT (w8 (fa_rf a1 0) 16) 0 w8 _ e9) wd_1335 rfl (Nat.le_trans (Nat.le_of_ble_eq_true rfl) hle) (st := []) (Nat.le_of_ble_eq_true rfl) rfl d_Machine_perform_56 ?_
  refine g_iconst X d_Machine_perform_59 ?_
  refine g_istorec_n X [(3, .int (fa_I 0)), (0, .ref (b + 44)), (1, .ref (b + a1))] d_Machine_perform_60 (by decide) rfl ?_
  exact g_lv [1, 2, 0] rfl (c_Machine_perform_l61 X hle hN hT a1 a2 ha1   fa_FU _ _ hM)
def fm_Machine_perform (a1 : Nat) (a2 : Int) (w : fa_W) : Option fa_W :=
  if fa_wr (w 44 5) = fa_wr a2 then
  some w
  else
  (fa_let (fa_st w 44 5 a2) fun w2 =>
  fa_let (fm_Machine_clear w2) fun w4 =>
  if fa_wr a2 = 0 then
  fm_Machine_perform_j44 a1 a2 (-1) w4
  else
  ((fm_Groups_allCases (fa_rf a1 3) (a2 - 1) (w4 (fa_rf a1 2) 6) w4).bind fun v7 =>
  fm_Machine_perform_j44 a1 a2 v7 w4))
set_option maxHeartbeats 4000000 in
set_option maxRecDepth 100000 in
theorem c_Machine_perform {l : Launch} {D : va_G} {b : Nat} {aC : Nat → ClassId} {H0 : Heap} {N T : Nat} (hN : fa_NX ≤ N) (hT : fa_TX ≤ T) (a1 : Nat) (a2 : Int) (ha1 : (fa_sh a1).1 = 7)  (w : fa_W) (r : fa_W) (hM : fm_Machine_perform a1 a2 w = some r) : fa_MC l D b aC H0 N T y_Machine_perform prog_4_method_2_code 5 ((Option.none : Option Jvm.ClassFile.FieldType)) (5) [.ref (b + 44), .ref (b + a1), .int (fa_I a2)] w (none) r := by
  refine fa_enter (lv := [(0, .ref (b + 44)), (1, .ref (b + a1)), (2, .int (fa_I a2))]) (by decide +kernel) (Nat.le_of_ble_eq_true rfl) rfl (fun hh hle hnm X => ?_)
  unfold fm_Machine_perform at hM
  refine g_aload_n X 0 rfl d_Machine_perform_0 ?_
  refine g_get X ck_3 fo_44 (fa_xn fo_44 (by decide) hN) 5 (by decide) wd_240 rfl (fa_fvI rfl) d_Machine_perform_1 ?_
  refine g_iload_n X 2 rfl d_Machine_perform_4 ?_
  refine g_icmp_ne X 9 d_Machine_perform_5 (by decide) (fun hc1 => ?_) (fun hc1 => ?_)
  · have hM := fa_if_f hM hc1
    refine g_aload_n X 0 rfl d_Machine_perform_9 ?_
    refine g_iload_n X 2 rfl d_Machine_perform_10 ?_
    refine g_put X ck_3 fo_44 (fa_xn fo_44 (by decide) hN) 5 (z := a2) (by decide) wd_240 rfl (fa_fvI' rfl) rfl rfl rfl d_Machine_perform_11 (fun w2 ew2 => ?_)
    have hM := fa_let_to hM ew2
    refine g_aload_n X 0 rfl d_Machine_perform_14 ?_
    obtain ⟨w4, e3⟩ : ∃ q, fm_Machine_clear w2 = q := ⟨_, rfl⟩
    have hM := fa_let_to hM e3.symm
    refine g_callV_v X ck_3 fo_44 (fa_xn fo_44 (by decide) hN) rfl mi_Machine_clear (c_Machine_clear hN hT w2 _ e3) wd_1326 rfl (Nat.le_trans (Nat.le_of_ble_eq_true rfl) hle) (st := []) (Nat.le_of_ble_eq_true rfl) rfl d_Machine_perform_15 ?_
    refine g_aload_n X 0 rfl d_Machine_perform_18 ?_
    refine g_iload_n X 2 rfl d_Machine_perform_19 ?_
    refine g_if_ne X 27 d_Machine_perform_20 (by decide) (fun hc5 => ?_) (fun hc5 => ?_)
    · have hM := fa_if_f hM hc5
      refine g_aload_n X 1 rfl d_Machine_perform_27 ?_
      refine g_getN X ck_7 ha1 (fa_xn ha1 (by decide) hN) 3 (by decide) wd_396 rfl (fa_fvR rfl (fa_xt ha1 (by decide) hT 3)) d_Machine_perform_28 ?_
      refine g_iload_n X 2 rfl d_Machine_perform_31 ?_
      refine g_iconst X d_Machine_perform_32 ?_
      refine g_isub X d_Machine_perform_33 ?_
      refine g_aload_n X 1 rfl d_Machine_perform_34 ?_
      refine g_getN X ck_7 ha1 (fa_xn ha1 (by decide) hN) 2 (by decide) wd_392 rfl (fa_fvR rfl (fa_xt ha1 (by decide) hT 2)) d_Machine_perform_35 ?_
      refine g_getN X ck_1 (fa_r7_2 _ ha1) (fa_xn (fa_r7_2 _ ha1) (by decide) hN) 6 (by decide) wd_345 rfl (fa_fvI rfl) d_Machine_perform_38 ?_
      obtain ⟨v7, e6, hM⟩ := fa_ob hM
      refine g_callV_i X ck_2 (fa_r7_3 _ ha1) (fa_xn (fa_r7_3 _ ha1) (by decide) hN) rfl mi_Groups_allCases (c_Groups_allCases hN hT (fa_rf a1 3) (a2 - 1) (w4 (fa_rf a1 2) 6) (fa_r7_3 _ ha1) w4 _ e6) wd_1331 rfl (Nat.le_trans (Nat.le_of_ble_eq_true rfl) hle) (st := [.ref (b + 44)]) (Nat.le_of_ble_eq_true rfl) rfl d_Machine_perform_41 ?_
      exact g_lv [0, 1] rfl (c_Machine_perform_j44 X hle hN hT a1 a2 ha1    _ _ hM)
    · have hM := fa_if_t hM hc5
      refine g_iconst X d_Machine_perform_23 ?_
      refine g_goto X 44 d_Machine_perform_24 (by decide) ?_
      exact g_lv [0, 1] rfl (c_Machine_perform_j44 X hle hN hT a1 a2 ha1    _ _ hM)
  · have hM := fa_if_t hM hc1
    cases hM
    exact g_vret X d_Machine_perform_8
theorem d_Machine_forget_0 : decode prog_4_method_3_code 0 = .ok (.aload_n 0, 1) := by decide +kernel
theorem d_Machine_forget_1 : decode prog_4_method_3_code 1 = .ok (.iconst (-1), 1) := by decide +kernel
theorem d_Machine_forget_2 : decode prog_4_method_3_code 2 = .ok (.putfield 32, 3) := by decide +kernel
theorem d_Machine_forget_5 : decode prog_4_method_3_code 5 = .ok (.return_, 1) := by decide +kernel
def fm_Machine_forget (w : fa_W) : fa_W :=
  fa_let (fa_st w 44 5 (-1)) fun w1 =>
  w1
set_option maxHeartbeats 4000000 in
set_option maxRecDepth 100000 in
theorem c_Machine_forget {l : Launch} {D : va_G} {b : Nat} {aC : Nat → ClassId} {H0 : Heap} {N T : Nat} (hN : fa_NX ≤ N) (hT : fa_TX ≤ T)   (w : fa_W) (r : fa_W) (hM : fm_Machine_forget w = r) : fa_MC l D b aC H0 N T y_Machine_forget prog_4_method_3_code 1 ((Option.none : Option Jvm.ClassFile.FieldType)) (0) [.ref (b + 44)] w (none) r := by
  refine fa_enter (lv := [(0, .ref (b + 44))]) (by decide +kernel) (Nat.le_of_ble_eq_true rfl) rfl (fun hh hle hnm X => ?_)
  unfold fm_Machine_forget at hM
  refine g_aload_n X 0 rfl d_Machine_forget_0 ?_
  refine g_iconst X d_Machine_forget_1 ?_
  refine g_put X ck_3 fo_44 (fa_xn fo_44 (by decide) hN) 5 (z := (-1)) (by decide) wd_240 rfl (fa_fvI' rfl) rfl rfl rfl d_Machine_forget_2 (fun w1 ew1 => ?_)
  have hM := fa_let_to hM ew1
  subst hM
  exact g_vret X d_Machine_forget_5
theorem d_Machine_blamed_0 : decode prog_4_method_6_code 0 = .ok (.iload_n 1, 1) := by decide +kernel
theorem d_Machine_blamed_1 : decode prog_4_method_6_code 1 = .ok (.ifCond .lt 35, 3) := by decide +kernel
theorem d_Machine_blamed_4 : decode prog_4_method_6_code 4 = .ok (.iload_n 1, 1) := by decide +kernel
theorem d_Machine_blamed_5 : decode prog_4_method_6_code 5 = .ok (.aload_n 0, 1) := by decide +kernel
theorem d_Machine_blamed_6 : decode prog_4_method_6_code 6 = .ok (.getfield 26, 3) := by decide +kernel
theorem d_Machine_blamed_9 : decode prog_4_method_6_code 9 = .ok (.invokevirtual 95, 3) := by decide +kernel
theorem d_Machine_blamed_12 : decode prog_4_method_6_code 12 = .ok (.if_icmp .ge 24, 3) := by decide +kernel
theorem d_Machine_blamed_15 : decode prog_4_method_6_code 15 = .ok (.aload_n 0, 1) := by decide +kernel
theorem d_Machine_blamed_16 : decode prog_4_method_6_code 16 = .ok (.getfield 26, 3) := by decide +kernel
theorem d_Machine_blamed_19 : decode prog_4_method_6_code 19 = .ok (.aload_n 0, 1) := by decide +kernel
theorem d_Machine_blamed_20 : decode prog_4_method_6_code 20 = .ok (.getfield 26, 3) := by decide +kernel
theorem d_Machine_blamed_23 : decode prog_4_method_6_code 23 = .ok (.invokevirtual 95, 3) := by decide +kernel
theorem d_Machine_blamed_26 : decode prog_4_method_6_code 26 = .ok (.iconst 1, 1) := by decide +kernel
theorem d_Machine_blamed_27 : decode prog_4_method_6_code 27 = .ok (.isub, 1) := by decide +kernel
theorem d_Machine_blamed_28 : decode prog_4_method_6_code 28 = .ok (.iload_n 1, 1) := by decide +kernel
theorem d_Machine_blamed_29 : decode prog_4_method_6_code 29 = .ok (.isub, 1) := by decide +kernel
theorem d_Machine_blamed_30 : decode prog_4_method_6_code 30 = .ok (.invokevirtual 115, 3) := by decide +kernel
theorem d_Machine_blamed_33 : decode prog_4_method_6_code 33 = .ok (.goto 4, 3) := by decide +kernel
theorem d_Machine_blamed_36 : decode prog_4_method_6_code 36 = .ok (.iconst (-1), 1) := by decide +kernel
theorem d_Machine_blamed_37 : decode prog_4_method_6_code 37 = .ok (.ireturn, 1) := by decide +kernel
def fm_Machine_blamed (a1 : Int) (w : fa_W) : Int :=
  if fa_wr a1 < 0 then
  (-1)
  else
  (if fa_wr (fm_Row_size 51 w) ≤ fa_wr a1 then
  (-1)
  else
  fr_at 51 (((fm_Row_size 51 w) - 1) - a1) w)
set_option maxHeartbeats 4000000 in
set_option maxRecDepth 100000 in
theorem c_Machine_blamed {l : Launch} {D : va_G} {b : Nat} {aC : Nat → ClassId} {H0 : Heap} {N T : Nat} (hN : fa_NX ≤ N) (hT : fa_TX ≤ T) (a1 : Int)  (w : fa_W) (r : Int) (hM : fm_Machine_blamed a1 w = r) : fa_MC l D b aC H0 N T y_Machine_blamed prog_4_method_6_code 2 ((Option.some Jvm.ClassFile.FieldType.int)) (1) [.ref (b + 44), .int (fa_I a1)] w (some (.int (fa_I r))) w := by
  refine fa_enter (lv := [(0, .ref (b + 44)), (1, .int (fa_I a1))]) (by decide +kernel) (Nat.le_of_ble_eq_true rfl) rfl (fun hh hle hnm X => ?_)
  unfold fm_Machine_blamed at hM
  refine g_iload_n X 1 rfl d_Machine_blamed_0 ?_
  refine g_if_lt X 36 d_Machine_blamed_1 (by decide) (fun hc1 => ?_) (fun hc1 => ?_)
  · have hM := fa_if_t hM hc1
    refine g_iconst X d_Machine_blamed_36 ?_
    subst hM
    exact g_iret X d_Machine_blamed_37
  · have hM := fa_if_f hM hc1
    refine g_iload_n X 1 rfl d_Machine_blamed_4 ?_
    refine g_aload_n X 0 rfl d_Machine_blamed_5 ?_
    refine g_get X ck_3 fo_44 (fa_xn fo_44 (by decide) hN) 3 (by decide) wd_238 rfl (fr_44_3 rfl hT) d_Machine_blamed_6 ?_
    refine g_callV_i X ck_6 fo_51 (fa_xn fo_51 (by decide) hN) rfl mi_Row_size (c_Row_size 51 (fa_ro fo_51 hN hT) w _ rfl) wd_1341 rfl (Nat.le_trans (Nat.le_of_ble_eq_true rfl) hle) (st := [.int (fa_I a1)]) (Nat.le_of_ble_eq_true rfl) rfl d_Machine_blamed_9 ?_
    refine g_icmp_ge X 36 d_Machine_blamed_12 (by decide) (fun hc3 => ?_) (fun hc3 => ?_)
    · have hM := fa_if_t hM hc3
      refine g_iconst X d_Machine_blamed_36 ?_
      subst hM
      exact g_iret X d_Machine_blamed_37
    · have hM := fa_if_f hM hc3
      refine g_aload_n X 0 rfl d_Machine_blamed_15 ?_
      refine g_get X ck_3 fo_44 (fa_xn fo_44 (by decide) hN) 3 (by decide) wd_238 rfl (fr_44_3 rfl hT) d_Machine_blamed_16 ?_
      refine g_aload_n X 0 rfl d_Machine_blamed_19 ?_
      refine g_get X ck_3 fo_44 (fa_xn fo_44 (by decide) hN) 3 (by decide) wd_238 rfl (fr_44_3 rfl hT) d_Machine_blamed_20 ?_
      refine g_callV_i X ck_6 fo_51 (fa_xn fo_51 (by decide) hN) rfl mi_Row_size (c_Row_size 51 (fa_ro fo_51 hN hT) w _ rfl) wd_1341 rfl (Nat.le_trans (Nat.le_of_ble_eq_true rfl) hle) (st := [.ref (b + 51)]) (Nat.le_of_ble_eq_true rfl) rfl d_Machine_blamed_23 ?_
      refine g_iconst X d_Machine_blamed_26 ?_
      refine g_isub X d_Machine_blamed_27 ?_
      refine g_iload_n X 1 rfl d_Machine_blamed_28 ?_
      refine g_isub X d_Machine_blamed_29 ?_
      refine g_callV_i X ck_6 fo_51 (fa_xn fo_51 (by decide) hN) rfl mi_Row_at (ct_Row_at 51 (((fm_Row_size 51 w) - 1) - a1) (fa_ro fo_51 hN hT) w _ rfl) wd_1358 rfl (Nat.le_trans (Nat.le_of_ble_eq_true rfl) hle) (st := []) (Nat.le_of_ble_eq_true rfl) rfl d_Machine_blamed_30 ?_
      refine g_goto X 37 d_Machine_blamed_33 (by decide) ?_
      subst hM
      exact g_iret X d_Machine_blamed_37
