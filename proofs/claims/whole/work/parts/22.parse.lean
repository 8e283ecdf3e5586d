theorem d_Reader_expression_0 : decode prog_6_method_17_code 0 = .ok (.aload_n 0, 1) := by decide +kernel
theorem d_Reader_expression_1 : decode prog_6_method_17_code 1 = .ok (.getfield 31, 3) := by decide +kernel
theorem d_Reader_expression_4 : decode prog_6_method_17_code 4 = .ok (.lookupswitch 51 #[(92, 36), (26982, 41), (7103860, 46)], 36) := by decide +kernel
theorem d_Reader_expression_40 : decode prog_6_method_17_code 40 = .ok (.aload_n 0, 1) := by decide +kernel
theorem d_Reader_expression_41 : decode prog_6_method_17_code 41 = .ok (.invokevirtual 131, 3) := by decide +kernel
theorem d_Reader_expression_44 : decode prog_6_method_17_code 44 = .ok (.ireturn, 1) := by decide +kernel
theorem d_Reader_expression_45 : decode prog_6_method_17_code 45 = .ok (.aload_n 0, 1) := by decide +kernel
theorem d_Reader_expression_46 : decode prog_6_method_17_code 46 = .ok (.invokevirtual 134, 3) := by decide +kernel
theorem d_Reader_expression_49 : decode prog_6_method_17_code 49 = .ok (.ireturn, 1) := by decide +kernel
theorem d_Reader_expression_50 : decode prog_6_method_17_code 50 = .ok (.aload_n 0, 1) := by decide +kernel
theorem d_Reader_expression_51 : decode prog_6_method_17_code 51 = .ok (.invokevirtual 137, 3) := by decide +kernel
theorem d_Reader_expression_54 : decode prog_6_method_17_code 54 = .ok (.ireturn, 1) := by decide +kernel
theorem d_Reader_expression_55 : decode prog_6_method_17_code 55 = .ok (.aload_n 0, 1) := by decide +kernel
theorem d_Reader_expression_56 : decode prog_6_method_17_code 56 = .ok (.invokevirtual 140, 3) := by decide +kernel
theorem d_Reader_expression_59 : decode prog_6_method_17_code 59 = .ok (.ireturn, 1) := by decide +kernel
def fm_Reader_expression_b (rc_lambda : fa_W → Option (Int × fa_W)) (rc_choice : fa_W → Option (Int × fa_W)) (rc_let : fa_W → Option (Int × fa_W)) (rc_test : fa_W → Option (Int × fa_W)) (w : fa_W) : Option (Int × fa_W) :=
  if fa_wr (w 7 4) = 92 then
  (fa_bd (rc_lambda w) fun v3 w4 =>
  some (v3, w4))
  else
  if fa_wr (w 7 4) = 26982 then
  (fa_bd (rc_choice w) fun v7 w8 =>
  some (v7, w8))
  else
  if fa_wr (w 7 4) = 7103860 then
  (fa_bd (rc_let w) fun v11 w12 =>
  some (v11, w12))
  else
  (fa_bd (rc_test w) fun v14 w15 =>
  some (v14, w15))
set_option maxHeartbeats 4000000 in
set_option maxRecDepth 100000 in
theorem c_Reader_expression_b {l : Launch} {D : va_G} {b : Nat} {aC : Nat → ClassId} {H0 : Heap} {N T : Nat} (hN : fa_NX ≤ N) (hT : fa_TX ≤ T) (dd : Nat) (rc_lambda : fa_W → Option (Int × fa_W)) (Rrc_lambda : ∀ (w : fa_W) (r : Int × fa_W), rc_lambda w = some r → fa_MC l D b aC H0 N T y_Reader_lambda prog_6_method_18_code 4 ((Option.some Jvm.ClassFile.FieldType.int)) (4 + dd) [.ref (b + 7)] w (some (.int (fa_I r.1))) r.2) (rc_choice : fa_W → Option (Int × fa_W)) (Rrc_choice : ∀ (w : fa_W) (r : Int × fa_W), rc_choice w = some r → fa_MC l D b aC H0 N T y_Reader_choice prog_6_method_19_code 4 ((Option.some Jvm.ClassFile.FieldType.int)) (4 + dd) [.ref (b + 7)] w (some (.int (fa_I r.1))) r.2) (rc_let : fa_W → Option (Int × fa_W)) (Rrc_let : ∀ (w : fa_W) (r : Int × fa_W), rc_let w = some r → fa_MC l D b aC H0 N T y_Reader_let prog_6_method_20_code 4 ((Option.some Jvm.ClassFile.FieldType.int)) (4 + dd) [.ref (b + 7)] w (some (.int (fa_I r.1))) r.2) (rc_test : fa_W → Option (Int × fa_W)) (Rrc_test : ∀ (w : fa_W) (r : Int × fa_W), rc_test w = some r → fa_MC l D b aC H0 N T y_Reader_test prog_6_method_21_code 3 ((Option.some Jvm.ClassFile.FieldType.int)) (4 + dd) [.ref (b + 7)] w (some (.int (fa_I r.1))) r.2)  (w : fa_W) (r : Int × fa_W) (hM : fm_Reader_expression_b rc_lambda rc_choice rc_let rc_test w = some r) : fa_MC l D b aC H0 N T y_Reader_expression prog_6_method_17_code 1 ((Option.some Jvm.ClassFile.FieldType.int)) (4 + dd + 1) [.ref (b + 7)] w (some (.int (fa_I r.1))) r.2 := by
  refine fa_enter (lv := [(0, .ref (b + 7))]) (by decide +kernel) (Nat.le_of_ble_eq_true rfl) rfl (fun hh hle hnm X => ?_)
  unfold fm_Reader_expression_b at hM
  refine g_aload_n X 0 rfl d_Reader_expression_0 ?_
  refine g_get X ck_5 fo_7 (fa_xn fo_7 (by decide) hN) 4 (by decide) wd_155 rfl (fa_fvI rfl) d_Reader_expression_1 ?_
  by_cases hc1 : fa_wr (w 7 4) = 92
  · have hM := fa_if_t hM hc1
    refine g_lookup X (off := 36) 40 d_Reader_expression_4 (by decide) (by rw [hc1]; rfl) (by decide) ?_
    refine g_aload_n X 0 rfl d_Reader_expression_40 ?_
    obtain ⟨v3, w4, e2, hM⟩ := fa_obd hM
    refine g_callV_i X ck_5 fo_7 (fa_xn fo_7 (by decide) hN) rfl mi_Reader_lambda (Rrc_lambda w _ e2) wd_1017 rfl (by omega) (st := []) (Nat.le_of_ble_eq_true rfl) rfl d_Reader_expression_41 ?_
    cases hM
    exact g_iret X d_Reader_expression_44
  have hM := fa_if_f hM hc1
  by_cases hc5 : fa_wr (w 7 4) = 26982
  · have hM := fa_if_t hM hc5
    refine g_lookup X (off := 41) 45 d_Reader_expression_4 (by decide) (by rw [hc5]; rfl) (by decide) ?_
    refine g_aload_n X 0 rfl d_Reader_expression_45 ?_
    obtain ⟨v7, w8, e6, hM⟩ := fa_obd hM
    refine g_callV_i X ck_5 fo_7 (fa_xn fo_7 (by decide) hN) rfl mi_Reader_choice (Rrc_choice w _ e6) wd_1031 rfl (by omega) (st := []) (Nat.le_of_ble_eq_true rfl) rfl d_Reader_expression_46 ?_
    cases hM
    exact g_iret X d_Reader_expression_49
  have hM := fa_if_f hM hc5
  by_cases hc9 : fa_wr (w 7 4) = 7103860
  · have hM := fa_if_t hM hc9
    refine g_lookup X (off := 46) 50 d_Reader_expression_4 (by decide) (by rw [hc9]; rfl) (by decide) ?_
    refine g_aload_n X 0 rfl d_Reader_expression_50 ?_
    obtain ⟨v11, w12, e10, hM⟩ := fa_obd hM
    refine g_callV_i X ck_5 fo_7 (fa_xn fo_7 (by decide) hN) rfl mi_Reader_let (Rrc_let w _ e10) wd_1037 rfl (by omega) (st := []) (Nat.le_of_ble_eq_true rfl) rfl d_Reader_expression_51 ?_
    cases hM
    exact g_iret X d_Reader_expression_54
  have hM := fa_if_f hM hc9
  refine g_lookup X (off := 51) 55 d_Reader_expression_4 (by decide) (by simp only [Op.lookupswitch.offset_cons, Op.lookupswitch.offset_nil]; rw [if_neg (fun q => hc1 q.symm), if_neg (fun q => hc5 q.symm), if_neg (fun q => hc9 q.symm)]) (by decide) ?_
  refine g_aload_n X 0 rfl d_Reader_expression_55 ?_
  obtain ⟨v14, w15, e13, hM⟩ := fa_obd hM
  refine g_callV_i X ck_5 fo_7 (fa_xn fo_7 (by decide) hN) rfl mi_Reader_test (Rrc_test w _ e13) wd_1041 rfl (by omega) (st := []) (Nat.le_of_ble_eq_true rfl) rfl d_Reader_expression_56 ?_
  cases hM
  exact g_iret X d_Reader_expression_59
theorem d_Reader_lambda_0 : decode prog_6_method_18_code 0 = .ok (.bipush 6, 2) := by decide +kernel
theorem d_Reader_lambda_2 : decode prog_6_method_18_code 2 = .ok (.aload_n 0, 1) := by decide +kernel
theorem d_Reader_lambda_3 : decode prog_6_method_18_code 3 = .ok (.getfield 49, 3) := by decide +kernel
theorem d_Reader_lambda_6 : decode prog_6_method_18_code 6 = .ok (.iadd, 1) := by decide +kernel
theorem d_Reader_lambda_7 : decode prog_6_method_18_code 7 = .ok (.istore_n 1, 1) := by decide +kernel
theorem d_Reader_lambda_8 : decode prog_6_method_18_code 8 = .ok (.aload_n 0, 1) := by decide +kernel
theorem d_Reader_lambda_9 : decode prog_6_method_18_code 9 = .ok (.getfield 55, 3) := by decide +kernel
theorem d_Reader_lambda_12 : decode prog_6_method_18_code 12 = .ok (.istore_n 2, 1) := by decide +kernel
theorem d_Reader_lambda_13 : decode prog_6_method_18_code 13 = .ok (.aload_n 0, 1) := by decide +kernel
theorem d_Reader_lambda_14 : decode prog_6_method_18_code 14 = .ok (.invokevirtual 143, 3) := by decide +kernel
theorem d_Reader_lambda_17 : decode prog_6_method_18_code 17 = .ok (.aload_n 0, 1) := by decide +kernel
theorem d_Reader_lambda_18 : decode prog_6_method_18_code 18 = .ok (.getfield 49, 3) := by decide +kernel
theorem d_Reader_lambda_21 : decode prog_6_method_18_code 21 = .ok (.bipush 18, 2) := by decide +kernel
theorem d_Reader_lambda_23 : decode prog_6_method_18_code 23 = .ok (.if_icmp .lt 9, 3) := by decide +kernel
theorem d_Reader_lambda_26 : decode prog_6_method_18_code 26 = .ok (.aload_n 0, 1) := by decide +kernel
theorem d_Reader_lambda_27 : decode prog_6_method_18_code 27 = .ok (.invokevirtual 78, 3) := by decide +kernel
theorem d_Reader_lambda_30 : decode prog_6_method_18_code 30 = .ok (.iconst (-1), 1) := by decide +kernel
theorem d_Reader_lambda_31 : decode prog_6_method_18_code 31 = .ok (.ireturn, 1) := by decide +kernel
theorem d_Reader_lambda_32 : decode prog_6_method_18_code 32 = .ok (.aload_n 0, 1) := by decide +kernel
theorem d_Reader_lambda_33 : decode prog_6_method_18_code 33 = .ok (.invokevirtual 146, 3) := by decide +kernel
theorem d_Reader_lambda_36 : decode prog_6_method_18_code 36 = .ok (.ifCond .ne 5, 3) := by decide +kernel
theorem d_Reader_lambda_39 : decode prog_6_method_18_code 39 = .ok (.iconst (-1), 1) := by decide +kernel
theorem d_Reader_lambda_40 : decode prog_6_method_18_code 40 = .ok (.ireturn, 1) := by decide +kernel
theorem d_Reader_lambda_41 : decode prog_6_method_18_code 41 = .ok (.aload_n 0, 1) := by decide +kernel
theorem d_Reader_lambda_42 : decode prog_6_method_18_code 42 = .ok (.dup, 1) := by decide +kernel
theorem d_Reader_lambda_43 : decode prog_6_method_18_code 43 = .ok (.getfield 49, 3) := by decide +kernel
theorem d_Reader_lambda_46 : decode prog_6_method_18_code 46 = .ok (.iconst 1, 1) := by decide +kernel
theorem d_Reader_lambda_47 : decode prog_6_method_18_code 47 = .ok (.iadd, 1) := by decide +kernel
theorem d_Reader_lambda_48 : decode prog_6_method_18_code 48 = .ok (.putfield 49, 3) := by decide +kernel
theorem d_Reader_lambda_51 : decode prog_6_method_18_code 51 = .ok (.aload_n 0, 1) := by decide +kernel
theorem d_Reader_lambda_52 : decode prog_6_method_18_code 52 = .ok (.invokevirtual 64, 3) := by decide +kernel
theorem d_Reader_lambda_55 : decode prog_6_method_18_code 55 = .ok (.aload_n 0, 1) := by decide +kernel
theorem d_Reader_lambda_56 : decode prog_6_method_18_code 56 = .ok (.iload_n 1, 1) := by decide +kernel
theorem d_Reader_lambda_57 : decode prog_6_method_18_code 57 = .ok (.invokevirtual 115, 3) := by decide +kernel
theorem d_Reader_lambda_60 : decode prog_6_method_18_code 60 = .ok (.aload_n 0, 1) := by decide +kernel
theorem d_Reader_lambda_61 : decode prog_6_method_18_code 61 = .ok (.bipush 46, 2) := by decide +kernel
theorem d_Reader_lambda_63 : decode prog_6_method_18_code 63 = .ok (.invokevirtual 118, 3) := by decide +kernel
theorem d_Reader_lambda_66 : decode prog_6_method_18_code 66 = .ok (.aload_n 0, 1) := by decide +kernel
theorem d_Reader_lambda_67 : decode prog_6_method_18_code 67 = .ok (.getfield 23, 3) := by decide +kernel
theorem d_Reader_lambda_70 : decode prog_6_method_18_code 70 = .ok (.iload_n 1, 1) := by decide +kernel
theorem d_Reader_lambda_71 : decode prog_6_method_18_code 71 = .ok (.invokevirtual 112, 3) := by decide +kernel
theorem d_Reader_lambda_74 : decode prog_6_method_18_code 74 = .ok (.aload_n 0, 1) := by decide +kernel
theorem d_Reader_lambda_75 : decode prog_6_method_18_code 75 = .ok (.iload_n 1, 1) := by decide +kernel
theorem d_Reader_lambda_76 : decode prog_6_method_18_code 76 = .ok (.putfield 55, 3) := by decide +kernel
theorem d_Reader_lambda_79 : decode prog_6_method_18_code 79 = .ok (.aload_n 0, 1) := by decide +kernel
theorem d_Reader_lambda_80 : decode prog_6_method_18_code 80 = .ok (.invokevirtual 71, 3) := by decide +kernel
theorem d_Reader_lambda_83 : decode prog_6_method_18_code 83 = .ok (.istore_n 3, 1) := by decide +kernel
theorem d_Reader_lambda_84 : decode prog_6_method_18_code 84 = .ok (.aload_n 0, 1) := by decide +kernel
theorem d_Reader_lambda_85 : decode prog_6_method_18_code 85 = .ok (.iload_n 2, 1) := by decide +kernel
theorem d_Reader_lambda_86 : decode prog_6_method_18_code 86 = .ok (.putfield 55, 3) := by decide +kernel
theorem d_Reader_lambda_89 : decode prog_6_method_18_code 89 = .ok (.aload_n 0, 1) := by decide +kernel
theorem d_Reader_lambda_90 : decode prog_6_method_18_code 90 = .ok (.getfield 23, 3) := by decide +kernel
theorem d_Reader_lambda_93 : decode prog_6_method_18_code 93 = .ok (.invokevirtual 150, 3) := by decide +kernel
theorem d_Reader_lambda_96 : decode prog_6_method_18_code 96 = .ok (.pop, 1) := by decide +kernel
theorem d_Reader_lambda_97 : decode prog_6_method_18_code 97 = .ok (.aload_n 0, 1) := by decide +kernel
theorem d_Reader_lambda_98 : decode prog_6_method_18_code 98 = .ok (.dup, 1) := by decide +kernel
theorem d_Reader_lambda_99 : decode prog_6_method_18_code 99 = .ok (.getfield 43, 3) := by decide +kernel
theorem d_Reader_lambda_102 : decode prog_6_method_18_code 102 = .ok (.iconst 1, 1) := by decide +kernel
theorem d_Reader_lambda_103 : decode prog_6_method_18_code 103 = .ok (.isub, 1) := by decide +kernel
theorem d_Reader_lambda_104 : decode prog_6_method_18_code 104 = .ok (.putfield 43, 3) := by decide +kernel
theorem d_Reader_lambda_107 : decode prog_6_method_18_code 107 = .ok (.aload_n 0, 1) := by decide +kernel
theorem d_Reader_lambda_108 : decode prog_6_method_18_code 108 = .ok (.getfield 12, 3) := by decide +kernel
theorem d_Reader_lambda_111 : decode prog_6_method_18_code 111 = .ok (.iconst 5, 1) := by decide +kernel
theorem d_Reader_lambda_112 : decode prog_6_method_18_code 112 = .ok (.iload_n 1, 1) := by decide +kernel
theorem d_Reader_lambda_113 : decode prog_6_method_18_code 113 = .ok (.aload_n 0, 1) := by decide +kernel
theorem d_Reader_lambda_114 : decode prog_6_method_18_code 114 = .ok (.getfield 55, 3) := by decide +kernel
theorem d_Reader_lambda_117 : decode prog_6_method_18_code 117 = .ok (.iload_n 3, 1) := by decide +kernel
theorem d_Reader_lambda_118 : decode prog_6_method_18_code 118 = .ok (.iconst (-1), 1) := by decide +kernel
theorem d_Reader_lambda_119 : decode prog_6_method_18_code 119 = .ok (.iconst (-1), 1) := by decide +kernel
theorem d_Reader_lambda_120 : decode prog_6_method_18_code 120 = .ok (.invokevirtual 153, 3) := by decide +kernel
theorem d_Reader_lambda_123 : decode prog_6_method_18_code 123 = .ok (.ireturn, 1) := by decide +kernel
def fm_Reader_lambda_b (rc_expression : fa_W → Option (Int × fa_W)) (w : fa_W) : Option (Int × fa_W) :=
  fa_let (6 + (w 7 10)) fun x1_1 =>
  fa_let (w 7 12) fun x2_2 =>
  fa_let (fm_Reader_countThing w) fun w4 =>
  if fa_wr (w4 7 10) < 18 then
  (fa_l2 (fm_Reader_nest w4) fun v7 w8 =>
  if v7 = true then
  (fa_let (fa_st w8 7 10 ((w8 7 10) + 1)) fun w10 =>
  (fm_Reader_advance w10).bind fun w12 =>
  (fm_Reader_nameVariable x1_1 w12).bind fun w14 =>
  (fm_Reader_expect 46 w14).bind fun w16 =>
  fa_let (fr_add 35 x1_1 w16) fun w18 =>
  fa_let (fa_st w18 7 12 x1_1) fun w19 =>
  fa_bd (rc_expression w19) fun v21 w22 =>
  fa_let (fa_st w22 7 12 x2_2) fun w23 =>
  fa_l2 (fr_drop 35 w23) fun v25 w26 =>
  fa_let (fa_st w26 7 8 ((w26 7 8) - 1)) fun w27 =>
  fa_l2 (fm_Program_add 8 5 x1_1 (w27 7 12) v21 (-1) (-1) w27) fun v29 w30 =>
  some (v29, w30))
  else
  some ((-1), w8))
  else
  (fa_let (fm_Reader_fail w4) fun w32 =>
  some ((-1), w32))
set_option maxHeartbeats 4000000 in
set_option maxRecDepth 100000 in
theorem c_Reader_lambda_b {l : Launch} {D : va_G} {b : Nat} {aC : Nat → ClassId} {H0 : Heap} {N T : Nat} (hN : fa_NX ≤ N) (hT : fa_TX ≤ T) (dd : Nat) (rc_expression : fa_W → Option (Int × fa_W)) (Rrc_expression : ∀ (w : fa_W) (r : Int × fa_W), rc_expression w = some r → fa_MC l D b aC H0 N T y_Reader_expression prog_6_method_17_code 1 ((Option.some Jvm.ClassFile.FieldType.int)) (4 + dd) [.ref (b + 7)] w (some (.int (fa_I r.1))) r.2)  (w : fa_W) (r : Int × fa_W) (hM : fm_Reader_lambda_b rc_expression w = some r) : fa_MC l D b aC H0 N T y_Reader_lambda prog_6_method_18_code 4 ((Option.some Jvm.ClassFile.FieldType.int)) (4 + dd + 1) [.ref (b + 7)] w (some (.int (fa_I r.1))) r.2 := by
  refine fa_enter (lv := [(0, .ref (b + 7))]) (by decide +kernel) (Nat.le_of_ble_eq_true rfl) rfl (fun hh hle hnm X => ?_)
  unfold fm_Reader_lambda_b at hM
  refine g_bipush X (by decide) d_Reader_lambda_0 ?_
  refine g_aload_n X 0 rfl d_Reader_lambda_2 ?_
  refine g_get X ck_5 fo_7 (fa_xn fo_7 (by decide) hN) 10 (by decide) wd_161 rfl (fa_fvI rfl) d_Reader_lambda_3 ?_
  refine g_iadd X d_Reader_lambda_6 ?_
  refine g_istore_n X (fun x1_1 => [(1, .int (fa_I x1_1)), (0, .ref (b + 7))]) d_Reader_lambda_7 (by decide) (fun _ => rfl) (fun x1_1 ex1_1 => ?_)
  have hM := fa_let_to hM ex1_1
  refine g_aload_n X 1 rfl d_Reader_lambda_8 ?_
  refine g_get X ck_5 fo_7 (fa_xn fo_7 (by decide) hN) 12 (by decide) wd_163 rfl (fa_fvI rfl) d_Reader_lambda_9 ?_
  refine g_istore_n X (fun x2_2 => [(2, .int (fa_I x2_2)), (1, .int (fa_I x1_1)), (0, .ref (b + 7))]) d_Reader_lambda_12 (by decide) (fun _ => rfl) (fun x2_2 ex2_2 => ?_)
  have hM := fa_let_to hM ex2_2
  refine g_aload_n X 2 rfl d_Reader_lambda_13 ?_
  obtain ⟨w4, e3⟩ : ∃ q, fm_Reader_countThing w = q := ⟨_, rfl⟩
  have hM := fa_let_to hM e3.symm
  refine g_callV_v X ck_5 fo_7 (fa_xn fo_7 (by decide) hN) rfl mi_Reader_countThing (c_Reader_countThing hN hT w _ e3) wd_1021 rfl (by omega) (st := []) (Nat.le_of_ble_eq_true rfl) rfl d_Reader_lambda_14 ?_
  refine g_aload_n X 2 rfl d_Reader_lambda_17 ?_
  refine g_get X ck_5 fo_7 (fa_xn fo_7 (by decide) hN) 10 (by decide) wd_161 rfl (fa_fvI rfl) d_Reader_lambda_18 ?_
  refine g_bipush X (by decide) d_Reader_lambda_21 ?_
  refine g_icmp_lt X 32 d_Reader_lambda_23 (by decide) (fun hc5 => ?_) (fun hc5 => ?_)
  · have hM := fa_if_t hM hc5
    refine g_aload_n X 2 rfl d_Reader_lambda_32 ?_
    obtain ⟨⟨v7, w8⟩, e6⟩ : ∃ q, fm_Reader_nest w4 = q := ⟨_, rfl⟩
    have hM := fa_l2_e hM e6
    refine g_callV_i X ck_5 fo_7 (fa_xn fo_7 (by decide) hN) rfl mi_Reader_nest (c_Reader_nest hN hT w4 _ e6) wd_1025 rfl (by omega) (st := []) (Nat.le_of_ble_eq_true rfl) rfl d_Reader_lambda_33 ?_
    refine g_ifb_ne X 41 d_Reader_lambda_36 (by decide) (fun hc9 => ?_) (fun hc9 => ?_)
    · have hM := fa_ifb_t hM hc9
      refine g_aload_n X 2 rfl d_Reader_lambda_41 ?_
      refine g_dup X rfl d_Reader_lambda_42 ?_
      refine g_get X ck_5 fo_7 (fa_xn fo_7 (by decide) hN) 10 (by decide) wd_161 rfl (fa_fvI rfl) d_Reader_lambda_43 ?_
      refine g_iconst X d_Reader_lambda_46 ?_
      refine g_iadd X d_Reader_lambda_47 ?_
      refine g_put X ck_5 fo_7 (fa_xn fo_7 (by decide) hN) 10 (z := ((w8 7 10) + 1)) (by decide) wd_161 rfl (fa_fvI' rfl) rfl rfl rfl d_Reader_lambda_48 (fun w10 ew10 => ?_)
      have hM := fa_let_to hM ew10
      refine g_aload_n X 2 rfl d_Reader_lambda_51 ?_
      obtain ⟨w12, e11, hM⟩ := fa_ob hM
      refine g_callV_v X ck_5 fo_7 (fa_xn fo_7 (by decide) hN) rfl mi_Reader_advance (c_Reader_advance hN hT w10 _ e11) wd_973 rfl (by omega) (st := []) (Nat.le_of_ble_eq_true rfl) rfl d_Reader_lambda_52 ?_
      refine g_aload_n X 2 rfl d_Reader_lambda_55 ?_
      refine g_iload_n X 1 rfl d_Reader_lambda_56 ?_
      obtain ⟨w14, e13, hM⟩ := fa_ob hM
      refine g_callV_v X ck_5 fo_7 (fa_xn fo_7 (by decide) hN) rfl mi_Reader_nameVariable (c_Reader_nameVariable hN hT x1_1 w12 _ e13) wd_1004 rfl (by omega) (st := []) (Nat.le_of_ble_eq_true rfl) rfl d_Reader_lambda_57 ?_
      refine g_aload_n X 2 rfl d_Reader_lambda_60 ?_
      refine g_bipush X (by decide) d_Reader_lambda_61 ?_
      obtain ⟨w16, e15, hM⟩ := fa_ob hM
      refine g_callV_v X ck_5 fo_7 (fa_xn fo_7 (by decide) hN) rfl mi_Reader_expect (c_Reader_expect hN hT 46 w14 _ e15) wd_1009 rfl (by omega) (st := []) (Nat.le_of_ble_eq_true rfl) rfl d_Reader_lambda_63 ?_
      refine g_aload_n X 2 rfl d_Reader_lambda_66 ?_
      refine g_get X ck_5 fo_7 (fa_xn fo_7 (by decide) hN) 2 (by decide) wd_153 rfl (fr_7_2 rfl hT) d_Reader_lambda_67 ?_
      refine g_iload_n X 1 rfl d_Reader_lambda_70 ?_
      obtain ⟨w18, e17⟩ : ∃ q, fr_add 35 x1_1 w16 = q := ⟨_, rfl⟩
      have hM := fa_let_to hM e17.symm
      refine g_callV_v X ck_6 fo_35 (fa_xn fo_35 (by decide) hN) rfl mi_Row_add (ct_Row_add 35 x1_1 (fa_ro fo_35 hN hT) w16 _ e17) wd_1003 rfl (by omega) (st := []) (Nat.le_of_ble_eq_true rfl) rfl d_Reader_lambda_71 ?_
      refine g_aload_n X 2 rfl d_Reader_lambda_74 ?_
      refine g_iload_n X 1 rfl d_Reader_lambda_75 ?_
      refine g_put X ck_5 fo_7 (fa_xn fo_7 (by decide) hN) 12 (z := x1_1) (by decide) wd_163 rfl (fa_fvI' rfl) rfl rfl rfl d_Reader_lambda_76 (fun w19 ew19 => ?_)
      have hM := fa_let_to hM ew19
      refine g_aload_n X 2 rfl d_Reader_lambda_79 ?_
      obtain ⟨v21, w22, e20, hM⟩ := fa_obd hM
      refine g_callV_i X ck_5 fo_7 (fa_xn fo_7 (by decide) hN) rfl mi_Reader_expression (Rrc_expression w19 _ e20) wd_1013 rfl (by omega) (st := []) (Nat.le_of_ble_eq_true rfl) rfl d_Reader_lambda_80 ?_
      refine g_istorec_n X [(3, .int (fa_I v21)), (2, .int (fa_I x2_2)), (1, .int (fa_I x1_1)), (0, .ref (b + 7))] d_Reader_lambda_83 (by decide) rfl ?_
      refine g_aload_n X 3 rfl d_Reader_lambda_84 ?_
      refine g_iload_n X 1 rfl d_Reader_lambda_85 ?_
      refine g_put X ck_5 fo_7 (fa_xn fo_7 (by decide) hN) 12 (z := x2_2) (by decide) wd_163 rfl (fa_fvI' rfl) rfl rfl rfl d_Reader_lambda_86 (fun w23 ew23 => ?_)
      have hM := fa_let_to hM ew23
      refine g_aload_n X 3 rfl d_Reader_lambda_89 ?_
      refine g_get X ck_5 fo_7 (fa_xn fo_7 (by decide) hN) 2 (by decide) wd_153 rfl (fr_7_2 rfl hT) d_Reader_lambda_90 ?_
      obtain ⟨⟨v25, w26⟩, e24⟩ : ∃ q, fr_drop 35 w23 = q := ⟨_, rfl⟩
      have hM := fa_l2_e hM e24
      refine g_callV_i X ck_6 fo_35 (fa_xn fo_35 (by decide) hN) rfl mi_Row_drop (ct_Row_drop 35 (fa_ro fo_35 hN hT) w23 _ e24) wd_1029 rfl (by omega) (st := []) (Nat.le_of_ble_eq_true rfl) rfl d_Reader_lambda_93 ?_
      refine g_pop X rfl d_Reader_lambda_96 ?_
      refine g_aload_n X 3 rfl d_Reader_lambda_97 ?_
      refine g_dup X rfl d_Reader_lambda_98 ?_
      refine g_get X ck_5 fo_7 (fa_xn fo_7 (by decide) hN) 8 (by decide) wd_159 rfl (fa_fvI rfl) d_Reader_lambda_99 ?_
      refine g_iconst X d_Reader_lambda_102 ?_
      refine g_isub X d_Reader_lambda_103 ?_
      refine g_put X ck_5 fo_7 (fa_xn fo_7 (by decide) hN) 8 (z := ((w26 7 8) - 1)) (by decide) wd_159 rfl (fa_fvI' rfl) rfl rfl rfl d_Reader_lambda_104 (fun w27 ew27 => ?_)
      have hM := fa_let_to hM ew27
      refine g_aload_n X 3 rfl d_Reader_lambda_107 ?_
      refine g_get X ck_5 fo_7 (fa_xn fo_7 (by decide) hN) 0 (by decide) wd_150 rfl (fr_7_0 rfl hT) d_Reader_lambda_108 ?_
      refine g_iconst X d_Reader_lambda_111 ?_
      refine g_iload_n X 2 rfl d_Reader_lambda_112 ?_
      refine g_aload_n X 3 rfl d_Reader_lambda_113 ?_
      refine g_get X ck_5 fo_7 (fa_xn fo_7 (by decide) hN) 12 (by decide) wd_163 rfl (fa_fvI rfl) d_Reader_lambda_114 ?_
      refine g_iload_n X 0 rfl d_Reader_lambda_117 ?_
      refine g_iconst X d_Reader_lambda_118 ?_
      refine g_iconst X d_Reader_lambda_119 ?_
      obtain ⟨⟨v29, w30⟩, e28⟩ : ∃ q, fm_Program_add 8 5 x1_1 (w27 7 12) v21 (-1) (-1) w27 = q := ⟨_, rfl⟩
      have hM := fa_l2_e hM e28
      refine g_callV_i X ck_4 fo_8 (fa_xn fo_8 (by decide) hN) rfl mi_Program_add (c_Program_add hN hT 8 5 x1_1 (w27 7 12) v21 (-1) (-1) fo_8 w27 _ e28) wd_1030 rfl (by omega) (st := []) (Nat.le_of_ble_eq_true rfl) rfl d_Reader_lambda_120 ?_
      cases hM
      exact g_iret X d_Reader_lambda_123
    · have hM := fa_ifb_f hM hc9
      refine g_iconst X d_Reader_lambda_39 ?_
      cases hM
      exact g_iret X d_Reader_lambda_40
  · have hM := fa_if_f hM hc5
    refine g_aload_n X 2 rfl d_Reader_lambda_26 ?_
    obtain ⟨w32, e31⟩ : ∃ q, fm_Reader_fail w4 = q := ⟨_, rfl⟩
    have hM := fa_let_to hM e31.symm
    refine g_callV_v X ck_5 fo_7 (fa_xn fo_7 (by decide) hN) rfl mi_Reader_fail (c_Reader_fail hN hT w4 _ e31) wd_998 rfl (by omega) (st := []) (Nat.le_of_ble_eq_true rfl) rfl d_Reader_lambda_27 ?_
    refine g_iconst X d_Reader_lambda_30 ?_
    cases hM
    exact g_iret X d_Reader_lambda_31
theorem d_Reader_choice_0 : decode prog_6_method_19_code 0 = .ok (.aload_n 0, 1) := by decide +kernel
theorem d_Reader_choice_1 : decode prog_6_method_19_code 1 = .ok (.invokevirtual 143, 3) := by decide +kernel
theorem d_Reader_choice_4 : decode prog_6_method_19_code 4 = .ok (.aload_n 0, 1) := by decide +kernel
theorem d_Reader_choice_5 : decode prog_6_method_19_code 5 = .ok (.invokevirtual 146, 3) := by decide +kernel
theorem d_Reader_choice_8 : decode prog_6_method_19_code 8 = .ok (.ifCond .ne 5, 3) := by decide +kernel
theorem d_Reader_choice_11 : decode prog_6_method_19_code 11 = .ok (.iconst (-1), 1) := by decide +kernel
theorem d_Reader_choice_12 : decode prog_6_method_19_code 12 = .ok (.ireturn, 1) := by decide +kernel
theorem d_Reader_choice_13 : decode prog_6_method_19_code 13 = .ok (.aload_n 0, 1) := by decide +kernel
theorem d_Reader_choice_14 : decode prog_6_method_19_code 14 = .ok (.invokevirtual 64, 3) := by decide +kernel
theorem d_Reader_choice_17 : decode prog_6_method_19_code 17 = .ok (.aload_n 0, 1) := by decide +kernel
theorem d_Reader_choice_18 : decode prog_6_method_19_code 18 = .ok (.invokevirtual 71, 3) := by decide +kernel
theorem d_Reader_choice_21 : decode prog_6_method_19_code 21 = .ok (.istore_n 1, 1) := by decide +kernel
theorem d_Reader_choice_22 : decode prog_6_method_19_code 22 = .ok (.aload_n 0, 1) := by decide +kernel
theorem d_Reader_choice_23 : decode prog_6_method_19_code 23 = .ok (.ldc 156, 2) := by decide +kernel
theorem d_Reader_choice_25 : decode prog_6_method_19_code 25 = .ok (.invokevirtual 118, 3) := by decide +kernel
theorem d_Reader_choice_28 : decode prog_6_method_19_code 28 = .ok (.aload_n 0, 1) := by decide +kernel
theorem d_Reader_choice_29 : decode prog_6_method_19_code 29 = .ok (.invokevirtual 71, 3) := by decide +kernel
theorem d_Reader_choice_32 : decode prog_6_method_19_code 32 = .ok (.istore_n 2, 1) := by decide +kernel
theorem d_Reader_choice_33 : decode prog_6_method_19_code 33 = .ok (.aload_n 0, 1) := by decide +kernel
theorem d_Reader_choice_34 : decode prog_6_method_19_code 34 = .ok (.ldc 157, 2) := by decide +kernel
theorem d_Reader_choice_36 : decode prog_6_method_19_code 36 = .ok (.invokevirtual 118, 3) := by decide +kernel
theorem d_Reader_choice_39 : decode prog_6_method_19_code 39 = .ok (.aload_n 0, 1) := by decide +kernel
theorem d_Reader_choice_40 : decode prog_6_method_19_code 40 = .ok (.invokevirtual 71, 3) := by decide +kernel
theorem d_Reader_choice_43 : decode prog_6_method_19_code 43 = .ok (.istore_n 3, 1) := by decide +kernel
theorem d_Reader_choice_44 : decode prog_6_method_19_code 44 = .ok (.aload_n 0, 1) := by decide +kernel
theorem d_Reader_choice_45 : decode prog_6_method_19_code 45 = .ok (.dup, 1) := by decide +kernel
theorem d_Reader_choice_46 : decode prog_6_method_19_code 46 = .ok (.getfield 43, 3) := by decide +kernel
theorem d_Reader_choice_49 : decode prog_6_method_19_code 49 = .ok (.iconst 1, 1) := by decide +kernel
theorem d_Reader_choice_50 : decode prog_6_method_19_code 50 = .ok (.isub, 1) := by decide +kernel
theorem d_Reader_choice_51 : decode prog_6_method_19_code 51 = .ok (.putfield 43, 3) := by decide +kernel
theorem d_Reader_choice_54 : decode prog_6_method_19_code 54 = .ok (.aload_n 0, 1) := by decide +kernel
theorem d_Reader_choice_55 : decode prog_6_method_19_code 55 = .ok (.getfield 12, 3) := by decide +kernel
theorem d_Reader_choice_58 : decode prog_6_method_19_code 58 = .ok (.bipush 6, 2) := by decide +kernel
theorem d_Reader_choice_60 : decode prog_6_method_19_code 60 = .ok (.iconst 0, 1) := by decide +kernel
theorem d_Reader_choice_61 : decode prog_6_method_19_code 61 = .ok (.aload_n 0, 1) := by decide +kernel
theorem d_Reader_choice_62 : decode prog_6_method_19_code 62 = .ok (.getfield 55, 3) := by decide +kernel
theorem d_Reader_choice_65 : decode prog_6_method_19_code 65 = .ok (.iload_n 1, 1) := by decide +kernel
theorem d_Reader_choice_66 : decode prog_6_method_19_code 66 = .ok (.iload_n 2, 1) := by decide +kernel
theorem d_Reader_choice_67 : decode prog_6_method_19_code 67 = .ok (.iload_n 3, 1) := by decide +kernel
theorem d_Reader_choice_68 : decode prog_6_method_19_code 68 = .ok (.invokevirtual 153, 3) := by decide +kernel
theorem d_Reader_choice_71 : decode prog_6_method_19_code 71 = .ok (.ireturn, 1) := by decide +kernel
def fm_Reader_choice_b (rc_expression : fa_W → Option (Int × fa_W)) (w : fa_W) : Option (Int × fa_W) :=
  fa_let (fm_Reader_countThing w) fun w2 =>
  fa_l2 (fm_Reader_nest w2) fun v4 w5 =>
  if v4 = true then
  ((fm_Reader_advance w5).bind fun w8 =>
  fa_bd (rc_expression w8) fun v10 w11 =>
  (fm_Reader_expect 1952998766 w11).bind fun w13 =>
  fa_bd (rc_expression w13) fun v15 w16 =>
  (fm_Reader_expect 1701606245 w16).bind fun w18 =>
  fa_bd (rc_expression w18) fun v20 w21 =>
  fa_let (fa_st w21 7 8 ((w21 7 8) - 1)) fun w22 =>
  fa_l2 (fm_Program_add 8 6 0 (w22 7 12) v10 v15 v20 w22) fun v24 w25 =>
  some (v24, w25))
  else
  some ((-1), w5)
set_option maxHeartbeats 4000000 in
set_option maxRecDepth 100000 in
theorem c_Reader_choice_b {l : Launch} {D : va_G} {b : Nat} {aC : Nat → ClassId} {H0 : Heap} {N T : Nat} (hN : fa_NX ≤ N) (hT : fa_TX ≤ T) (dd : Nat) (rc_expression : fa_W → Option (Int × fa_W)) (Rrc_expression : ∀ (w : fa_W) (r : Int × fa_W), rc_expression w = some r → fa_MC l D b aC H0 N T y_Reader_expression prog_6_method_17_code 1 ((Option.some Jvm.ClassFile.FieldType.int)) (4 + dd) [.ref (b + 7)] w (some (.int (fa_I r.1))) r.2)  (w : fa_W) (r : Int × fa_W) (hM : fm_Reader_choice_b rc_expression w = some r) : fa_MC l D b aC H0 N T y_Reader_choice prog_6_method_19_code 4 ((Option.some Jvm.ClassFile.FieldType.int)) (4 + dd + 1) [.ref (b + 7)] w (some (.int (fa_I r.1))) r.2 := by
  refine fa_enter (lv := [(0, .ref (b + 7))]) (by decide +kernel) (Nat.le_of_ble_eq_true rfl) rfl (fun hh hle hnm X => ?_)
  unfold fm_Reader_choice_b at hM
  refine g_aload_n X 0 rfl d_Reader_choice_0 ?_
  obtain ⟨w2, e1⟩ : ∃ q, fm_Reader_countThing w = q := ⟨_, rfl⟩
  have hM := fa_let_to hM e1.symm
  refine g_callV_v X ck_5 fo_7 (fa_xn fo_7 (by decide) hN) rfl mi_Reader_countThing (c_Reader_countThing hN hT w _ e1) wd_1021 rfl (by omega) (st := []) (Nat.le_of_ble_eq_true rfl) rfl d_Reader_choice_1 ?_
  refine g_aload_n X 0 rfl d_Reader_choice_4 ?_
  obtain ⟨⟨v4, w5⟩, e3⟩ : ∃ q, fm_Reader_nest w2 = q := ⟨_, rfl⟩
  have hM := fa_l2_e hM e3
  refine g_callV_i X ck_5 fo_7 (fa_xn fo_7 (by decide) hN) rfl mi_Reader_nest (c_Reader_nest hN hT w2 _ e3) wd_1025 rfl (by omega) (st := []) (Nat.le_of_ble_eq_true rfl) rfl d_Reader_choice_5 ?_
  refine g_ifb_ne X 13 d_Reader_choice_8 (by decide) (fun hc6 => ?_) (fun hc6 => ?_)
  · have hM := fa_ifb_t hM hc6
    refine g_aload_n X 0 rfl d_Reader_choice_13 ?_
    obtain ⟨w8, e7, hM⟩ := fa_ob hM
    refine g_callV_v X ck_5 fo_7 (fa_xn fo_7 (by decide) hN) rfl mi_Reader_advance (c_Reader_advance hN hT w5 _ e7) wd_973 rfl (by omega) (st := []) (Nat.le_of_ble_eq_true rfl) rfl d_Reader_choice_14 ?_
    refine g_aload_n X 0 rfl d_Reader_choice_17 ?_
    obtain ⟨v10, w11, e9, hM⟩ := fa_obd hM
    refine g_callV_i X ck_5 fo_7 (fa_xn fo_7 (by decide) hN) rfl mi_Reader_expression (Rrc_expression w8 _ e9) wd_1013 rfl (by omega) (st := []) (Nat.le_of_ble_eq_true rfl) rfl d_Reader_choice_18 ?_
    refine g_istorec_n X [(1, .int (fa_I v10)), (0, .ref (b + 7))] d_Reader_choice_21 (by decide) rfl ?_
    refine g_aload_n X 1 rfl d_Reader_choice_22 ?_
    refine g_ldc X (n := 1952998766) wd_1035 (by decide) d_Reader_choice_23 ?_
    obtain ⟨w13, e12, hM⟩ := fa_ob hM
    refine g_callV_v X ck_5 fo_7 (fa_xn fo_7 (by decide) hN) rfl mi_Reader_expect (c_Reader_expect hN hT 1952998766 w11 _ e12) wd_1009 rfl (by omega) (st := []) (Nat.le_of_ble_eq_true rfl) rfl d_Reader_choice_25 ?_
    refine g_aload_n X 1 rfl d_Reader_choice_28 ?_
    obtain ⟨v15, w16, e14, hM⟩ := fa_obd hM
    refine g_callV_i X ck_5 fo_7 (fa_xn fo_7 (by decide) hN) rfl mi_Reader_expression (Rrc_expression w13 _ e14) wd_1013 rfl (by omega) (st := []) (Nat.le_of_ble_eq_true rfl) rfl d_Reader_choice_29 ?_
    refine g_istorec_n X [(2, .int (fa_I v15)), (1, .int (fa_I v10)), (0, .ref (b + 7))] d_Reader_choice_32 (by decide) rfl ?_
    refine g_aload_n X 2 rfl d_Reader_choice_33 ?_
    refine g_ldc X (n := 1701606245) wd_1036 (by decide) d_Reader_choice_34 ?_
    obtain ⟨w18, e17, hM⟩ := fa_ob hM
    refine g_callV_v X ck_5 fo_7 (fa_xn fo_7 (by decide) hN) rfl mi_Reader_expect (c_Reader_expect hN hT 1701606245 w16 _ e17) wd_1009 rfl (by omega) (st := []) (Nat.le_of_ble_eq_true rfl) rfl d_Reader_choice_36 ?_
    refine g_aload_n X 2 rfl d_Reader_choice_39 ?_
    obtain ⟨v20, w21, e19, hM⟩ := fa_obd hM
    refine g_callV_i X ck_5 fo_7 (fa_xn fo_7 (by decide) hN) rfl mi_Reader_expression (Rrc_expression w18 _ e19) wd_1013 rfl (by omega) (st := []) (Nat.le_of_ble_eq_true rfl) rfl d_Reader_choice_40 ?_
    refine g_istorec_n X [(3, .int (fa_I v20)), (2, .int (fa_I v15)), (1, .int (fa_I v10)), (0, .ref (b + 7))] d_Reader_choice_43 (by decide) rfl ?_
    refine g_aload_n X 3 rfl d_Reader_choice_44 ?_
    refine g_dup X rfl d_Reader_choice_45 ?_
    refine g_get X ck_5 fo_7 (fa_xn fo_7 (by decide) hN) 8 (by decide) wd_159 rfl (fa_fvI rfl) d_Reader_choice_46 ?_
    refine g_iconst X d_Reader_choice_49 ?_
    refine g_isub X d_Reader_choice_50 ?_
    refine g_put X ck_5 fo_7 (fa_xn fo_7 (by decide) hN) 8 (z := ((w21 7 8) - 1)) (by decide) wd_159 rfl (fa_fvI' rfl) rfl rfl rfl d_Reader_choice_51 (fun w22 ew22 => ?_)
    have hM := fa_let_to hM ew22
    refine g_aload_n X 3 rfl d_Reader_choice_54 ?_
    refine g_get X ck_5 fo_7 (fa_xn fo_7 (by decide) hN) 0 (by decide) wd_150 rfl (fr_7_0 rfl hT) d_Reader_choice_55 ?_
    refine g_bipush X (by decide) d_Reader_choice_58 ?_
    refine g_iconst X d_Reader_choice_60 ?_
    refine g_aload_n X 3 rfl d_Reader_choice_61 ?_
    refine g_get X ck_5 fo_7 (fa_xn fo_7 (by decide) hN) 12 (by decide) wd_163 rfl (fa_fvI rfl) d_Reader_choice_62 ?_
    refine g_iload_n X 2 rfl d_Reader_choice_65 ?_
    refine g_iload_n X 1 rfl d_Reader_choice_66 ?_
    refine g_iload_n X 0 rfl d_Reader_choice_67 ?_
    obtain ⟨⟨v24, w25⟩, e23⟩ : ∃ q, fm_Program_add 8 6 0 (w22 7 12) v10 v15 v20 w22 = q := ⟨_, rfl⟩
    have hM := fa_l2_e hM e23
    refine g_callV_i X ck_4 fo_8 (fa_xn fo_8 (by decide) hN) rfl mi_Program_add (c_Program_add hN hT 8 6 0 (w22 7 12) v10 v15 v20 fo_8 w22 _ e23) wd_1030 rfl (by omega) (st := []) (Nat.le_of_ble_eq_true rfl) rfl d_Reader_choice_68 ?_
    cases hM
    exact g_iret X d_Reader_choice_71
  · have hM := fa_ifb_f hM hc6
    refine g_iconst X d_Reader_choice_11 ?_
    cases hM
    exact g_iret X d_Reader_choice_12
theorem d_Reader_let_0 : decode prog_6_method_20_code 0 = .ok (.bipush 24, 2) := by decide +kernel
theorem d_Reader_let_2 : decode prog_6_method_20_code 2 = .ok (.aload_n 0, 1) := by decide +kernel
theorem d_Reader_let_3 : decode prog_6_method_20_code 3 = .ok (.getfield 52, 3) := by decide +kernel
theorem d_Reader_let_6 : decode prog_6_method_20_code 6 = .ok (.iadd, 1) := by decide +kernel
theorem d_Reader_let_7 : decode prog_6_method_20_code 7 = .ok (.istore_n 1, 1) := by decide +kernel
theorem d_Reader_let_8 : decode prog_6_method_20_code 8 = .ok (.aload_n 0, 1) := by decide +kernel
theorem d_Reader_let_9 : decode prog_6_method_20_code 9 = .ok (.invokevirtual 143, 3) := by decide +kernel
theorem d_Reader_let_12 : decode prog_6_method_20_code 12 = .ok (.aload_n 0, 1) := by decide +kernel
theorem d_Reader_let_13 : decode prog_6_method_20_code 13 = .ok (.invokevirtual 146, 3) := by decide +kernel
theorem d_Reader_let_16 : decode prog_6_method_20_code 16 = .ok (.ifCond .ne 5, 3) := by decide +kernel
theorem d_Reader_let_19 : decode prog_6_method_20_code 19 = .ok (.iconst (-1), 1) := by decide +kernel
theorem d_Reader_let_20 : decode prog_6_method_20_code 20 = .ok (.ireturn, 1) := by decide +kernel
theorem d_Reader_let_21 : decode prog_6_method_20_code 21 = .ok (.aload_n 0, 1) := by decide +kernel
theorem d_Reader_let_22 : decode prog_6_method_20_code 22 = .ok (.dup, 1) := by decide +kernel
theorem d_Reader_let_23 : decode prog_6_method_20_code 23 = .ok (.getfield 52, 3) := by decide +kernel
theorem d_Reader_let_26 : decode prog_6_method_20_code 26 = .ok (.iconst 1, 1) := by decide +kernel
theorem d_Reader_let_27 : decode prog_6_method_20_code 27 = .ok (.iadd, 1) := by decide +kernel
theorem d_Reader_let_28 : decode prog_6_method_20_code 28 = .ok (.putfield 52, 3) := by decide +kernel
theorem d_Reader_let_31 : decode prog_6_method_20_code 31 = .ok (.aload_n 0, 1) := by decide +kernel
theorem d_Reader_let_32 : decode prog_6_method_20_code 32 = .ok (.invokevirtual 64, 3) := by decide +kernel
theorem d_Reader_let_35 : decode prog_6_method_20_code 35 = .ok (.aload_n 0, 1) := by decide +kernel
theorem d_Reader_let_36 : decode prog_6_method_20_code 36 = .ok (.iload_n 1, 1) := by decide +kernel
theorem d_Reader_let_37 : decode prog_6_method_20_code 37 = .ok (.invokevirtual 115, 3) := by decide +kernel
theorem d_Reader_let_40 : decode prog_6_method_20_code 40 = .ok (.aload_n 0, 1) := by decide +kernel
theorem d_Reader_let_41 : decode prog_6_method_20_code 41 = .ok (.bipush 61, 2) := by decide +kernel
theorem d_Reader_let_43 : decode prog_6_method_20_code 43 = .ok (.invokevirtual 118, 3) := by decide +kernel
theorem d_Reader_let_46 : decode prog_6_method_20_code 46 = .ok (.aload_n 0, 1) := by decide +kernel
theorem d_Reader_let_47 : decode prog_6_method_20_code 47 = .ok (.invokevirtual 71, 3) := by decide +kernel
theorem d_Reader_let_50 : decode prog_6_method_20_code 50 = .ok (.istore_n 2, 1) := by decide +kernel
theorem d_Reader_let_51 : decode prog_6_method_20_code 51 = .ok (.aload_n 0, 1) := by decide +kernel
theorem d_Reader_let_52 : decode prog_6_method_20_code 52 = .ok (.sipush 26990, 3) := by decide +kernel
theorem d_Reader_let_55 : decode prog_6_method_20_code 55 = .ok (.invokevirtual 118, 3) := by decide +kernel
theorem d_Reader_let_58 : decode prog_6_method_20_code 58 = .ok (.aload_n 0, 1) := by decide +kernel
theorem d_Reader_let_59 : decode prog_6_method_20_code 59 = .ok (.getfield 23, 3) := by decide +kernel
theorem d_Reader_let_62 : decode prog_6_method_20_code 62 = .ok (.iload_n 1, 1) := by decide +kernel
theorem d_Reader_let_63 : decode prog_6_method_20_code 63 = .ok (.invokevirtual 112, 3) := by decide +kernel
theorem d_Reader_let_66 : decode prog_6_method_20_code 66 = .ok (.aload_n 0, 1) := by decide +kernel
theorem d_Reader_let_67 : decode prog_6_method_20_code 67 = .ok (.invokevirtual 71, 3) := by decide +kernel
theorem d_Reader_let_70 : decode prog_6_method_20_code 70 = .ok (.istore_n 3, 1) := by decide +kernel
theorem d_Reader_let_71 : decode prog_6_method_20_code 71 = .ok (.aload_n 0, 1) := by decide +kernel
theorem d_Reader_let_72 : decode prog_6_method_20_code 72 = .ok (.getfield 23, 3) := by decide +kernel
theorem d_Reader_let_75 : decode prog_6_method_20_code 75 = .ok (.invokevirtual 150, 3) := by decide +kernel
theorem d_Reader_let_78 : decode prog_6_method_20_code 78 = .ok (.pop, 1) := by decide +kernel
theorem d_Reader_let_79 : decode prog_6_method_20_code 79 = .ok (.aload_n 0, 1) := by decide +kernel
theorem d_Reader_let_80 : decode prog_6_method_20_code 80 = .ok (.dup, 1) := by decide +kernel
theorem d_Reader_let_81 : decode prog_6_method_20_code 81 = .ok (.getfield 43, 3) := by decide +kernel
theorem d_Reader_let_84 : decode prog_6_method_20_code 84 = .ok (.iconst 1, 1) := by decide +kernel
theorem d_Reader_let_85 : decode prog_6_method_20_code 85 = .ok (.isub, 1) := by decide +kernel
theorem d_Reader_let_86 : decode prog_6_method_20_code 86 = .ok (.putfield 43, 3) := by decide +kernel
theorem d_Reader_let_89 : decode prog_6_method_20_code 89 = .ok (.aload_n 0, 1) := by decide +kernel
theorem d_Reader_let_90 : decode prog_6_method_20_code 90 = .ok (.getfield 12, 3) := by decide +kernel
theorem d_Reader_let_93 : decode prog_6_method_20_code 93 = .ok (.bipush 7, 2) := by decide +kernel
theorem d_Reader_let_95 : decode prog_6_method_20_code 95 = .ok (.iload_n 1, 1) := by decide +kernel
theorem d_Reader_let_96 : decode prog_6_method_20_code 96 = .ok (.aload_n 0, 1) := by decide +kernel
theorem d_Reader_let_97 : decode prog_6_method_20_code 97 = .ok (.getfield 55, 3) := by decide +kernel
theorem d_Reader_let_100 : decode prog_6_method_20_code 100 = .ok (.iload_n 2, 1) := by decide +kernel
theorem d_Reader_let_101 : decode prog_6_method_20_code 101 = .ok (.iload_n 3, 1) := by decide +kernel
theorem d_Reader_let_102 : decode prog_6_method_20_code 102 = .ok (.iconst (-1), 1) := by decide +kernel
theorem d_Reader_let_103 : decode prog_6_method_20_code 103 = .ok (.invokevirtual 153, 3) := by decide +kernel
theorem d_Reader_let_106 : decode prog_6_method_20_code 106 = .ok (.ireturn, 1) := by decide +kernel
def fm_Reader_let_b (rc_expression : fa_W → Option (Int × fa_W)) (w : fa_W) : Option (Int × fa_W) :=
  fa_let (24 + (w 7 11)) fun x1_1 =>
  fa_let (fm_Reader_countThing w) fun w3 =>
  fa_l2 (fm_Reader_nest w3) fun v5 w6 =>
  if v5 = true then
  (fa_let (fa_st w6 7 11 ((w6 7 11) + 1)) fun w8 =>
  (fm_Reader_advance w8).bind fun w10 =>
  (fm_Reader_nameVariable x1_1 w10).bind fun w12 =>
  (fm_Reader_expect 61 w12).bind fun w14 =>
  fa_bd (rc_expression w14) fun v16 w17 =>
  (fm_Reader_expect 26990 w17).bind fun w19 =>
  fa_let (fr_add 35 x1_1 w19) fun w21 =>
  fa_bd (rc_expression w21) fun v23 w24 =>
  fa_l2 (fr_drop 35 w24) fun v26 w27 =>
  fa_let (fa_st w27 7 8 ((w27 7 8) - 1)) fun w28 =>
  fa_l2 (fm_Program_add 8 7 x1_1 (w28 7 12) v16 v23 (-1) w28) fun v30 w31 =>
  some (v30, w31))
  else
  some ((-1), w6)
set_option maxHeartbeats 4000000 in
set_option maxRecDepth 100000 in
theorem c_Reader_let_b {l : Launch} {D : va_G} {b : Nat} {aC : Nat → ClassId} {H0 : Heap} {N T : Nat} (hN : fa_NX ≤ N) (hT : fa_TX ≤ T) (dd : Nat) (rc_expression : fa_W → Option (Int × fa_W)) (Rrc_expression : ∀ (w : fa_W) (r : Int × fa_W), rc_expression w = some r → fa_MC l D b aC H0 N T y_Reader_expression prog_6_method_17_code 1 ((Option.some Jvm.ClassFile.FieldType.int)) (4 + dd) [.ref (b + 7)] w (some (.int (fa_I r.1))) r.2)  (w : fa_W) (r : Int × fa_W) (hM : fm_Reader_let_b rc_expression w = some r) : fa_MC l D b aC H0 N T y_Reader_let prog_6_method_20_code 4 ((Option.some Jvm.ClassFile.FieldType.int)) (4 + dd + 1) [.ref (b + 7)] w (some (.int (fa_I r.1))) r.2 := by
  refine fa_enter (lv := [(0, .ref (b + 7))]) (by decide +kernel) (Nat.le_of_ble_eq_true rfl) rfl (fun hh hle hnm X => ?_)
  unfold fm_Reader_let_b at hM
  refine g_bipush X (by decide) d_Reader_let_0 ?_
  refine g_aload_n X 0 rfl d_Reader_let_2 ?_
  refine g_get X ck_5 fo_7 (fa_xn fo_7 (by decide) hN) 11 (by decide) wd_162 rfl (fa_fvI rfl) d_Reader_let_3 ?_
  refine g_iadd X d_Reader_let_6 ?_
  refine g_istore_n X (fun x1_1 => [(1, .int (fa_I x1_1)), (0, .ref (b + 7))]) d_Reader_let_7 (by decide) (fun _ => rfl) (fun x1_1 ex1_1 => ?_)
  have hM := fa_let_to hM ex1_1
  refine g_aload_n X 1 rfl d_Reader_let_8 ?_
  obtain ⟨w3, e2⟩ : ∃ q, fm_Reader_countThing w = q := ⟨_, rfl⟩
  have hM := fa_let_to hM e2.symm
  refine g_callV_v X ck_5 fo_7 (fa_xn fo_7 (by decide) hN) rfl mi_Reader_countThing (c_Reader_countThing hN hT w _ e2) wd_1021 rfl (by omega) (st := []) (Nat.le_of_ble_eq_true rfl) rfl d_Reader_let_9 ?_
  refine g_aload_n X 1 rfl d_Reader_let_12 ?_
  obtain ⟨⟨v5, w6⟩, e4⟩ : ∃ q, fm_Reader_nest w3 = q := ⟨_, rfl⟩
  have hM := fa_l2_e hM e4
  refine g_callV_i X ck_5 fo_7 (fa_xn fo_7 (by decide) hN) rfl mi_Reader_nest (c_Reader_nest hN hT w3 _ e4) wd_1025 rfl (by omega) (st := []) (Nat.le_of_ble_eq_true rfl) rfl d_Reader_let_13 ?_
  refine g_ifb_ne X 21 d_Reader_let_16 (by decide) (fun hc7 => ?_) (fun hc7 => ?_)
  · have hM := fa_ifb_t hM hc7
    refine g_aload_n X 1 rfl d_Reader_let_21 ?_
    refine g_dup X rfl d_Reader_let_22 ?_
    refine g_get X ck_5 fo_7 (fa_xn fo_7 (by decide) hN) 11 (by decide) wd_162 rfl (fa_fvI rfl) d_Reader_let_23 ?_
    refine g_iconst X d_Reader_let_26 ?_
    refine g_iadd X d_Reader_let_27 ?_
    refine g_put X ck_5 fo_7 (fa_xn fo_7 (by decide) hN) 11 (z := ((w6 7 11) + 1)) (by decide) wd_162 rfl (fa_fvI' rfl) rfl rfl rfl d_Reader_let_28 (fun w8 ew8 => ?_)
    have hM := fa_let_to hM ew8
    refine g_aload_n X 1 rfl d_Reader_let_31 ?_
    obtain ⟨w10, e9, hM⟩ := fa_ob hM
    refine g_callV_v X ck_5 fo_7 (fa_xn fo_7 (by decide) hN) rfl mi_Reader_advance (c_Reader_advance hN hT w8 _ e9) wd_973 rfl (by omega) (st := []) (Nat.le_of_ble_eq_true rfl) rfl d_Reader_let_32 ?_
    refine g_aload_n X 1 rfl d_Reader_let_35 ?_
    refine g_iload_n X 0 rfl d_Reader_let_36 ?_
    obtain ⟨w12, e11, hM⟩ := fa_ob hM
    refine g_callV_v X ck_5 fo_7 (fa_xn fo_7 (by decide) hN) rfl mi_Reader_nameVariable (c_Reader_nameVariable hN hT x1_1 w10 _ e11) wd_1004 rfl (by omega) (st := []) (Nat.le_of_ble_eq_true rfl) rfl d_Reader_let_37 ?_
    refine g_aload_n X 1 rfl d_Reader_let_40 ?_
    refine g_bipush X (by decide) d_Reader_let_41 ?_
    obtain ⟨w14, e13, hM⟩ := fa_ob hM
    refine g_callV_v X ck_5 fo_7 (fa_xn fo_7 (by decide) hN) rfl mi_Reader_expect (c_Reader_expect hN hT 61 w12 _ e13) wd_1009 rfl (by omega) (st := []) (Nat.le_of_ble_eq_true rfl) rfl d_Reader_let_43 ?_
    refine g_aload_n X 1 rfl d_Reader_let_46 ?_
    obtain ⟨v16, w17, e15, hM⟩ := fa_obd hM
    refine g_callV_i X ck_5 fo_7 (fa_xn fo_7 (by decide) hN) rfl mi_Reader_expression (Rrc_expression w14 _ e15) wd_1013 rfl (by omega) (st := []) (Nat.le_of_ble_eq_true rfl) rfl d_Reader_let_47 ?_
    refine g_istorec_n X [(2, .int (fa_I v16)), (1, .int (fa_I x1_1)), (0, .ref (b + 7))] d_Reader_let_50 (by decide) rfl ?_
    refine g_aload_n X 2 rfl d_Reader_let_51 ?_
    refine g_sipush X (by decide) d_Reader_let_52 ?_
    obtain ⟨w19, e18, hM⟩ := fa_ob hM
    refine g_callV_v X ck_5 fo_7 (fa_xn fo_7 (by decide) hN) rfl mi_Reader_expect (c_Reader_expect hN hT 26990 w17 _ e18) wd_1009 rfl (by omega) (st := []) (Nat.le_of_ble_eq_true rfl) rfl d_Reader_let_55 ?_
    refine g_aload_n X 2 rfl d_Reader_let_58 ?_
    refine g_get X ck_5 fo_7 (fa_xn fo_7 (by decide) hN) 2 (by decide) wd_153 rfl (fr_7_2 rfl hT) d_Reader_let_59 ?_
    refine g_iload_n X 1 rfl d_Reader_let_62 ?_
    obtain ⟨w21, e20⟩ : ∃ q, fr_add 35 x1_1 w19 = q := ⟨_, rfl⟩
    have hM := fa_let_to hM e20.symm
    refine g_callV_v X ck_6 fo_35 (fa_xn fo_35 (by decide) hN) rfl mi_Row_add (ct_Row_add 35 x1_1 (fa_ro fo_35 hN hT) w19 _ e20) wd_1003 rfl (by omega) (st := []) (Nat.le_of_ble_eq_true rfl) rfl d_Reader_let_63 ?_
    refine g_aload_n X 2 rfl d_Reader_let_66 ?_
    obtain ⟨v23, w24, e22, hM⟩ := fa_obd hM
    refine g_callV_i X ck_5 fo_7 (fa_xn fo_7 (by decide) hN) rfl mi_Reader_expression (Rrc_expression w21 _ e22) wd_1013 rfl (by omega) (st := []) (Nat.le_of_ble_eq_true rfl) rfl d_Reader_let_67 ?_
    refine g_istorec_n X [(3, .int (fa_I v23)), (2, .int (fa_I v16)), (1, .int (fa_I x1_1)), (0, .ref (b + 7))] d_Reader_let_70 (by decide) rfl ?_
    refine g_aload_n X 3 rfl d_Reader_let_71 ?_
    refine g_get X ck_5 fo_7 (fa_xn fo_7 (by decide) hN) 2 (by decide) wd_153 rfl (fr_7_2 rfl hT) d_Reader_let_72 ?_
    obtain ⟨⟨v26, w27⟩, e25⟩ : ∃ q, fr_drop 35 w24 = q := ⟨_, rfl⟩
    have hM := fa_l2_e hM e25
    refine g_callV_i X ck_6 fo_35 (fa_xn fo_35 (by decide) hN) rfl mi_Row_drop (ct_Row_drop 35 (fa_ro fo_35 hN hT) w24 _ e25) wd_1029 rfl (by omega) (st := []) (Nat.le_of_ble_eq_true rfl) rfl d_Reader_let_75 ?_
    refine g_pop X rfl d_Reader_let_78 ?_
    refine g_aload_n X 3 rfl d_Reader_let_79 ?_
    refine g_dup X rfl d_Reader_let_80 ?_
    refine g_get X ck_5 fo_7 (fa_xn fo_7 (by decide) hN) 8 (by decide) wd_159 rfl (fa_fvI rfl) d_Reader_let_81 ?_
    refine g_iconst X d_Reader_let_84 ?_
    refine g_isub X d_Reader_let_85 ?_
    refine g_put X ck_5 fo_7 (fa_xn fo_7 (by decide) hN) 8 (z := ((w27 7 8) - 1)) (by decide) wd_159 rfl (fa_fvI' rfl) rfl rfl rfl d_Reader_let_86 (fun w28 ew28 => ?_)
    have hM := fa_let_to hM ew28
    refine g_aload_n X 3 rfl d_Reader_let_89 ?_
    refine g_get X ck_5 fo_7 (fa_xn fo_7 (by decide) hN) 0 (by decide) wd_150 rfl (fr_7_0 rfl hT) d_Reader_let_90 ?_
    refine g_bipush X (by decide) d_Reader_let_93 ?_
    refine g_iload_n X 2 rfl d_Reader_let_95 ?_
    refine g_aload_n X 3 rfl d_Reader_let_96 ?_
    refine g_get X ck_5 fo_7 (fa_xn fo_7 (by decide) hN) 12 (by decide) wd_163 rfl (fa_fvI rfl) d_Reader_let_97 ?_
    refine g_iload_n X 1 rfl d_Reader_let_100 ?_
    refine g_iload_n X 0 rfl d_Reader_let_101 ?_
    refine g_iconst X d_Reader_let_102 ?_
    obtain ⟨⟨v30, w31⟩, e29⟩ : ∃ q, fm_Program_add 8 7 x1_1 (w28 7 12) v16 v23 (-1) w28 = q := ⟨_, rfl⟩
    have hM := fa_l2_e hM e29
    refine g_callV_i X ck_4 fo_8 (fa_xn fo_8 (by decide) hN) rfl mi_Program_add (c_Program_add hN hT 8 7 x1_1 (w28 7 12) v16 v23 (-1) fo_8 w28 _ e29) wd_1030 rfl (by omega) (st := []) (Nat.le_of_ble_eq_true rfl) rfl d_Reader_let_103 ?_
    cases hM
    exact g_iret X d_Reader_let_106
  · have hM := fa_ifb_f hM hc7
    refine g_iconst X d_Reader_let_19 ?_
    cases hM
    exact g_iret X d_Reader_let_20
theorem d_Reader_test_0 : decode prog_6_method_21_code 0 = .ok (.aload_n 0, 1) := by decide +kernel
theorem d_Reader_test_1 : decode prog_6_method_21_code 1 = .ok (.invokevirtual 158, 3) := by decide +kernel
theorem d_Reader_test_4 : decode prog_6_method_21_code 4 = .ok (.istore_n 1, 1) := by decide +kernel
theorem d_Reader_test_5 : decode prog_6_method_21_code 5 = .ok (.aload_n 0, 1) := by decide +kernel
theorem d_Reader_test_6 : decode prog_6_method_21_code 6 = .ok (.getfield 31, 3) := by decide +kernel
theorem d_Reader_test_9 : decode prog_6_method_21_code 9 = .ok (.bipush 60, 2) := by decide +kernel
theorem d_Reader_test_11 : decode prog_6_method_21_code 11 = .ok (.if_icmp .eq 5, 3) := by decide +kernel
theorem d_Reader_test_14 : decode prog_6_method_21_code 14 = .ok (.iload_n 1, 1) := by decide +kernel
theorem d_Reader_test_15 : decode prog_6_method_21_code 15 = .ok (.ireturn, 1) := by decide +kernel
theorem d_Reader_test_16 : decode prog_6_method_21_code 16 = .ok (.aload_n 0, 1) := by decide +kernel
theorem d_Reader_test_17 : decode prog_6_method_21_code 17 = .ok (.invokevirtual 161, 3) := by decide +kernel
theorem d_Reader_test_20 : decode prog_6_method_21_code 20 = .ok (.aload_n 0, 1) := by decide +kernel
theorem d_Reader_test_21 : decode prog_6_method_21_code 21 = .ok (.invokevirtual 158, 3) := by decide +kernel
theorem d_Reader_test_24 : decode prog_6_method_21_code 24 = .ok (.istore_n 2, 1) := by decide +kernel
theorem d_Reader_test_25 : decode prog_6_method_21_code 25 = .ok (.aload_n 0, 1) := by decide +kernel
theorem d_Reader_test_26 : decode prog_6_method_21_code 26 = .ok (.getfield 12, 3) := by decide +kernel
theorem d_Reader_test_29 : decode prog_6_method_21_code 29 = .ok (.bipush 8, 2) := by decide +kernel
theorem d_Reader_test_31 : decode prog_6_method_21_code 31 = .ok (.bipush 60, 2) := by decide +kernel
theorem d_Reader_test_33 : decode prog_6_method_21_code 33 = .ok (.aload_n 0, 1) := by decide +kernel
theorem d_Reader_test_34 : decode prog_6_method_21_code 34 = .ok (.getfield 55, 3) := by decide +kernel
theorem d_Reader_test_37 : decode prog_6_method_21_code 37 = .ok (.iload_n 1, 1) := by decide +kernel
theorem d_Reader_test_38 : decode prog_6_method_21_code 38 = .ok (.iload_n 2, 1) := by decide +kernel
theorem d_Reader_test_39 : decode prog_6_method_21_code 39 = .ok (.iconst (-1), 1) := by decide +kernel
theorem d_Reader_test_40 : decode prog_6_method_21_code 40 = .ok (.invokevirtual 153, 3) := by decide +kernel
theorem d_Reader_test_43 : decode prog_6_method_21_code 43 = .ok (.ireturn, 1) := by decide +kernel
def fm_Reader_test_b (rc_sum : fa_W → Option (Int × fa_W)) (w : fa_W) : Option (Int × fa_W) :=
  fa_bd (rc_sum w) fun v2 w3 =>
  if fa_wr (w3 7 4) = 60 then
  ((fm_Reader_startOperator w3).bind fun w6 =>
  fa_bd (rc_sum w6) fun v8 w9 =>
  fa_l2 (fm_Program_add 8 8 60 (w9 7 12) v2 v8 (-1) w9) fun v11 w12 =>
  some (v11, w12))
  else
  some (v2, w3)
set_option maxHeartbeats 4000000 in
set_option maxRecDepth 100000 in
theorem c_Reader_test_b {l : Launch} {D : va_G} {b : Nat} {aC : Nat → ClassId} {H0 : Heap} {N T : Nat} (hN : fa_NX ≤ N) (hT : fa_TX ≤ T) (dd : Nat) (rc_sum : fa_W → Option (Int × fa_W)) (Rrc_sum : ∀ (w : fa_W) (r : Int × fa_W), rc_sum w = some r → fa_MC l D b aC H0 N T y_Reader_sum prog_6_method_22_code 5 ((Option.some Jvm.ClassFile.FieldType.int)) (4 + dd) [.ref (b + 7)] w (some (.int (fa_I r.1))) r.2)  (w : fa_W) (r : Int × fa_W) (hM : fm_Reader_test_b rc_sum w = some r) : fa_MC l D b aC H0 N T y_Reader_test prog_6_method_21_code 3 ((Option.some Jvm.ClassFile.FieldType.int)) (4 + dd + 1) [.ref (b + 7)] w (some (.int (fa_I r.1))) r.2 := by
  refine fa_enter (lv := [(0, .ref (b + 7))]) (by decide +kernel) (Nat.le_of_ble_eq_true rfl) rfl (fun hh hle hnm X => ?_)
  unfold fm_Reader_test_b at hM
  refine g_aload_n X 0 rfl d_Reader_test_0 ?_
  obtain ⟨v2, w3, e1, hM⟩ := fa_obd hM
  refine g_callV_i X ck_5 fo_7 (fa_xn fo_7 (by decide) hN) rfl mi_Reader_sum (Rrc_sum w _ e1) wd_1045 rfl (by omega) (st := []) (Nat.le_of_ble_eq_true rfl) rfl d_Reader_test_1 ?_
  refine g_istorec_n X [(1, .int (fa_I v2)), (0, .ref (b + 7))] d_Reader_test_4 (by decide) rfl ?_
  refine g_aload_n X 1 rfl d_Reader_test_5 ?_
  refine g_get X ck_5 fo_7 (fa_xn fo_7 (by decide) hN) 4 (by decide) wd_155 rfl (fa_fvI rfl) d_Reader_test_6 ?_
  refine g_bipush X (by decide) d_Reader_test_9 ?_
  refine g_icmp_eq X 16 d_Reader_test_11 (by decide) (fun hc4 => ?_) (fun hc4 => ?_)
  · have hM := fa_if_t hM hc4
    refine g_aload_n X 1 rfl d_Reader_test_16 ?_
    obtain ⟨w6, e5, hM⟩ := fa_ob hM
    refine g_callV_v X ck_5 fo_7 (fa_xn fo_7 (by decide) hN) rfl mi_Reader_startOperator (c_Reader_startOperator hN hT w3 _ e5) wd_1079 rfl (by omega) (st := []) (Nat.le_of_ble_eq_true rfl) rfl d_Reader_test_17 ?_
    refine g_aload_n X 1 rfl d_Reader_test_20 ?_
    obtain ⟨v8, w9, e7, hM⟩ := fa_obd hM
    refine g_callV_i X ck_5 fo_7 (fa_xn fo_7 (by decide) hN) rfl mi_Reader_sum (Rrc_sum w6 _ e7) wd_1045 rfl (by omega) (st := []) (Nat.le_of_ble_eq_true rfl) rfl d_Reader_test_21 ?_
    refine g_istorec_n X [(2, .int (fa_I v8)), (1, .int (fa_I v2)), (0, .ref (b + 7))] d_Reader_test_24 (by decide) rfl ?_
    refine g_aload_n X 2 rfl d_Reader_test_25 ?_
    refine g_get X ck_5 fo_7 (fa_xn fo_7 (by decide) hN) 0 (by decide) wd_150 rfl (fr_7_0 rfl hT) d_Reader_test_26 ?_
    refine g_bipush X (by decide) d_Reader_test_29 ?_
    refine g_bipush X (by decide) d_Reader_test_31 ?_
    refine g_aload_n X 2 rfl d_Reader_test_33 ?_
    refine g_get X ck_5 fo_7 (fa_xn fo_7 (by decide) hN) 12 (by decide) wd_163 rfl (fa_fvI rfl) d_Reader_test_34 ?_
    refine g_iload_n X 1 rfl d_Reader_test_37 ?_
    refine g_iload_n X 0 rfl d_Reader_test_38 ?_
    refine g_iconst X d_Reader_test_39 ?_
    obtain ⟨⟨v11, w12⟩, e10⟩ : ∃ q, fm_Program_add 8 8 60 (w9 7 12) v2 v8 (-1) w9 = q := ⟨_, rfl⟩
    have hM := fa_l2_e hM e10
    refine g_callV_i X ck_4 fo_8 (fa_xn fo_8 (by decide) hN) rfl mi_Program_add (c_Program_add hN hT 8 8 60 (w9 7 12) v2 v8 (-1) fo_8 w9 _ e10) wd_1030 rfl (by omega) (st := []) (Nat.le_of_ble_eq_true rfl) rfl d_Reader_test_40 ?_
    cases hM
    exact g_iret X d_Reader_test_43
  · have hM := fa_if_f hM hc4
    refine g_iload_n X 0 rfl d_Reader_test_14 ?_
    cases hM
    exact g_iret X d_Reader_test_15
theorem d_Reader_sum_0 : decode prog_6_method_22_code 0 = .ok (.aload_n 0, 1) := by decide +kernel
theorem d_Reader_sum_1 : decode prog_6_method_22_code 1 = .ok (.invokevirtual 164, 3) := by decide +kernel
theorem d_Reader_sum_4 : decode prog_6_method_22_code 4 = .ok (.istore_n 1, 1) := by decide +kernel
theorem d_Reader_sum_5 : decode prog_6_method_22_code 5 = .ok (.iconst 0, 1) := by decide +kernel
theorem d_Reader_sum_6 : decode prog_6_method_22_code 6 = .ok (.istore_n 2, 1) := by decide +kernel
theorem d_Reader_sum_7 : decode prog_6_method_22_code 7 = .ok (.iload_n 2, 1) := by decide +kernel
theorem d_Reader_sum_8 : decode prog_6_method_22_code 8 = .ok (.bipush 100, 2) := by decide +kernel
theorem d_Reader_sum_10 : decode prog_6_method_22_code 10 = .ok (.if_icmp .ge 61, 3) := by decide +kernel
theorem d_Reader_sum_13 : decode prog_6_method_22_code 13 = .ok (.aload_n 0, 1) := by decide +kernel
theorem d_Reader_sum_14 : decode prog_6_method_22_code 14 = .ok (.getfield 31, 3) := by decide +kernel
theorem d_Reader_sum_17 : decode prog_6_method_22_code 17 = .ok (.bipush 43, 2) := by decide +kernel
theorem d_Reader_sum_19 : decode prog_6_method_22_code 19 = .ok (.if_icmp .eq 12, 3) := by decide +kernel
theorem d_Reader_sum_22 : decode prog_6_method_22_code 22 = .ok (.aload_n 0, 1) := by decide +kernel
theorem d_Reader_sum_23 : decode prog_6_method_22_code 23 = .ok (.getfield 31, 3) := by decide +kernel
theorem d_Reader_sum_26 : decode prog_6_method_22_code 26 = .ok (.bipush 45, 2) := by decide +kernel
theorem d_Reader_sum_28 : decode prog_6_method_22_code 28 = .ok (.if_icmp .ne 43, 3) := by decide +kernel
theorem d_Reader_sum_31 : decode prog_6_method_22_code 31 = .ok (.aload_n 0, 1) := by decide +kernel
theorem d_Reader_sum_32 : decode prog_6_method_22_code 32 = .ok (.getfield 31, 3) := by decide +kernel
theorem d_Reader_sum_35 : decode prog_6_method_22_code 35 = .ok (.istore_n 3, 1) := by decide +kernel
theorem d_Reader_sum_36 : decode prog_6_method_22_code 36 = .ok (.aload_n 0, 1) := by decide +kernel
theorem d_Reader_sum_37 : decode prog_6_method_22_code 37 = .ok (.invokevirtual 161, 3) := by decide +kernel
theorem d_Reader_sum_40 : decode prog_6_method_22_code 40 = .ok (.aload_n 0, 1) := by decide +kernel
theorem d_Reader_sum_41 : decode prog_6_method_22_code 41 = .ok (.invokevirtual 164, 3) := by decide +kernel
theorem d_Reader_sum_44 : decode prog_6_method_22_code 44 = .ok (.istore 4, 2) := by decide +kernel
theorem d_Reader_sum_46 : decode prog_6_method_22_code 46 = .ok (.aload_n 0, 1) := by decide +kernel
theorem d_Reader_sum_47 : decode prog_6_method_22_code 47 = .ok (.getfield 12, 3) := by decide +kernel
theorem d_Reader_sum_50 : decode prog_6_method_22_code 50 = .ok (.bipush 8, 2) := by decide +kernel
theorem d_Reader_sum_52 : decode prog_6_method_22_code 52 = .ok (.iload_n 3, 1) := by decide +kernel
theorem d_Reader_sum_53 : decode prog_6_method_22_code 53 = .ok (.aload_n 0, 1) := by decide +kernel
theorem d_Reader_sum_54 : decode prog_6_method_22_code 54 = .ok (.getfield 55, 3) := by decide +kernel
theorem d_Reader_sum_57 : decode prog_6_method_22_code 57 = .ok (.iload_n 1, 1) := by decide +kernel
theorem d_Reader_sum_58 : decode prog_6_method_22_code 58 = .ok (.iload 4, 2) := by decide +kernel
theorem d_Reader_sum_60 : decode prog_6_method_22_code 60 = .ok (.iconst (-1), 1) := by decide +kernel
theorem d_Reader_sum_61 : decode prog_6_method_22_code 61 = .ok (.invokevirtual 153, 3) := by decide +kernel
theorem d_Reader_sum_64 : decode prog_6_method_22_code 64 = .ok (.istore_n 1, 1) := by decide +kernel
theorem d_Reader_sum_65 : decode prog_6_method_22_code 65 = .ok (.iinc 2 1, 3) := by decide +kernel
theorem d_Reader_sum_68 : decode prog_6_method_22_code 68 = .ok (.goto (-61), 3) := by decide +kernel
theorem d_Reader_sum_71 : decode prog_6_method_22_code 71 = .ok (.iload_n 1, 1) := by decide +kernel
theorem d_Reader_sum_72 : decode prog_6_method_22_code 72 = .ok (.ireturn, 1) := by decide +kernel
def fm_Reader_sum_j31 (rc_product : fa_W → Option (Int × fa_W)) (k7 : Int → Int → fa_W → Option (Int × fa_W)) (x1 : Int) (x2 : Int) (w : fa_W) : Option (Int × fa_W) :=
  fa_let (w 7 4) fun x3_6 =>
  (fm_Reader_startOperator w).bind fun w8 =>
  fa_bd (rc_product w8) fun v10 w11 =>
  fa_l2 (fm_Program_add 8 8 x3_6 (w11 7 12) x1 v10 (-1) w11) fun v13 w14 =>
  fa_let (x2 + 1) fun x2_15 =>
  k7 v13 x2_15 w14
set_option maxHeartbeats 4000000 in
set_option maxRecDepth 100000 in
theorem c_Reader_sum_j31 {p : Program} {l : Launch} {e : Env} {s : State} {m : MethodId} {args : Array Value} {below : List Frame} {meth : Method} {c : Code} {hh : Nat} {D : va_G} {b : Nat} {aC : Nat → ClassId} {H0 : Heap} {N T : Nat} {dd : Nat} (X : fa_GX p s m args meth c prog_6_method_22_code 5 ((Option.some Jvm.ClassFile.FieldType.int)) y_Reader_sum.cls D b aC) (hle : 4 + dd + 1 ≤ hh) (hN : fa_NX ≤ N) (hT : fa_TX ≤ T) {r : Int × fa_W} (rc_product : fa_W → Option (Int × fa_W)) (Rrc_product : ∀ (w : fa_W) (r : Int × fa_W), rc_product w = some r → fa_MC l D b aC H0 N T y_Reader_product prog_6_method_23_code 5 ((Option.some Jvm.ClassFile.FieldType.int)) (4 + dd) [.ref (b + 7)] w (some (.int (fa_I r.1))) r.2) (k7 : Int → Int → fa_W → Option (Int × fa_W)) (K7 : ∀ (x1 : Int) (x2 : Int) (w : fa_W), k7 x1 x2 w = some r → fa_GJ p l e (fa_rm hh) s m args below meth c 0 0 (MQ below (fa_Qc D b aC H0 N T (some (.int (fa_I r.1))) r.2) args s 0 0 (fun q => b ≤ q)) D b aC H0 N T 5 w 7 [(0, .ref (b + 7)), (1, .int (fa_I x1)), (2, .int (fa_I x2))] []) : ∀ (x1 : Int) (x2 : Int) (w : fa_W) (_ : fm_Reader_sum_j31 rc_product k7 x1 x2 w = some r), fa_GJ p l e (fa_rm hh) s m args below meth c 0 0 (MQ below (fa_Qc D b aC H0 N T (some (.int (fa_I r.1))) r.2) args s 0 0 (fun q => b ≤ q)) D b aC H0 N T 5 w 31 [(0, .ref (b + 7)), (1, .int (fa_I x1)), (2, .int (fa_I x2))] [] := by
  intro x1 x2 w hM
  unfold fm_Reader_sum_j31 at hM
  refine g_aload_n X 0 rfl d_Reader_sum_31 ?_
  refine g_get X ck_5 fo_7 (fa_xn fo_7 (by decide) hN) 4 (by decide) wd_155 rfl (fa_fvI rfl) d_Reader_sum_32 ?_
  refine g_istore_n X (fun x3_6 => [(3, .int (fa_I x3_6)), (0, .ref (b + 7)), (1, .int (fa_I x1)), (2, .int (fa_I x2))]) d_Reader_sum_35 (by decide) (fun _ => rfl) (fun x3_6 ex3_6 => ?_)
  have hM := fa_let_to hM ex3_6
  refine g_aload_n X 1 rfl d_Reader_sum_36 ?_
  obtain ⟨w8, e7, hM⟩ := fa_ob hM
  refine g_callV_v X ck_5 fo_7 (fa_xn fo_7 (by decide) hN) rfl mi_Reader_startOperator (c_Reader_startOperator hN hT w _ e7) wd_1079 rfl (by omega) (st := []) (Nat.le_of_ble_eq_true rfl) rfl d_Reader_sum_37 ?_
  refine g_aload_n X 1 rfl d_Reader_sum_40 ?_
  obtain ⟨v10, w11, e9, hM⟩ := fa_obd hM
  refine g_callV_i X ck_5 fo_7 (fa_xn fo_7 (by decide) hN) rfl mi_Reader_product (Rrc_product w8 _ e9) wd_1049 rfl (by omega) (st := []) (Nat.le_of_ble_eq_true rfl) rfl d_Reader_sum_41 ?_
  refine g_istorec X [(4, .int (fa_I v10)), (3, .int (fa_I x3_6)), (0, .ref (b + 7)), (1, .int (fa_I x1)), (2, .int (fa_I x2))] d_Reader_sum_44 (by decide) rfl ?_
  refine g_aload_n X 2 rfl d_Reader_sum_46 ?_
  refine g_get X ck_5 fo_7 (fa_xn fo_7 (by decide) hN) 0 (by decide) wd_150 rfl (fr_7_0 rfl hT) d_Reader_sum_47 ?_
  refine g_bipush X (by decide) d_Reader_sum_50 ?_
  refine g_iload_n X 1 rfl d_Reader_sum_52 ?_
  refine g_aload_n X 2 rfl d_Reader_sum_53 ?_
  refine g_get X ck_5 fo_7 (fa_xn fo_7 (by decide) hN) 12 (by decide) wd_163 rfl (fa_fvI rfl) d_Reader_sum_54 ?_
  refine g_iload_n X 3 rfl d_Reader_sum_57 ?_
  refine g_iload X 0 rfl d_Reader_sum_58 ?_
  refine g_iconst X d_Reader_sum_60 ?_
  obtain ⟨⟨v13, w14⟩, e12⟩ : ∃ q, fm_Program_add 8 8 x3_6 (w11 7 12) x1 v10 (-1) w11 = q := ⟨_, rfl⟩
  have hM := fa_l2_e hM e12
  refine g_callV_i X ck_4 fo_8 (fa_xn fo_8 (by decide) hN) rfl mi_Program_add (c_Program_add hN hT 8 8 x3_6 (w11 7 12) x1 v10 (-1) fo_8 w11 _ e12) wd_1030 rfl (by omega) (st := []) (Nat.le_of_ble_eq_true rfl) rfl d_Reader_sum_61 ?_
  refine g_istorec_n X [(1, .int (fa_I v13)), (4, .int (fa_I v10)), (3, .int (fa_I x3_6)), (0, .ref (b + 7)), (2, .int (fa_I x2))] d_Reader_sum_64 (by decide) rfl ?_
  refine g_iinc X 4 (fun x2_15 => [(2, .int (fa_I x2_15)), (1, .int (fa_I v13)), (4, .int (fa_I v10)), (3, .int (fa_I x3_6)), (0, .ref (b + 7))]) d_Reader_sum_65 rfl (by decide) (fun _ => rfl) (fun x2_15 ex2_15 => ?_)
  have hM := fa_let_to hM ex2_15
  refine g_goto X 7 d_Reader_sum_68 (by decide) ?_
  exact g_lv [4, 1, 0] rfl (K7 _ _ _ hM)
def fm_Reader_sum_l7 (rc_product : fa_W → Option (Int × fa_W)) : Nat → Int → Int → fa_W → Option (Int × fa_W)
  | 0, _, _, _ => none
  | n + 1, x1, x2, w => if 100 ≤ fa_wr x2 then
  some (x1, w)
  else
  (if fa_wr (w 7 4) = 43 then
  fm_Reader_sum_j31 rc_product (fun x1 x2 w9 => fm_Reader_sum_l7 rc_product n x1 x2 w9) x1 x2 w
  else
  (if fa_wr (w 7 4) = 45 then
  fm_Reader_sum_j31 rc_product (fun x1 x2 w9 => fm_Reader_sum_l7 rc_product n x1 x2 w9) x1 x2 w
  else
  some (x1, w)))
set_option maxHeartbeats 4000000 in
set_option maxRecDepth 100000 in
theorem c_Reader_sum_l7 {p : Program} {l : Launch} {e : Env} {s : State} {m : MethodId} {args : Array Value} {below : List Frame} {meth : Method} {c : Code} {hh : Nat} {D : va_G} {b : Nat} {aC : Nat → ClassId} {H0 : Heap} {N T : Nat} {dd : Nat} (X : fa_GX p s m args meth c prog_6_method_22_code 5 ((Option.some Jvm.ClassFile.FieldType.int)) y_Reader_sum.cls D b aC) (hle : 4 + dd + 1 ≤ hh) (hN : fa_NX ≤ N) (hT : fa_TX ≤ T) {r : Int × fa_W} (rc_product : fa_W → Option (Int × fa_W)) (Rrc_product : ∀ (w : fa_W) (r : Int × fa_W), rc_product w = some r → fa_MC l D b aC H0 N T y_Reader_product prog_6_method_23_code 5 ((Option.some Jvm.ClassFile.FieldType.int)) (4 + dd) [.ref (b + 7)] w (some (.int (fa_I r.1))) r.2) : ∀ (n : Nat) (x1 : Int) (x2 : Int) (w : fa_W), fm_Reader_sum_l7 rc_product n x1 x2 w = some r → fa_GJ p l e (fa_rm hh) s m args below meth c 0 0 (MQ below (fa_Qc D b aC H0 N T (some (.int (fa_I r.1))) r.2) args s 0 0 (fun q => b ≤ q)) D b aC H0 N T 5 w 7 [(0, .ref (b + 7)), (1, .int (fa_I x1)), (2, .int (fa_I x2))] [] := by
  intro n
  induction n with
  | zero => intro x1 x2 w hM; exact fa_no hM
  | succ n ih =>
    intro x1 x2 w hM
    rw [fm_Reader_sum_l7] at hM
    refine g_iload_n X 2 rfl d_Reader_sum_7 ?_
    refine g_bipush X (by decide) d_Reader_sum_8 ?_
    refine g_icmp_ge X 71 d_Reader_sum_10 (by decide) (fun hc4 => ?_) (fun hc4 => ?_)
    · have hM := fa_if_t hM hc4
      refine g_iload_n X 1 rfl d_Reader_sum_71 ?_
      cases hM
      exact g_iret X d_Reader_sum_72
    · have hM := fa_if_f hM hc4
      refine g_aload_n X 0 rfl d_Reader_sum_13 ?_
      refine g_get X ck_5 fo_7 (fa_xn fo_7 (by decide) hN) 4 (by decide) wd_155 rfl (fa_fvI rfl) d_Reader_sum_14 ?_
      refine g_bipush X (by decide) d_Reader_sum_17 ?_
      refine g_icmp_eq X 31 d_Reader_sum_19 (by decide) (fun hc5 => ?_) (fun hc5 => ?_)
      · have hM := fa_if_t hM hc5
        exact g_lv [0, 1, 2] rfl (c_Reader_sum_j31 X hle hN hT rc_product Rrc_product (fun x1 x2 w9 => fm_Reader_sum_l7 rc_product n x1 x2 w9) (fun _ _ _ h => ih _ _ _ h)  _ _ _ hM)
      · have hM := fa_if_f hM hc5
        refine g_aload_n X 0 rfl d_Reader_sum_22 ?_
        refine g_get X ck_5 fo_7 (fa_xn fo_7 (by decide) hN) 4 (by decide) wd_155 rfl (fa_fvI rfl) d_Reader_sum_23 ?_
        refine g_bipush X (by decide) d_Reader_sum_26 ?_
        refine g_icmp_ne X 71 d_Reader_sum_28 (by decide) (fun hc16 => ?_) (fun hc16 => ?_)
        · have hM := fa_if_f hM hc16
          refine g_iload_n X 1 rfl d_Reader_sum_71 ?_
          cases hM
          exact g_iret X d_Reader_sum_72
        · have hM := fa_if_t hM hc16
          exact g_lv [0, 1, 2] rfl (c_Reader_sum_j31 X hle hN hT rc_product Rrc_product (fun x1 x2 w9 => fm_Reader_sum_l7 rc_product n x1 x2 w9) (fun _ _ _ h => ih _ _ _ h)  _ _ _ hM)
def fm_Reader_sum_b (rc_product : fa_W → Option (Int × fa_W)) (w : fa_W) : Option (Int × fa_W) :=
  fa_bd (rc_product w) fun v2 w3 =>
  fm_Reader_sum_l7 rc_product fa_FU v2 0 w3
set_option maxHeartbeats 4000000 in
set_option maxRecDepth 100000 in
theorem c_Reader_sum_b {l : Launch} {D : va_G} {b : Nat} {aC : Nat → ClassId} {H0 : Heap} {N T : Nat} (hN : fa_NX ≤ N) (hT : fa_TX ≤ T) (dd : Nat) (rc_product : fa_W → Option (Int × fa_W)) (Rrc_product : ∀ (w : fa_W) (r : Int × fa_W), rc_product w = some r → fa_MC l D b aC H0 N T y_Reader_product prog_6_method_23_code 5 ((Option.some Jvm.ClassFile.FieldType.int)) (4 + dd) [.ref (b + 7)] w (some (.int (fa_I r.1))) r.2)  (w : fa_W) (r : Int × fa_W) (hM : fm_Reader_sum_b rc_product w = some r) : fa_MC l D b aC H0 N T y_Reader_sum prog_6_method_22_code 5 ((Option.some Jvm.ClassFile.FieldType.int)) (4 + dd + 1) [.ref (b + 7)] w (some (.int (fa_I r.1))) r.2 := by
  refine fa_enter (lv := [(0, .ref (b + 7))]) (by decide +kernel) (Nat.le_of_ble_eq_true rfl) rfl (fun hh hle hnm X => ?_)
  unfold fm_Reader_sum_b at hM
  refine g_aload_n X 0 rfl d_Reader_sum_0 ?_
  obtain ⟨v2, w3, e1, hM⟩ := fa_obd hM
  refine g_callV_i X ck_5 fo_7 (fa_xn fo_7 (by decide) hN) rfl mi_Reader_product (Rrc_product w _ e1) wd_1049 rfl (by omega) (st := []) (Nat.le_of_ble_eq_true rfl) rfl d_Reader_sum_1 ?_
  refine g_istorec_n X [(1, .int (fa_I v2)), (0, .ref (b + 7))] d_Reader_sum_4 (by decide) rfl ?_
  refine g_iconst X d_Reader_sum_5 ?_
  refine g_istorec_n X [(2, .int (fa_I 0)), (1, .int (fa_I v2)), (0, .ref (b + 7))] d_Reader_sum_6 (by decide) rfl ?_
  exact g_lv [2, 1, 0] rfl (c_Reader_sum_l7 X hle hN hT rc_product Rrc_product  fa_FU _ _ _ hM)
theorem d_Reader_product_0 : decode prog_6_method_23_code 0 = .ok (.aload_n 0, 1) := by decide +kernel
theorem d_Reader_product_1 : decode prog_6_method_23_code 1 = .ok (.invokevirtual 167, 3) := by decide +kernel
theorem d_Reader_product_4 : decode prog_6_method_23_code 4 = .ok (.istore_n 1, 1) := by decide +kernel
theorem d_Reader_product_5 : decode prog_6_method_23_code 5 = .ok (.iconst 0, 1) := by decide +kernel
theorem d_Reader_product_6 : decode prog_6_method_23_code 6 = .ok (.istore_n 2, 1) := by decide +kernel
theorem d_Reader_product_7 : decode prog_6_method_23_code 7 = .ok (.iload_n 2, 1) := by decide +kernel
theorem d_Reader_product_8 : decode prog_6_method_23_code 8 = .ok (.bipush 100, 2) := by decide +kernel
theorem d_Reader_product_10 : decode prog_6_method_23_code 10 = .ok (.if_icmp .ge 61, 3) := by decide +kernel
theorem d_Reader_product_13 : decode prog_6_method_23_code 13 = .ok (.aload_n 0, 1) := by decide +kernel
theorem d_Reader_product_14 : decode prog_6_method_23_code 14 = .ok (.getfield 31, 3) := by decide +kernel
theorem d_Reader_product_17 : decode prog_6_method_23_code 17 = .ok (.bipush 42, 2) := by decide +kernel
theorem d_Reader_product_19 : decode prog_6_method_23_code 19 = .ok (.if_icmp .eq 12, 3) := by decide +kernel
theorem d_Reader_product_22 : decode prog_6_method_23_code 22 = .ok (.aload_n 0, 1) := by decide +kernel
theorem d_Reader_product_23 : decode prog_6_method_23_code 23 = .ok (.getfield 31, 3) := by decide +kernel
theorem d_Reader_product_26 : decode prog_6_method_23_code 26 = .ok (.bipush 47, 2) := by decide +kernel
theorem d_Reader_product_28 : decode prog_6_method_23_code 28 = .ok (.if_icmp .ne 43, 3) := by decide +kernel
theorem d_Reader_product_31 : decode prog_6_method_23_code 31 = .ok (.aload_n 0, 1) := by decide +kernel
theorem d_Reader_product_32 : decode prog_6_method_23_code 32 = .ok (.getfield 31, 3) := by decide +kernel
theorem d_Reader_product_35 : decode prog_6_method_23_code 35 = .ok (.istore_n 3, 1) := by decide +kernel
theorem d_Reader_product_36 : decode prog_6_method_23_code 36 = .ok (.aload_n 0, 1) := by decide +kernel
theorem d_Reader_product_37 : decode prog_6_method_23_code 37 = .ok (.invokevirtual 161, 3) := by decide +kernel
theorem d_Reader_product_40 : decode prog_6_method_23_code 40 = .ok (.aload_n 0, 1) := by decide +kernel
theorem d_Reader_product_41 : decode prog_6_method_23_code 41 = .ok (.invokevirtual 167, 3) := by decide +kernel
theorem d_Reader_product_44 : decode prog_6_method_23_code 44 = .ok (.istore 4, 2) := by decide +kernel
theorem d_Reader_product_46 : decode prog_6_method_23_code 46 = .ok (.aload_n 0, 1) := by decide +kernel
theorem d_Reader_product_47 : decode prog_6_method_23_code 47 = .ok (.getfield 12, 3) := by decide +kernel
theorem d_Reader_product_50 : decode prog_6_method_23_code 50 = .ok (.bipush 8, 2) := by decide +kernel
theorem d_Reader_product_52 : decode prog_6_method_23_code 52 = .ok (.iload_n 3, 1) := by decide +kernel
theorem d_Reader_product_53 : decode prog_6_method_23_code 53 = .ok (.aload_n 0, 1) := by decide +kernel
theorem d_Reader_product_54 : decode prog_6_method_23_code 54 = .ok (.getfield 55, 3) := by decide +kernel
theorem d_Reader_product_57 : decode prog_6_method_23_code 57 = .ok (.iload_n 1, 1) := by decide +kernel
theorem d_Reader_product_58 : decode prog_6_method_23_code 58 = .ok (.iload 4, 2) := by decide +kernel
theorem d_Reader_product_60 : decode prog_6_method_23_code 60 = .ok (.iconst (-1), 1) := by decide +kernel
theorem d_Reader_product_61 : decode prog_6_method_23_code 61 = .ok (.invokevirtual 153, 3) := by decide +kernel
theorem d_Reader_product_64 : decode prog_6_method_23_code 64 = .ok (.istore_n 1, 1) := by decide +kernel
theorem d_Reader_product_65 : decode prog_6_method_23_code 65 = .ok (.iinc 2 1, 3) := by decide +kernel
theorem d_Reader_product_68 : decode prog_6_method_23_code 68 = .ok (.goto (-61), 3) := by decide +kernel
theorem d_Reader_product_71 : decode prog_6_method_23_code 71 = .ok (.iload_n 1, 1) := by decide +kernel
theorem d_Reader_product_72 : decode prog_6_method_23_code 72 = .ok (.ireturn, 1) := by decide +kernel
def fm_Reader_product_j31 (rc_chain : fa_W → Option (Int × fa_W)) (k7 : Int → Int → fa_W → Option (Int × fa_W)) (x1 : Int) (x2 : Int) (w : fa_W) : Option (Int × fa_W) :=
  fa_let (w 7 4) fun x3_6 =>
  (fm_Reader_startOperator w).bind fun w8 =>
  fa_bd (rc_chain w8) fun v10 w11 =>
  fa_l2 (fm_Program_add 8 8 x3_6 (w11 7 12) x1 v10 (-1) w11) fun v13 w14 =>
  fa_let (x2 + 1) fun x2_15 =>
  k7 v13 x2_15 w14
set_option maxHeartbeats 4000000 in
set_option maxRecDepth 100000 in
theorem c_Reader_product_j31 {p : Program} {l : Launch} {e : Env} {s : State} {m : MethodId} {args : Array Value} {below : List Frame} {meth : Method} {c : Code} {hh : Nat} {D : va_G} {b : Nat} {aC : Nat → ClassId} {H0 : Heap} {N T : Nat} {dd : Nat} (X : fa_GX p s m args meth c prog_6_method_23_code 5 ((Option.some Jvm.ClassFile.FieldType.int)) y_Reader_product.cls D b aC) (hle : 4 + dd + 1 ≤ hh) (hN : fa_NX ≤ N) (hT : fa_TX ≤ T) {r : Int × fa_W} (rc_chain : fa_W → Option (Int × fa_W)) (Rrc_chain : ∀ (w : fa_W) (r : Int × fa_W), rc_chain w = some r → fa_MC l D b aC H0 N T y_Reader_chain prog_6_method_25_code 5 ((Option.some Jvm.ClassFile.FieldType.int)) (4 + dd) [.ref (b + 7)] w (some (.int (fa_I r.1))) r.2) (k7 : Int → Int → fa_W → Option (Int × fa_W)) (K7 : ∀ (x1 : Int) (x2 : Int) (w : fa_W), k7 x1 x2 w = some r → fa_GJ p l e (fa_rm hh) s m args below meth c 0 0 (MQ below (fa_Qc D b aC H0 N T (some (.int (fa_I r.1))) r.2) args s 0 0 (fun q => b ≤ q)) D b aC H0 N T 5 w 7 [(0, .ref (b + 7)), (1, .int (fa_I x1)), (2, .int (fa_I x2))] []) : ∀ (x1 : Int) (x2 : Int) (w : fa_W) (_ : fm_Reader_product_j31 rc_chain k7 x1 x2 w = some r), fa_GJ p l e (fa_rm hh) s m args below meth c 0 0 (MQ below (fa_Qc D b aC H0 N T (some (.int (fa_I r.1))) r.2) args s 0 0 (fun q => b ≤ q)) D b aC H0 N T 5 w 31 [(0, .ref (b + 7)), (1, .int (fa_I x1)), (2, .int (fa_I x2))] [] := by
  intro x1 x2 w hM
  unfold fm_Reader_product_j31 at hM
  refine g_aload_n X 0 rfl d_Reader_product_31 ?_
  refine g_get X ck_5 fo_7 (fa_xn fo_7 (by decide) hN) 4 (by decide) wd_155 rfl (fa_fvI rfl) d_Reader_product_32 ?_
  refine g_istore_n X (fun x3_6 => [(3, .int (fa_I x3_6)), (0, .ref (b + 7)), (1, .int (fa_I x1)), (2, .int (fa_I x2))]) d_Reader_product_35 (by decide) (fun _ => rfl) (fun x3_6 ex3_6 => ?_)
  have hM := fa_let_to hM ex3_6
  refine g_aload_n X 1 rfl d_Reader_product_36 ?_
  obtain ⟨w8, e7, hM⟩ := fa_ob hM
  refine g_callV_v X ck_5 fo_7 (fa_xn fo_7 (by decide) hN) rfl mi_Reader_startOperator (c_Reader_startOperator hN hT w _ e7) wd_1079 rfl (by omega) (st := []) (Nat.le_of_ble_eq_true rfl) rfl d_Reader_product_37 ?_
  refine g_aload_n X 1 rfl d_Reader_product_40 ?_
  obtain ⟨v10, w11, e9, hM⟩ := fa_obd hM
  refine g_callV_i X ck_5 fo_7 (fa_xn fo_7 (by decide) hN) rfl mi_Reader_chain (Rrc_chain w8 _ e9) wd_1053 rfl (by omega) (st := []) (Nat.le_of_ble_eq_true rfl) rfl d_Reader_product_41 ?_
  refine g_istorec X [(4, .int (fa_I v10)), (3, .int (fa_I x3_6)), (0, .ref (b + 7)), (1, .int (fa_I x1)), (2, .int (fa_I x2))] d_Reader_product_44 (by decide) rfl ?_
  refine g_aload_n X 2 rfl d_Reader_product_46 ?_
  refine g_get X ck_5 fo_7 (fa_xn fo_7 (by decide) hN) 0 (by decide) wd_150 rfl (fr_7_0 rfl hT) d_Reader_product_47 ?_
  refine g_bipush X (by decide) d_Reader_product_50 ?_
  refine g_iload_n X 1 rfl d_Reader_product_52 ?_
  refine g_aload_n X 2 rfl d_Reader_product_53 ?_
  refine g_get X ck_5 fo_7 (fa_xn fo_7 (by decide) hN) 12 (by decide) wd_163 rfl (fa_fvI rfl) d_Reader_product_54 ?_
  refine g_iload_n X 3 rfl d_Reader_product_57 ?_
  refine g_iload X 0 rfl d_Reader_product_58 ?_
  refine g_iconst X d_Reader_product_60 ?_
  obtain ⟨⟨v13, w14⟩, e12⟩ : ∃ q, fm_Program_add 8 8 x3_6 (w11 7 12) x1 v10 (-1) w11 = q := ⟨_, rfl⟩
  have hM := fa_l2_e hM e12
  refine g_callV_i X ck_4 fo_8 (fa_xn fo_8 (by decide) hN) rfl mi_Program_add (c_Program_add hN hT 8 8 x3_6 (w11 7 12) x1 v10 (-1) fo_8 w11 _ e12) wd_1030 rfl (by omega) (st := []) (Nat.le_of_ble_eq_true rfl) rfl d_Reader_product_61 ?_
  refine g_istorec_n X [(1, .int (fa_I v13)), (4, .int (fa_I v10)), (3, .int (fa_I x3_6)), (0, .ref (b + 7)), (2, .int (fa_I x2))] d_Reader_product_64 (by decide) rfl ?_
  refine g_iinc X 4 (fun x2_15 => [(2, .int (fa_I x2_15)), (1, .int (fa_I v13)), (4, .int (fa_I v10)), (3, .int (fa_I x3_6)), (0, .ref (b + 7))]) d_Reader_product_65 rfl (by decide) (fun _ => rfl) (fun x2_15 ex2_15 => ?_)
  have hM := fa_let_to hM ex2_15
  refine g_goto X 7 d_Reader_product_68 (by decide) ?_
  exact g_lv [4, 1, 0] rfl (K7 _ _ _ hM)
def fm_Reader_product_l7 (rc_chain : fa_W → Option (Int × fa_W)) : Nat → Int → Int → fa_W → Option (Int × fa_W)
  | 0, _, _, _ => none
  | n + 1, x1, x2, w => if 100 ≤ fa_wr x2 then
  some (x1, w)
  else
  (if fa_wr (w 7 4) = 42 then
  fm_Reader_product_j31 rc_chain (fun x1 x2 w9 => fm_Reader_product_l7 rc_chain n x1 x2 w9) x1 x2 w
  else
  (if fa_wr (w 7 4) = 47 then
  fm_Reader_product_j31 rc_chain (fun x1 x2 w9 => fm_Reader_product_l7 rc_chain n x1 x2 w9) x1 x2 w
  else
  some (x1, w)))
set_option maxHeartbeats 4000000 in
set_option maxRecDepth 100000 in
theorem c_Reader_product_l7 {p : Program} {l : Launch} {e : Env} {s : State} {m : MethodId} {args : Array Value} {below : List Frame} {meth : Method} {c : Code} {hh : Nat} {D : va_G} {b : Nat} {aC : Nat → ClassId} {H0 : Heap} {N T : Nat} {dd : Nat} (X : fa_GX p s m args meth c prog_6_method_23_code 5 ((Option.some Jvm.ClassFile.FieldType.int)) y_Reader_product.cls D b aC) (hle : 4 + dd + 1 ≤ hh) (hN : fa_NX ≤ N) (hT : fa_TX ≤ T) {r : Int × fa_W} (rc_chain : fa_W → Option (Int × fa_W)) (Rrc_chain : ∀ (w : fa_W) (r : Int × fa_W), rc_chain w = some r → fa_MC l D b aC H0 N T y_Reader_chain prog_6_method_25_code 5 ((Option.some Jvm.ClassFile.FieldType.int)) (4 + dd) [.ref (b + 7)] w (some (.int (fa_I r.1))) r.2) : ∀ (n : Nat) (x1 : Int) (x2 : Int) (w : fa_W), fm_Reader_product_l7 rc_chain n x1 x2 w = some r → fa_GJ p l e (fa_rm hh) s m args below meth c 0 0 (MQ below (fa_Qc D b aC H0 N T (some (.int (fa_I r.1))) r.2) args s 0 0 (fun q => b ≤ q)) D b aC H0 N T 5 w 7 [(0, .ref (b + 7)), (1, .int (fa_I x1)), (2, .int (fa_I x2))] [] := by
  intro n
  induction n with
  | zero => intro x1 x2 w hM; exact fa_no hM
  | succ n ih =>
    intro x1 x2 w hM
    rw [fm_Reader_product_l7] at hM
    refine g_iload_n X 2 rfl d_Reader_product_7 ?_
    refine g_bipush X (by decide) d_Reader_product_8 ?_
    refine g_icmp_ge X 71 d_Reader_product_10 (by decide) (fun hc4 => ?_) (fun hc4 => ?_)
    · have hM := fa_if_t hM hc4
      refine g_iload_n X 1 rfl d_Reader_product_71 ?_
      cases hM
      exact g_iret X d_Reader_product_72
    · have hM := fa_if_f hM hc4
      refine g_aload_n X 0 rfl d_Reader_product_13 ?_
      refine g_get X ck_5 fo_7 (fa_xn fo_7 (by decide) hN) 4 (by decide) wd_155 rfl (fa_fvI rfl) d_Reader_product_14 ?_
      refine g_bipush X (by decide) d_Reader_product_17 ?_
      refine g_icmp_eq X 31 d_Reader_product_19 (by decide) (fun hc5 => ?_) (fun hc5 => ?_)
      · have hM := fa_if_t hM hc5
        exact g_lv [0, 1, 2] rfl (c_Reader_product_j31 X hle hN hT rc_chain Rrc_chain (fun x1 x2 w9 => fm_Reader_product_l7 rc_chain n x1 x2 w9) (fun _ _ _ h => ih _ _ _ h)  _ _ _ hM)
      · have hM := fa_if_f hM hc5
        refine g_aload_n X 0 rfl d_Reader_product_22 ?_
        refine g_get X ck_5 fo_7 (fa_xn fo_7 (by decide) hN) 4 (by decide) wd_155 rfl (fa_fvI rfl) d_Reader_product_23 ?_
        refine g_bipush X (by decide) d_Reader_product_26 ?_
        refine g_icmp_ne X 71 d_Reader_product_28 (by decide) (fun hc16 => ?_) (fun hc16 => ?_)
        · have hM := fa_if_f hM hc16
          refine g_iload_n X 1 rfl d_Reader_product_71 ?_
          cases hM
          exact g_iret X d_Reader_product_72
        · have hM := fa_if_t hM hc16
          exact g_lv [0, 1, 2] rfl (c_Reader_product_j31 X hle hN hT rc_chain Rrc_chain (fun x1 x2 w9 => fm_Reader_product_l7 rc_chain n x1 x2 w9) (fun _ _ _ h => ih _ _ _ h)  _ _ _ hM)
def fm_Reader_product_b (rc_chain : fa_W → Option (Int × fa_W)) (w : fa_W) : Option (Int × fa_W) :=
  fa_bd (rc_chain w) fun v2 w3 =>
  fm_Reader_product_l7 rc_chain fa_FU v2 0 w3
set_option maxHeartbeats 4000000 in
set_option maxRecDepth 100000 in
theorem c_Reader_product_b {l : Launch} {D : va_G} {b : Nat} {aC : Nat → ClassId} {H0 : Heap} {N T : Nat} (hN : fa_NX ≤ N) (hT : fa_TX ≤ T) (dd : Nat) (rc_chain : fa_W → Option (Int × fa_W)) (Rrc_chain : ∀ (w : fa_W) (r : Int × fa_W), rc_chain w = some r → fa_MC l D b aC H0 N T y_Reader_chain prog_6_method_25_code 5 ((Option.some Jvm.ClassFile.FieldType.int)) (4 + dd) [.ref (b + 7)] w (some (.int (fa_I r.1))) r.2)  (w : fa_W) (r : Int × fa_W) (hM : fm_Reader_product_b rc_chain w = some r) : fa_MC l D b aC H0 N T y_Reader_product prog_6_method_23_code 5 ((Option.some Jvm.ClassFile.FieldType.int)) (4 + dd + 1) [.ref (b + 7)] w (some (.int (fa_I r.1))) r.2 := by
  refine fa_enter (lv := [(0, .ref (b + 7))]) (by decide +kernel) (Nat.le_of_ble_eq_true rfl) rfl (fun hh hle hnm X => ?_)
  unfold fm_Reader_product_b at hM
  refine g_aload_n X 0 rfl d_Reader_product_0 ?_
  obtain ⟨v2, w3, e1, hM⟩ := fa_obd hM
  refine g_callV_i X ck_5 fo_7 (fa_xn fo_7 (by decide) hN) rfl mi_Reader_chain (Rrc_chain w _ e1) wd_1053 rfl (by omega) (st := []) (Nat.le_of_ble_eq_true rfl) rfl d_Reader_product_1 ?_
  refine g_istorec_n X [(1, .int (fa_I v2)), (0, .ref (b + 7))] d_Reader_product_4 (by decide) rfl ?_
  refine g_iconst X d_Reader_product_5 ?_
  refine g_istorec_n X [(2, .int (fa_I 0)), (1, .int (fa_I v2)), (0, .ref (b + 7))] d_Reader_product_6 (by decide) rfl ?_
  exact g_lv [2, 1, 0] rfl (c_Reader_product_l7 X hle hN hT rc_chain Rrc_chain  fa_FU _ _ _ hM)
theorem d_Reader_chain_0 : decode prog_6_method_25_code 0 = .ok (.aload_n 0, 1) := by decide +kernel
theorem d_Reader_chain_1 : decode prog_6_method_25_code 1 = .ok (.invokevirtual 170, 3) := by decide +kernel
theorem d_Reader_chain_4 : decode prog_6_method_25_code 4 = .ok (.istore_n 1, 1) := by decide +kernel
theorem d_Reader_chain_5 : decode prog_6_method_25_code 5 = .ok (.iconst 0, 1) := by decide +kernel
theorem d_Reader_chain_6 : decode prog_6_method_25_code 6 = .ok (.istore_n 2, 1) := by decide +kernel
theorem d_Reader_chain_7 : decode prog_6_method_25_code 7 = .ok (.iload_n 2, 1) := by decide +kernel
theorem d_Reader_chain_8 : decode prog_6_method_25_code 8 = .ok (.bipush 100, 2) := by decide +kernel
theorem d_Reader_chain_10 : decode prog_6_method_25_code 10 = .ok (.if_icmp .ge 66, 3) := by decide +kernel
theorem d_Reader_chain_13 : decode prog_6_method_25_code 13 = .ok (.aload_n 0, 1) := by decide +kernel
theorem d_Reader_chain_14 : decode prog_6_method_25_code 14 = .ok (.invokevirtual 173, 3) := by decide +kernel
theorem d_Reader_chain_17 : decode prog_6_method_25_code 17 = .ok (.ifCond .eq 59, 3) := by decide +kernel
theorem d_Reader_chain_20 : decode prog_6_method_25_code 20 = .ok (.aload_n 0, 1) := by decide +kernel
theorem d_Reader_chain_21 : decode prog_6_method_25_code 21 = .ok (.getfield 12, 3) := by decide +kernel
theorem d_Reader_chain_24 : decode prog_6_method_25_code 24 = .ok (.getfield 176, 3) := by decide +kernel
theorem d_Reader_chain_27 : decode prog_6_method_25_code 27 = .ok (.istore_n 3, 1) := by decide +kernel
theorem d_Reader_chain_28 : decode prog_6_method_25_code 28 = .ok (.aload_n 0, 1) := by decide +kernel
theorem d_Reader_chain_29 : decode prog_6_method_25_code 29 = .ok (.invokevirtual 143, 3) := by decide +kernel
theorem d_Reader_chain_32 : decode prog_6_method_25_code 32 = .ok (.aload_n 0, 1) := by decide +kernel
theorem d_Reader_chain_33 : decode prog_6_method_25_code 33 = .ok (.getfield 12, 3) := by decide +kernel
theorem d_Reader_chain_36 : decode prog_6_method_25_code 36 = .ok (.dup, 1) := by decide +kernel
theorem d_Reader_chain_37 : decode prog_6_method_25_code 37 = .ok (.getfield 176, 3) := by decide +kernel
theorem d_Reader_chain_40 : decode prog_6_method_25_code 40 = .ok (.iconst 1, 1) := by decide +kernel
theorem d_Reader_chain_41 : decode prog_6_method_25_code 41 = .ok (.iadd, 1) := by decide +kernel
theorem d_Reader_chain_42 : decode prog_6_method_25_code 42 = .ok (.putfield 176, 3) := by decide +kernel
theorem d_Reader_chain_45 : decode prog_6_method_25_code 45 = .ok (.aload_n 0, 1) := by decide +kernel
theorem d_Reader_chain_46 : decode prog_6_method_25_code 46 = .ok (.invokevirtual 170, 3) := by decide +kernel
theorem d_Reader_chain_49 : decode prog_6_method_25_code 49 = .ok (.istore 4, 2) := by decide +kernel
theorem d_Reader_chain_51 : decode prog_6_method_25_code 51 = .ok (.aload_n 0, 1) := by decide +kernel
theorem d_Reader_chain_52 : decode prog_6_method_25_code 52 = .ok (.getfield 12, 3) := by decide +kernel
theorem d_Reader_chain_55 : decode prog_6_method_25_code 55 = .ok (.bipush 9, 2) := by decide +kernel
theorem d_Reader_chain_57 : decode prog_6_method_25_code 57 = .ok (.iload_n 3, 1) := by decide +kernel
theorem d_Reader_chain_58 : decode prog_6_method_25_code 58 = .ok (.aload_n 0, 1) := by decide +kernel
theorem d_Reader_chain_59 : decode prog_6_method_25_code 59 = .ok (.getfield 55, 3) := by decide +kernel
theorem d_Reader_chain_62 : decode prog_6_method_25_code 62 = .ok (.iload_n 1, 1) := by decide +kernel
theorem d_Reader_chain_63 : decode prog_6_method_25_code 63 = .ok (.iload 4, 2) := by decide +kernel
theorem d_Reader_chain_65 : decode prog_6_method_25_code 65 = .ok (.iconst (-1), 1) := by decide +kernel
theorem d_Reader_chain_66 : decode prog_6_method_25_code 66 = .ok (.invokevirtual 153, 3) := by decide +kernel
theorem d_Reader_chain_69 : decode prog_6_method_25_code 69 = .ok (.istore_n 1, 1) := by decide +kernel
theorem d_Reader_chain_70 : decode prog_6_method_25_code 70 = .ok (.iinc 2 1, 3) := by decide +kernel
theorem d_Reader_chain_73 : decode prog_6_method_25_code 73 = .ok (.goto (-66), 3) := by decide +kernel
theorem d_Reader_chain_76 : decode prog_6_method_25_code 76 = .ok (.iload_n 1, 1) := by decide +kernel
theorem d_Reader_chain_77 : decode prog_6_method_25_code 77 = .ok (.ireturn, 1) := by decide +kernel
def fm_Reader_chain_l7 (rc_atom : fa_W → Option (Int × fa_W)) : Nat → Int → Int → fa_W → Option (Int × fa_W)
  | 0, _, _, _ => none
  | n + 1, x1, x2, w => if 100 ≤ fa_wr x2 then
  some (x1, w)
  else
  (if fm_Reader_startsAtom w = true then
  (fa_let (w 8 15) fun x3_7 =>
  fa_let (fm_Reader_countThing w) fun w9 =>
  fa_let (fa_st w9 8 15 ((w9 8 15) + 1)) fun w10 =>
  fa_bd (rc_atom w10) fun v12 w13 =>
  fa_l2 (fm_Program_add 8 9 x3_7 (w13 7 12) x1 v12 (-1) w13) fun v15 w16 =>
  fa_let (x2 + 1) fun x2_17 =>
  fm_Reader_chain_l7 rc_atom n v15 x2_17 w16)
  else
  some (x1, w))
set_option maxHeartbeats 4000000 in
set_option maxRecDepth 100000 in
theorem c_Reader_chain_l7 {p : Program} {l : Launch} {e : Env} {s : State} {m : MethodId} {args : Array Value} {below : List Frame} {meth : Method} {c : Code} {hh : Nat} {D : va_G} {b : Nat} {aC : Nat → ClassId} {H0 : Heap} {N T : Nat} {dd : Nat} (X : fa_GX p s m args meth c prog_6_method_25_code 5 ((Option.some Jvm.ClassFile.FieldType.int)) y_Reader_chain.cls D b aC) (hle : 4 + dd + 1 ≤ hh) (hN : fa_NX ≤ N) (hT : fa_TX ≤ T) {r : Int × fa_W} (rc_atom : fa_W → Option (Int × fa_W)) (Rrc_atom : ∀ (w : fa_W) (r : Int × fa_W), rc_atom w = some r → fa_MC l D b aC H0 N T y_Reader_atom prog_6_method_27_code 3 ((Option.some Jvm.ClassFile.FieldType.int)) (4 + dd) [.ref (b + 7)] w (some (.int (fa_I r.1))) r.2) : ∀ (n : Nat) (x1 : Int) (x2 : Int) (w : fa_W), fm_Reader_chain_l7 rc_atom n x1 x2 w = some r → fa_GJ p l e (fa_rm hh) s m args below meth c 0 0 (MQ below (fa_Qc D b aC H0 N T (some (.int (fa_I r.1))) r.2) args s 0 0 (fun q => b ≤ q)) D b aC H0 N T 5 w 7 [(0, .ref (b + 7)), (1, .int (fa_I x1)), (2, .int (fa_I x2))] [] := by
  intro n
  induction n with
  | zero => intro x1 x2 w hM; exact fa_no hM
  | succ n ih =>
    intro x1 x2 w hM
    rw [fm_Reader_chain_l7] at hM
    refine g_iload_n X 2 rfl d_Reader_chain_7 ?_
    refine g_bipush X (by decide) d_Reader_chain_8 ?_
    refine g_icmp_ge X 76 d_Reader_chain_10 (by decide) (fun hc4 => ?_) (fun hc4 => ?_)
    · have hM := fa_if_t hM hc4
      refine g_iload_n X 1 rfl d_Reader_chain_76 ?_
      cases hM
      exact g_iret X d_Reader_chain_77
    · have hM := fa_if_f hM hc4
      refine g_aload_n X 0 rfl d_Reader_chain_13 ?_
      refine g_callV_i X ck_5 fo_7 (fa_xn fo_7 (by decide) hN) rfl mi_Reader_startsAtom (c_Reader_startsAtom hN hT w _ rfl) wd_1075 rfl (by omega) (st := []) (Nat.le_of_ble_eq_true rfl) rfl d_Reader_chain_14 ?_
      refine g_ifb_eq X 76 d_Reader_chain_17 (by decide) (fun hc6 => ?_) (fun hc6 => ?_)
      · have hM := fa_ifb_f hM hc6
        refine g_iload_n X 1 rfl d_Reader_chain_76 ?_
        cases hM
        exact g_iret X d_Reader_chain_77
      · have hM := fa_ifb_t hM hc6
        refine g_aload_n X 0 rfl d_Reader_chain_20 ?_
        refine g_get X ck_5 fo_7 (fa_xn fo_7 (by decide) hN) 0 (by decide) wd_150 rfl (fr_7_0 rfl hT) d_Reader_chain_21 ?_
        refine g_getN X ck_4 fo_8 (fa_xn fo_8 (by decide) hN) 15 (by decide) wd_106 rfl (fa_fvI rfl) d_Reader_chain_24 ?_
        refine g_istore_n X (fun x3_7 => [(3, .int (fa_I x3_7)), (0, .ref (b + 7)), (1, .int (fa_I x1)), (2, .int (fa_I x2))]) d_Reader_chain_27 (by decide) (fun _ => rfl) (fun x3_7 ex3_7 => ?_)
        have hM := fa_let_to hM ex3_7
        refine g_aload_n X 1 rfl d_Reader_chain_28 ?_
        obtain ⟨w9, e8⟩ : ∃ q, fm_Reader_countThing w = q := ⟨_, rfl⟩
        have hM := fa_let_to hM e8.symm
        refine g_callV_v X ck_5 fo_7 (fa_xn fo_7 (by decide) hN) rfl mi_Reader_countThing (c_Reader_countThing hN hT w _ e8) wd_1021 rfl (by omega) (st := []) (Nat.le_of_ble_eq_true rfl) rfl d_Reader_chain_29 ?_
        refine g_aload_n X 1 rfl d_Reader_chain_32 ?_
        refine g_get X ck_5 fo_7 (fa_xn fo_7 (by decide) hN) 0 (by decide) wd_150 rfl (fr_7_0 rfl hT) d_Reader_chain_33 ?_
        refine g_dup X rfl d_Reader_chain_36 ?_
        refine g_getN X ck_4 fo_8 (fa_xn fo_8 (by decide) hN) 15 (by decide) wd_106 rfl (fa_fvI rfl) d_Reader_chain_37 ?_
        refine g_iconst X d_Reader_chain_40 ?_
        refine g_iadd X d_Reader_chain_41 ?_
        refine g_putN X ck_4 fo_8 (fa_xn fo_8 (by decide) hN) 15 (z := ((w9 8 15) + 1)) (by decide) wd_106 rfl (fa_fvI' rfl) rfl rfl rfl d_Reader_chain_42 (fun w10 ew10 => ?_)
        have hM := fa_let_to hM ew10
        refine g_aload_n X 1 rfl d_Reader_chain_45 ?_
        obtain ⟨v12, w13, e11, hM⟩ := fa_obd hM
        refine g_callV_i X ck_5 fo_7 (fa_xn fo_7 (by decide) hN) rfl mi_Reader_atom (Rrc_atom w10 _ e11) wd_1057 rfl (by omega) (st := []) (Nat.le_of_ble_eq_true rfl) rfl d_Reader_chain_46 ?_
        refine g_istorec X [(4, .int (fa_I v12)), (3, .int (fa_I x3_7)), (0, .ref (b + 7)), (1, .int (fa_I x1)), (2, .int (fa_I x2))] d_Reader_chain_49 (by decide) rfl ?_
        refine g_aload_n X 2 rfl d_Reader_chain_51 ?_
        refine g_get X ck_5 fo_7 (fa_xn fo_7 (by decide) hN) 0 (by decide) wd_150 rfl (fr_7_0 rfl hT) d_Reader_chain_52 ?_
        refine g_bipush X (by decide) d_Reader_chain_55 ?_
        refine g_iload_n X 1 rfl d_Reader_chain_57 ?_
        refine g_aload_n X 2 rfl d_Reader_chain_58 ?_
        refine g_get X ck_5 fo_7 (fa_xn fo_7 (by decide) hN) 12 (by decide) wd_163 rfl (fa_fvI rfl) d_Reader_chain_59 ?_
        refine g_iload_n X 3 rfl d_Reader_chain_62 ?_
        refine g_iload X 0 rfl d_Reader_chain_63 ?_
        refine g_iconst X d_Reader_chain_65 ?_
        obtain ⟨⟨v15, w16⟩, e14⟩ : ∃ q, fm_Program_add 8 9 x3_7 (w13 7 12) x1 v12 (-1) w13 = q := ⟨_, rfl⟩
        have hM := fa_l2_e hM e14
        refine g_callV_i X ck_4 fo_8 (fa_xn fo_8 (by decide) hN) rfl mi_Program_add (c_Program_add hN hT 8 9 x3_7 (w13 7 12) x1 v12 (-1) fo_8 w13 _ e14) wd_1030 rfl (by omega) (st := []) (Nat.le_of_ble_eq_true rfl) rfl d_Reader_chain_66 ?_
        refine g_istorec_n X [(1, .int (fa_I v15)), (4, .int (fa_I v12)), (3, .int (fa_I x3_7)), (0, .ref (b + 7)), (2, .int (fa_I x2))] d_Reader_chain_69 (by decide) rfl ?_
        refine g_iinc X 4 (fun x2_17 => [(2, .int (fa_I x2_17)), (1, .int (fa_I v15)), (4, .int (fa_I v12)), (3, .int (fa_I x3_7)), (0, .ref (b + 7))]) d_Reader_chain_70 rfl (by decide) (fun _ => rfl) (fun x2_17 ex2_17 => ?_)
        have hM := fa_let_to hM ex2_17
        refine g_goto X 7 d_Reader_chain_73 (by decide) ?_
        exact g_lv [4, 1, 0] rfl (ih _ _ _ hM)
def fm_Reader_chain_b (rc_atom : fa_W → Option (Int × fa_W)) (w : fa_W) : Option (Int × fa_W) :=
  fa_bd (rc_atom w) fun v2 w3 =>
  fm_Reader_chain_l7 rc_atom fa_FU v2 0 w3
set_option maxHeartbeats 4000000 in
set_option maxRecDepth 100000 in
theorem c_Reader_chain_b {l : Launch} {D : va_G} {b : Nat} {aC : Nat → ClassId} {H0 : Heap} {N T : Nat} (hN : fa_NX ≤ N) (hT : fa_TX ≤ T) (dd : Nat) (rc_atom : fa_W → Option (Int × fa_W)) (Rrc_atom : ∀ (w : fa_W) (r : Int × fa_W), rc_atom w = some r → fa_MC l D b aC H0 N T y_Reader_atom prog_6_method_27_code 3 ((Option.some Jvm.ClassFile.FieldType.int)) (4 + dd) [.ref (b + 7)] w (some (.int (fa_I r.1))) r.2)  (w : fa_W) (r : Int × fa_W) (hM : fm_Reader_chain_b rc_atom w = some r) : fa_MC l D b aC H0 N T y_Reader_chain prog_6_method_25_code 5 ((Option.some Jvm.ClassFile.FieldType.int)) (4 + dd + 1) [.ref (b + 7)] w (some (.int (fa_I r.1))) r.2 := by
  refine fa_enter (lv := [(0, .ref (b + 7))]) (by decide +kernel) (Nat.le_of_ble_eq_true rfl) rfl (fun hh hle hnm X => ?_)
  unfold fm_Reader_chain_b at hM
  refine g_aload_n X 0 rfl d_Reader_chain_0 ?_
  obtain ⟨v2, w3, e1, hM⟩ := fa_obd hM
  refine g_callV_i X ck_5 fo_7 (fa_xn fo_7 (by decide) hN) rfl mi_Reader_atom (Rrc_atom w _ e1) wd_1057 rfl (by omega) (st := []) (Nat.le_of_ble_eq_true rfl) rfl d_Reader_chain_1 ?_
  refine g_istorec_n X [(1, .int (fa_I v2)), (0, .ref (b + 7))] d_Reader_chain_4 (by decide) rfl ?_
  refine g_iconst X d_Reader_chain_5 ?_
  refine g_istorec_n X [(2, .int (fa_I 0)), (1, .int (fa_I v2)), (0, .ref (b + 7))] d_Reader_chain_6 (by decide) rfl ?_
  exact g_lv [2, 1, 0] rfl (c_Reader_chain_l7 X hle hN hT rc_atom Rrc_atom  fa_FU _ _ _ hM)
theorem d_Reader_atom_0 : decode prog_6_method_27_code 0 = .ok (.aload_n 0, 1) := by decide +kernel
theorem d_Reader_atom_1 : decode prog_6_method_27_code 1 = .ok (.getfield 31, 3) := by decide +kernel
theorem d_Reader_atom_4 : decode prog_6_method_27_code 4 = .ok (.bipush 40, 2) := by decide +kernel
theorem d_Reader_atom_6 : decode prog_6_method_27_code 6 = .ok (.if_icmp .ne 8, 3) := by decide +kernel
theorem d_Reader_atom_9 : decode prog_6_method_27_code 9 = .ok (.aload_n 0, 1) := by decide +kernel
theorem d_Reader_atom_10 : decode prog_6_method_27_code 10 = .ok (.invokevirtual 180, 3) := by decide +kernel
theorem d_Reader_atom_13 : decode prog_6_method_27_code 13 = .ok (.ireturn, 1) := by decide +kernel
theorem d_Reader_atom_14 : decode prog_6_method_27_code 14 = .ok (.aload_n 0, 1) := by decide +kernel
theorem d_Reader_atom_15 : decode prog_6_method_27_code 15 = .ok (.getfield 31, 3) := by decide +kernel
theorem d_Reader_atom_18 : decode prog_6_method_27_code 18 = .ok (.iconst 1, 1) := by decide +kernel
theorem d_Reader_atom_19 : decode prog_6_method_27_code 19 = .ok (.if_icmp .ne 13, 3) := by decide +kernel
theorem d_Reader_atom_22 : decode prog_6_method_27_code 22 = .ok (.aload_n 0, 1) := by decide +kernel
theorem d_Reader_atom_23 : decode prog_6_method_27_code 23 = .ok (.iconst 1, 1) := by decide +kernel
theorem d_Reader_atom_24 : decode prog_6_method_27_code 24 = .ok (.aload_n 0, 1) := by decide +kernel
theorem d_Reader_atom_25 : decode prog_6_method_27_code 25 = .ok (.getfield 37, 3) := by decide +kernel
theorem d_Reader_atom_28 : decode prog_6_method_27_code 28 = .ok (.invokevirtual 183, 3) := by decide +kernel
theorem d_Reader_atom_31 : decode prog_6_method_27_code 31 = .ok (.ireturn, 1) := by decide +kernel
theorem d_Reader_atom_32 : decode prog_6_method_27_code 32 = .ok (.aload_n 0, 1) := by decide +kernel
theorem d_Reader_atom_33 : decode prog_6_method_27_code 33 = .ok (.getfield 31, 3) := by decide +kernel
theorem d_Reader_atom_36 : decode prog_6_method_27_code 36 = .ok (.ldc 179, 2) := by decide +kernel
theorem d_Reader_atom_38 : decode prog_6_method_27_code 38 = .ok (.if_icmp .ne 10, 3) := by decide +kernel
theorem d_Reader_atom_41 : decode prog_6_method_27_code 41 = .ok (.aload_n 0, 1) := by decide +kernel
theorem d_Reader_atom_42 : decode prog_6_method_27_code 42 = .ok (.iconst 4, 1) := by decide +kernel
theorem d_Reader_atom_43 : decode prog_6_method_27_code 43 = .ok (.iconst 0, 1) := by decide +kernel
theorem d_Reader_atom_44 : decode prog_6_method_27_code 44 = .ok (.invokevirtual 183, 3) := by decide +kernel
theorem d_Reader_atom_47 : decode prog_6_method_27_code 47 = .ok (.ireturn, 1) := by decide +kernel
theorem d_Reader_atom_48 : decode prog_6_method_27_code 48 = .ok (.aload_n 0, 1) := by decide +kernel
theorem d_Reader_atom_49 : decode prog_6_method_27_code 49 = .ok (.aload_n 0, 1) := by decide +kernel
theorem d_Reader_atom_50 : decode prog_6_method_27_code 50 = .ok (.getfield 37, 3) := by decide +kernel
theorem d_Reader_atom_53 : decode prog_6_method_27_code 53 = .ok (.invokevirtual 187, 3) := by decide +kernel
theorem d_Reader_atom_56 : decode prog_6_method_27_code 56 = .ok (.istore_n 1, 1) := by decide +kernel
theorem d_Reader_atom_57 : decode prog_6_method_27_code 57 = .ok (.aload_n 0, 1) := by decide +kernel
theorem d_Reader_atom_58 : decode prog_6_method_27_code 58 = .ok (.getfield 12, 3) := by decide +kernel
theorem d_Reader_atom_61 : decode prog_6_method_27_code 61 = .ok (.getfield 106, 3) := by decide +kernel
theorem d_Reader_atom_64 : decode prog_6_method_27_code 64 = .ok (.aload_n 0, 1) := by decide +kernel
theorem d_Reader_atom_65 : decode prog_6_method_27_code 65 = .ok (.getfield 37, 3) := by decide +kernel
theorem d_Reader_atom_68 : decode prog_6_method_27_code 68 = .ok (.invokevirtual 109, 3) := by decide +kernel
theorem d_Reader_atom_71 : decode prog_6_method_27_code 71 = .ok (.istore_n 2, 1) := by decide +kernel
theorem d_Reader_atom_72 : decode prog_6_method_27_code 72 = .ok (.aload_n 0, 1) := by decide +kernel
theorem d_Reader_atom_73 : decode prog_6_method_27_code 73 = .ok (.getfield 31, 3) := by decide +kernel
theorem d_Reader_atom_76 : decode prog_6_method_27_code 76 = .ok (.iconst 2, 1) := by decide +kernel
theorem d_Reader_atom_77 : decode prog_6_method_27_code 77 = .ok (.if_icmp .ne 15, 3) := by decide +kernel
theorem d_Reader_atom_80 : decode prog_6_method_27_code 80 = .ok (.iload_n 1, 1) := by decide +kernel
theorem d_Reader_atom_81 : decode prog_6_method_27_code 81 = .ok (.iconst (-1), 1) := by decide +kernel
theorem d_Reader_atom_82 : decode prog_6_method_27_code 82 = .ok (.if_icmp .eq 10, 3) := by decide +kernel
theorem d_Reader_atom_85 : decode prog_6_method_27_code 85 = .ok (.aload_n 0, 1) := by decide +kernel
theorem d_Reader_atom_86 : decode prog_6_method_27_code 86 = .ok (.iconst 2, 1) := by decide +kernel
theorem d_Reader_atom_87 : decode prog_6_method_27_code 87 = .ok (.iload_n 1, 1) := by decide +kernel
theorem d_Reader_atom_88 : decode prog_6_method_27_code 88 = .ok (.invokevirtual 183, 3) := by decide +kernel
theorem d_Reader_atom_91 : decode prog_6_method_27_code 91 = .ok (.ireturn, 1) := by decide +kernel
theorem d_Reader_atom_92 : decode prog_6_method_27_code 92 = .ok (.aload_n 0, 1) := by decide +kernel
theorem d_Reader_atom_93 : decode prog_6_method_27_code 93 = .ok (.getfield 31, 3) := by decide +kernel
theorem d_Reader_atom_96 : decode prog_6_method_27_code 96 = .ok (.iconst 2, 1) := by decide +kernel
theorem d_Reader_atom_97 : decode prog_6_method_27_code 97 = .ok (.if_icmp .ne 15, 3) := by decide +kernel
theorem d_Reader_atom_100 : decode prog_6_method_27_code 100 = .ok (.iload_n 2, 1) := by decide +kernel
theorem d_Reader_atom_101 : decode prog_6_method_27_code 101 = .ok (.iconst (-1), 1) := by decide +kernel
theorem d_Reader_atom_102 : decode prog_6_method_27_code 102 = .ok (.if_icmp .eq 10, 3) := by decide +kernel
theorem d_Reader_atom_105 : decode prog_6_method_27_code 105 = .ok (.aload_n 0, 1) := by decide +kernel
theorem d_Reader_atom_106 : decode prog_6_method_27_code 106 = .ok (.iconst 3, 1) := by decide +kernel
theorem d_Reader_atom_107 : decode prog_6_method_27_code 107 = .ok (.iload_n 2, 1) := by decide +kernel
theorem d_Reader_atom_108 : decode prog_6_method_27_code 108 = .ok (.invokevirtual 183, 3) := by decide +kernel
theorem d_Reader_atom_111 : decode prog_6_method_27_code 111 = .ok (.ireturn, 1) := by decide +kernel
theorem d_Reader_atom_112 : decode prog_6_method_27_code 112 = .ok (.aload_n 0, 1) := by decide +kernel
theorem d_Reader_atom_113 : decode prog_6_method_27_code 113 = .ok (.invokevirtual 78, 3) := by decide +kernel
theorem d_Reader_atom_116 : decode prog_6_method_27_code 116 = .ok (.iconst (-1), 1) := by decide +kernel
theorem d_Reader_atom_117 : decode prog_6_method_27_code 117 = .ok (.ireturn, 1) := by decide +kernel
def fm_Reader_atom_j112 (rc_inner : fa_W → Option (Int × fa_W)) (w : fa_W) : Option (Int × fa_W) :=
  fa_let (fm_Reader_fail w) fun w11 =>
  some ((-1), w11)
set_option maxHeartbeats 4000000 in
set_option maxRecDepth 100000 in
theorem c_Reader_atom_j112 {p : Program} {l : Launch} {e : Env} {s : State} {m : MethodId} {args : Array Value} {below : List Frame} {meth : Method} {c : Code} {hh : Nat} {D : va_G} {b : Nat} {aC : Nat → ClassId} {H0 : Heap} {N T : Nat} {dd : Nat} (X : fa_GX p s m args meth c prog_6_method_27_code 3 ((Option.some Jvm.ClassFile.FieldType.int)) y_Reader_atom.cls D b aC) (hle : 4 + dd + 1 ≤ hh) (hN : fa_NX ≤ N) (hT : fa_TX ≤ T) {r : Int × fa_W} (rc_inner : fa_W → Option (Int × fa_W)) (Rrc_inner : ∀ (w : fa_W) (r : Int × fa_W), rc_inner w = some r → fa_MC l D b aC H0 N T y_Reader_inner prog_6_method_29_code 2 ((Option.some Jvm.ClassFile.FieldType.int)) (4 + dd) [.ref (b + 7)] w (some (.int (fa_I r.1))) r.2) : ∀ (w : fa_W) (_ : fm_Reader_atom_j112 rc_inner w = some r), fa_GJ p l e (fa_rm hh) s m args below meth c 0 0 (MQ below (fa_Qc D b aC H0 N T (some (.int (fa_I r.1))) r.2) args s 0 0 (fun q => b ≤ q)) D b aC H0 N T 3 w 112 [(0, .ref (b + 7))] [] := by
  intro w hM
  unfold fm_Reader_atom_j112 at hM
  refine g_aload_n X 0 rfl d_Reader_atom_112 ?_
  obtain ⟨w11, e10⟩ : ∃ q, fm_Reader_fail w = q := ⟨_, rfl⟩
  have hM := fa_let_to hM e10.symm
  refine g_callV_v X ck_5 fo_7 (fa_xn fo_7 (by decide) hN) rfl mi_Reader_fail (c_Reader_fail hN hT w _ e10) wd_998 rfl (by omega) (st := []) (Nat.le_of_ble_eq_true rfl) rfl d_Reader_atom_113 ?_
  refine g_iconst X d_Reader_atom_116 ?_
  cases hM
  exact g_iret X d_Reader_atom_117
def fm_Reader_atom_j92 (rc_inner : fa_W → Option (Int × fa_W)) (x2 : Int) (w : fa_W) : Option (Int × fa_W) :=
  if fa_wr (w 7 4) = 2 then
  (if fa_wr x2 = (-1) then
  fm_Reader_atom_j112 rc_inner w
  else
  (fa_bd (fm_Reader_leaf 3 x2 w) fun v14 w15 =>
  some (v14, w15)))
  else
  fm_Reader_atom_j112 rc_inner w
set_option maxHeartbeats 4000000 in
set_option maxRecDepth 100000 in
theorem c_Reader_atom_j92 {p : Program} {l : Launch} {e : Env} {s : State} {m : MethodId} {args : Array Value} {below : List Frame} {meth : Method} {c : Code} {hh : Nat} {D : va_G} {b : Nat} {aC : Nat → ClassId} {H0 : Heap} {N T : Nat} {dd : Nat} (X : fa_GX p s m args meth c prog_6_method_27_code 3 ((Option.some Jvm.ClassFile.FieldType.int)) y_Reader_atom.cls D b aC) (hle : 4 + dd + 1 ≤ hh) (hN : fa_NX ≤ N) (hT : fa_TX ≤ T) {r : Int × fa_W} (rc_inner : fa_W → Option (Int × fa_W)) (Rrc_inner : ∀ (w : fa_W) (r : Int × fa_W), rc_inner w = some r → fa_MC l D b aC H0 N T y_Reader_inner prog_6_method_29_code 2 ((Option.some Jvm.ClassFile.FieldType.int)) (4 + dd) [.ref (b + 7)] w (some (.int (fa_I r.1))) r.2) : ∀ (x2 : Int) (w : fa_W) (_ : fm_Reader_atom_j92 rc_inner x2 w = some r), fa_GJ p l e (fa_rm hh) s m args below meth c 0 0 (MQ below (fa_Qc D b aC H0 N T (some (.int (fa_I r.1))) r.2) args s 0 0 (fun q => b ≤ q)) D b aC H0 N T 3 w 92 [(0, .ref (b + 7)), (2, .int (fa_I x2))] [] := by
  intro x2 w hM
  unfold fm_Reader_atom_j92 at hM
  refine g_aload_n X 0 rfl d_Reader_atom_92 ?_
  refine g_get X ck_5 fo_7 (fa_xn fo_7 (by decide) hN) 4 (by decide) wd_155 rfl (fa_fvI rfl) d_Reader_atom_93 ?_
  refine g_iconst X d_Reader_atom_96 ?_
  refine g_icmp_ne X 112 d_Reader_atom_97 (by decide) (fun hc9 => ?_) (fun hc9 => ?_)
  · have hM := fa_if_f hM hc9
    exact g_lv [0] rfl (c_Reader_atom_j112 X hle hN hT rc_inner Rrc_inner   _ hM)
  · have hM := fa_if_t hM hc9
    refine g_iload_n X 1 rfl d_Reader_atom_100 ?_
    refine g_iconst X d_Reader_atom_101 ?_
    refine g_icmp_eq X 112 d_Reader_atom_102 (by decide) (fun hc12 => ?_) (fun hc12 => ?_)
    · have hM := fa_if_t hM hc12
      exact g_lv [0] rfl (c_Reader_atom_j112 X hle hN hT rc_inner Rrc_inner   _ hM)
    · have hM := fa_if_f hM hc12
      refine g_aload_n X 0 rfl d_Reader_atom_105 ?_
      refine g_iconst X d_Reader_atom_106 ?_
      refine g_iload_n X 1 rfl d_Reader_atom_107 ?_
      obtain ⟨v14, w15, e13, hM⟩ := fa_obd hM
      refine g_callV_i X ck_5 fo_7 (fa_xn fo_7 (by decide) hN) rfl mi_Reader_leaf (c_Reader_leaf hN hT 3 x2 w _ e13) wd_1065 rfl (by omega) (st := []) (Nat.le_of_ble_eq_true rfl) rfl d_Reader_atom_108 ?_
      cases hM
      exact g_iret X d_Reader_atom_111
def fm_Reader_atom_b (rc_inner : fa_W → Option (Int × fa_W)) (w : fa_W) : Option (Int × fa_W) :=
  if fa_wr (w 7 4) = 40 then
  (fa_bd (rc_inner w) fun v27 w28 =>
  some (v27, w28))
  else
  (if fa_wr (w 7 4) = 1 then
  (fa_bd (fm_Reader_leaf 1 (w 7 6) w) fun v24 w25 =>
  some (v24, w25))
  else
  (if fa_wr (w 7 4) = 1684365668 then
  (fa_bd (fm_Reader_leaf 4 0 w) fun v21 w22 =>
  some (v21, w22))
  else
  ((fm_Reader_variableNamed (w 7 6) w).bind fun v5 =>
  fa_let (fr_find (fa_rf 8 8) (w 7 6) w) fun x2_7 =>
  if fa_wr (w 7 4) = 2 then
  (if fa_wr v5 = (-1) then
  fm_Reader_atom_j92 rc_inner x2_7 w
  else
  (fa_bd (fm_Reader_leaf 2 v5 w) fun v18 w19 =>
  some (v18, w19)))
  else
  fm_Reader_atom_j92 rc_inner x2_7 w)))
set_option maxHeartbeats 4000000 in
set_option maxRecDepth 100000 in
theorem c_Reader_atom_b {l : Launch} {D : va_G} {b : Nat} {aC : Nat → ClassId} {H0 : Heap} {N T : Nat} (hN : fa_NX ≤ N) (hT : fa_TX ≤ T) (dd : Nat) (rc_inner : fa_W → Option (Int × fa_W)) (Rrc_inner : ∀ (w : fa_W) (r : Int × fa_W), rc_inner w = some r → fa_MC l D b aC H0 N T y_Reader_inner prog_6_method_29_code 2 ((Option.some Jvm.ClassFile.FieldType.int)) (4 + dd) [.ref (b + 7)] w (some (.int (fa_I r.1))) r.2)  (w : fa_W) (r : Int × fa_W) (hM : fm_Reader_atom_b rc_inner w = some r) : fa_MC l D b aC H0 N T y_Reader_atom prog_6_method_27_code 3 ((Option.some Jvm.ClassFile.FieldType.int)) (4 + dd + 1) [.ref (b + 7)] w (some (.int (fa_I r.1))) r.2 := by
  refine fa_enter (lv := [(0, .ref (b + 7))]) (by decide +kernel) (Nat.le_of_ble_eq_true rfl) rfl (fun hh hle hnm X => ?_)
  unfold fm_Reader_atom_b at hM
  refine g_aload_n X 0 rfl d_Reader_atom_0 ?_
  refine g_get X ck_5 fo_7 (fa_xn fo_7 (by decide) hN) 4 (by decide) wd_155 rfl (fa_fvI rfl) d_Reader_atom_1 ?_
  refine g_bipush X (by decide) d_Reader_atom_4 ?_
  refine g_icmp_ne X 14 d_Reader_atom_6 (by decide) (fun hc1 => ?_) (fun hc1 => ?_)
  · have hM := fa_if_f hM hc1
    refine g_aload_n X 0 rfl d_Reader_atom_14 ?_
    refine g_get X ck_5 fo_7 (fa_xn fo_7 (by decide) hN) 4 (by decide) wd_155 rfl (fa_fvI rfl) d_Reader_atom_15 ?_
    refine g_iconst X d_Reader_atom_18 ?_
    refine g_icmp_ne X 32 d_Reader_atom_19 (by decide) (fun hc2 => ?_) (fun hc2 => ?_)
    · have hM := fa_if_f hM hc2
      refine g_aload_n X 0 rfl d_Reader_atom_32 ?_
      refine g_get X ck_5 fo_7 (fa_xn fo_7 (by decide) hN) 4 (by decide) wd_155 rfl (fa_fvI rfl) d_Reader_atom_33 ?_
      refine g_ldc X (n := 1684365668) wd_1069 (by decide) d_Reader_atom_36 ?_
      refine g_icmp_ne X 48 d_Reader_atom_38 (by decide) (fun hc3 => ?_) (fun hc3 => ?_)
      · have hM := fa_if_f hM hc3
        refine g_aload_n X 0 rfl d_Reader_atom_48 ?_
        refine g_aload_n X 0 rfl d_Reader_atom_49 ?_
        refine g_get X ck_5 fo_7 (fa_xn fo_7 (by decide) hN) 6 (by decide) wd_157 rfl (fa_fvI rfl) d_Reader_atom_50 ?_
        obtain ⟨v5, e4, hM⟩ := fa_ob hM
        refine g_callV_i X ck_5 fo_7 (fa_xn fo_7 (by decide) hN) rfl mi_Reader_variableNamed (c_Reader_variableNamed hN hT (w 7 6) w _ e4) wd_1070 rfl (by omega) (st := []) (Nat.le_of_ble_eq_true rfl) rfl d_Reader_atom_53 ?_
        refine g_istorec_n X [(1, .int (fa_I v5)), (0, .ref (b + 7))] d_Reader_atom_56 (by decide) rfl ?_
        refine g_aload_n X 1 rfl d_Reader_atom_57 ?_
        refine g_get X ck_5 fo_7 (fa_xn fo_7 (by decide) hN) 0 (by decide) wd_150 rfl (fr_7_0 rfl hT) d_Reader_atom_58 ?_
        refine g_getN X ck_4 fo_8 (fa_xn fo_8 (by decide) hN) 8 (by decide) wd_81 rfl (fa_fvR rfl (fa_xt fo_8 (by decide) hT 8)) d_Reader_atom_61 ?_
        refine g_aload_n X 1 rfl d_Reader_atom_64 ?_
        refine g_get X ck_5 fo_7 (fa_xn fo_7 (by decide) hN) 6 (by decide) wd_157 rfl (fa_fvI rfl) d_Reader_atom_65 ?_
        refine g_callV_i X ck_6 (fa_r4_8 _ fo_8) (fa_xn (fa_r4_8 _ fo_8) (by decide) hN) rfl mi_Row_placeOf (ct_Row_placeOf (fa_rf 8 8) (w 7 6) (fa_ro (fa_r4_8 _ fo_8) hN hT) w _ rfl) wd_1002 rfl (by omega) (st := []) (Nat.le_of_ble_eq_true rfl) rfl d_Reader_atom_68 ?_
        refine g_istore_n X (fun x2_7 => [(2, .int (fa_I x2_7)), (1, .int (fa_I v5)), (0, .ref (b + 7))]) d_Reader_atom_71 (by decide) (fun _ => rfl) (fun x2_7 ex2_7 => ?_)
        have hM := fa_let_to hM ex2_7
        refine g_aload_n X 2 rfl d_Reader_atom_72 ?_
        refine g_get X ck_5 fo_7 (fa_xn fo_7 (by decide) hN) 4 (by decide) wd_155 rfl (fa_fvI rfl) d_Reader_atom_73 ?_
        refine g_iconst X d_Reader_atom_76 ?_
        refine g_icmp_ne X 92 d_Reader_atom_77 (by decide) (fun hc8 => ?_) (fun hc8 => ?_)
        · have hM := fa_if_f hM hc8
          exact g_lv [2, 0] rfl (c_Reader_atom_j92 X hle hN hT rc_inner Rrc_inner   _ _ hM)
        · have hM := fa_if_t hM hc8
          refine g_iload_n X 1 rfl d_Reader_atom_80 ?_
          refine g_iconst X d_Reader_atom_81 ?_
          refine g_icmp_eq X 92 d_Reader_atom_82 (by decide) (fun hc16 => ?_) (fun hc16 => ?_)
          · have hM := fa_if_t hM hc16
            exact g_lv [2, 0] rfl (c_Reader_atom_j92 X hle hN hT rc_inner Rrc_inner   _ _ hM)
          · have hM := fa_if_f hM hc16
            refine g_aload_n X 2 rfl d_Reader_atom_85 ?_
            refine g_iconst X d_Reader_atom_86 ?_
            refine g_iload_n X 1 rfl d_Reader_atom_87 ?_
            obtain ⟨v18, w19, e17, hM⟩ := fa_obd hM
            refine g_callV_i X ck_5 fo_7 (fa_xn fo_7 (by decide) hN) rfl mi_Reader_leaf (c_Reader_leaf hN hT 2 v5 w _ e17) wd_1065 rfl (by omega) (st := []) (Nat.le_of_ble_eq_true rfl) rfl d_Reader_atom_88 ?_
            cases hM
            exact g_iret X d_Reader_atom_91
      · have hM := fa_if_t hM hc3
        refine g_aload_n X 0 rfl d_Reader_atom_41 ?_
        refine g_iconst X d_Reader_atom_42 ?_
        refine g_iconst X d_Reader_atom_43 ?_
        obtain ⟨v21, w22, e20, hM⟩ := fa_obd hM
        refine g_callV_i X ck_5 fo_7 (fa_xn fo_7 (by decide) hN) rfl mi_Reader_leaf (c_Reader_leaf hN hT 4 0 w _ e20) wd_1065 rfl (by omega) (st := []) (Nat.le_of_ble_eq_true rfl) rfl d_Reader_atom_44 ?_
        cases hM
        exact g_iret X d_Reader_atom_47
    · have hM := fa_if_t hM hc2
      refine g_aload_n X 0 rfl d_Reader_atom_22 ?_
      refine g_iconst X d_Reader_atom_23 ?_
      refine g_aload_n X 0 rfl d_Reader_atom_24 ?_
      refine g_get X ck_5 fo_7 (fa_xn fo_7 (by decide) hN) 6 (by decide) wd_157 rfl (fa_fvI rfl) d_Reader_atom_25 ?_
      obtain ⟨v24, w25, e23, hM⟩ := fa_obd hM
      refine g_callV_i X ck_5 fo_7 (fa_xn fo_7 (by decide) hN) rfl mi_Reader_leaf (c_Reader_leaf hN hT 1 (w 7 6) w _ e23) wd_1065 rfl (by omega) (st := []) (Nat.le_of_ble_eq_true rfl) rfl d_Reader_atom_28 ?_
      cases hM
      exact g_iret X d_Reader_atom_31
  · have hM := fa_if_t hM hc1
    refine g_aload_n X 0 rfl d_Reader_atom_9 ?_
    obtain ⟨v27, w28, e26, hM⟩ := fa_obd hM
    refine g_callV_i X ck_5 fo_7 (fa_xn fo_7 (by decide) hN) rfl mi_Reader_inner (Rrc_inner w _ e26) wd_1061 rfl (by omega) (st := []) (Nat.le_of_ble_eq_true rfl) rfl d_Reader_atom_10 ?_
    cases hM
    exact g_iret X d_Reader_atom_13
theorem d_Reader_inner_0 : decode prog_6_method_29_code 0 = .ok (.aload_n 0, 1) := by decide +kernel
theorem d_Reader_inner_1 : decode prog_6_method_29_code 1 = .ok (.invokevirtual 146, 3) := by decide +kernel
theorem d_Reader_inner_4 : decode prog_6_method_29_code 4 = .ok (.ifCond .ne 5, 3) := by decide +kernel
theorem d_Reader_inner_7 : decode prog_6_method_29_code 7 = .ok (.iconst (-1), 1) := by decide +kernel
theorem d_Reader_inner_8 : decode prog_6_method_29_code 8 = .ok (.ireturn, 1) := by decide +kernel
theorem d_Reader_inner_9 : decode prog_6_method_29_code 9 = .ok (.aload_n 0, 1) := by decide +kernel
theorem d_Reader_inner_10 : decode prog_6_method_29_code 10 = .ok (.invokevirtual 64, 3) := by decide +kernel
theorem d_Reader_inner_13 : decode prog_6_method_29_code 13 = .ok (.aload_n 0, 1) := by decide +kernel
theorem d_Reader_inner_14 : decode prog_6_method_29_code 14 = .ok (.invokevirtual 71, 3) := by decide +kernel
theorem d_Reader_inner_17 : decode prog_6_method_29_code 17 = .ok (.istore_n 1, 1) := by decide +kernel
theorem d_Reader_inner_18 : decode prog_6_method_29_code 18 = .ok (.aload_n 0, 1) := by decide +kernel
theorem d_Reader_inner_19 : decode prog_6_method_29_code 19 = .ok (.bipush 41, 2) := by decide +kernel
theorem d_Reader_inner_21 : decode prog_6_method_29_code 21 = .ok (.invokevirtual 118, 3) := by decide +kernel
theorem d_Reader_inner_24 : decode prog_6_method_29_code 24 = .ok (.aload_n 0, 1) := by decide +kernel
theorem d_Reader_inner_25 : decode prog_6_method_29_code 25 = .ok (.dup, 1) := by decide +kernel
theorem d_Reader_inner_26 : decode prog_6_method_29_code 26 = .ok (.getfield 43, 3) := by decide +kernel
theorem d_Reader_inner_29 : decode prog_6_method_29_code 29 = .ok (.iconst 1, 1) := by decide +kernel
theorem d_Reader_inner_30 : decode prog_6_method_29_code 30 = .ok (.isub, 1) := by decide +kernel
theorem d_Reader_inner_31 : decode prog_6_method_29_code 31 = .ok (.putfield 43, 3) := by decide +kernel
theorem d_Reader_inner_34 : decode prog_6_method_29_code 34 = .ok (.iload_n 1, 1) := by decide +kernel
theorem d_Reader_inner_35 : decode prog_6_method_29_code 35 = .ok (.ireturn, 1) := by decide +kernel
def fm_Reader_inner_b (rc_expression : fa_W → Option (Int × fa_W)) (w : fa_W) : Option (Int × fa_W) :=
  fa_l2 (fm_Reader_nest w) fun v2 w3 =>
  if v2 = true then
  ((fm_Reader_advance w3).bind fun w6 =>
  fa_bd (rc_expression w6) fun v8 w9 =>
  (fm_Reader_expect 41 w9).bind fun w11 =>
  fa_let (fa_st w11 7 8 ((w11 7 8) - 1)) fun w12 =>
  some (v8, w12))
  else
  some ((-1), w3)
set_option maxHeartbeats 4000000 in
set_option maxRecDepth 100000 in
theorem c_Reader_inner_b {l : Launch} {D : va_G} {b : Nat} {aC : Nat → ClassId} {H0 : Heap} {N T : Nat} (hN : fa_NX ≤ N) (hT : fa_TX ≤ T) (dd : Nat) (rc_expression : fa_W → Option (Int × fa_W)) (Rrc_expression : ∀ (w : fa_W) (r : Int × fa_W), rc_expression w = some r → fa_MC l D b aC H0 N T y_Reader_expression prog_6_method_17_code 1 ((Option.some Jvm.ClassFile.FieldType.int)) (4 + dd) [.ref (b + 7)] w (some (.int (fa_I r.1))) r.2)  (w : fa_W) (r : Int × fa_W) (hM : fm_Reader_inner_b rc_expression w = some r) : fa_MC l D b aC H0 N T y_Reader_inner prog_6_method_29_code 2 ((Option.some Jvm.ClassFile.FieldType.int)) (4 + dd + 1) [.ref (b + 7)] w (some (.int (fa_I r.1))) r.2 := by
  refine fa_enter (lv := [(0, .ref (b + 7))]) (by decide +kernel) (Nat.le_of_ble_eq_true rfl) rfl (fun hh hle hnm X => ?_)
  unfold fm_Reader_inner_b at hM
  refine g_aload_n X 0 rfl d_Reader_inner_0 ?_
  obtain ⟨⟨v2, w3⟩, e1⟩ : ∃ q, fm_Reader_nest w = q := ⟨_, rfl⟩
  have hM := fa_l2_e hM e1
  refine g_callV_i X ck_5 fo_7 (fa_xn fo_7 (by decide) hN) rfl mi_Reader_nest (c_Reader_nest hN hT w _ e1) wd_1025 rfl (by omega) (st := []) (Nat.le_of_ble_eq_true rfl) rfl d_Reader_inner_1 ?_
  refine g_ifb_ne X 9 d_Reader_inner_4 (by decide) (fun hc4 => ?_) (fun hc4 => ?_)
  · have hM := fa_ifb_t hM hc4
    refine g_aload_n X 0 rfl d_Reader_inner_9 ?_
    obtain ⟨w6, e5, hM⟩ := fa_ob hM
    refine g_callV_v X ck_5 fo_7 (fa_xn fo_7 (by decide) hN) rfl mi_Reader_advance (c_Reader_advance hN hT w3 _ e5) wd_973 rfl (by omega) (st := []) (Nat.le_of_ble_eq_true rfl) rfl d_Reader_inner_10 ?_
    refine g_aload_n X 0 rfl d_Reader_inner_13 ?_
    obtain ⟨v8, w9, e7, hM⟩ := fa_obd hM
    refine g_callV_i X ck_5 fo_7 (fa_xn fo_7 (by decide) hN) rfl mi_Reader_expression (Rrc_expression w6 _ e7) wd_1013 rfl (by omega) (st := []) (Nat.le_of_ble_eq_true rfl) rfl d_Reader_inner_14 ?_
    refine g_istorec_n X [(1, .int (fa_I v8)), (0, .ref (b + 7))] d_Reader_inner_17 (by decide) rfl ?_
    refine g_aload_n X 1 rfl d_Reader_inner_18 ?_
    refine g_bipush X (by decide) d_Reader_inner_19 ?_
    obtain ⟨w11, e10, hM⟩ := fa_ob hM
    refine g_callV_v X ck_5 fo_7 (fa_xn fo_7 (by decide) hN) rfl mi_Reader_expect (c_Reader_expect hN hT 41 w9 _ e10) wd_1009 rfl (by omega) (st := []) (Nat.le_of_ble_eq_true rfl) rfl d_Reader_inner_21 ?_
    refine g_aload_n X 1 rfl d_Reader_inner_24 ?_
    refine g_dup X rfl d_Reader_inner_25 ?_
    refine g_get X ck_5 fo_7 (fa_xn fo_7 (by decide) hN) 8 (by decide) wd_159 rfl (fa_fvI rfl) d_Reader_inner_26 ?_
    refine g_iconst X d_Reader_inner_29 ?_
    refine g_isub X d_Reader_inner_30 ?_
    refine g_put X ck_5 fo_7 (fa_xn fo_7 (by decide) hN) 8 (z := ((w11 7 8) - 1)) (by decide) wd_159 rfl (fa_fvI' rfl) rfl rfl rfl d_Reader_inner_31 (fun w12 ew12 => ?_)
    have hM := fa_let_to hM ew12
    refine g_iload_n X 0 rfl d_Reader_inner_34 ?_
    cases hM
    exact g_iret X d_Reader_inner_35
  · have hM := fa_ifb_f hM hc4
    refine g_iconst X d_Reader_inner_7 ?_
    cases hM
    exact g_iret X d_Reader_inner_8
def fm_Rparse_t : Nat → Nat → fa_W → Option (Int × fa_W)
  | 0, _, _ => none
  | n + 1, t, w => match t with
    | 0 => fm_Reader_expression_b (fun w9 => fm_Rparse_t n 1 w9) (fun w9 => fm_Rparse_t n 2 w9) (fun w9 => fm_Rparse_t n 3 w9) (fun w9 => fm_Rparse_t n 4 w9) w
    | 1 => fm_Reader_lambda_b (fun w9 => fm_Rparse_t n 0 w9) w
    | 2 => fm_Reader_choice_b (fun w9 => fm_Rparse_t n 0 w9) w
    | 3 => fm_Reader_let_b (fun w9 => fm_Rparse_t n 0 w9) w
    | 4 => fm_Reader_test_b (fun w9 => fm_Rparse_t n 5 w9) w
    | 5 => fm_Reader_sum_b (fun w9 => fm_Rparse_t n 6 w9) w
    | 6 => fm_Reader_product_b (fun w9 => fm_Rparse_t n 7 w9) w
    | 7 => fm_Reader_chain_b (fun w9 => fm_Rparse_t n 8 w9) w
    | 8 => fm_Reader_atom_b (fun w9 => fm_Rparse_t n 9 w9) w
    | 9 => fm_Reader_inner_b (fun w9 => fm_Rparse_t n 0 w9) w
    | _ => none
def fm_Reader_expression (n : Nat)  (w : fa_W) : Option (Int × fa_W) := fm_Rparse_t n 0 w
def fm_Reader_lambda (n : Nat)  (w : fa_W) : Option (Int × fa_W) := fm_Rparse_t n 1 w
def fm_Reader_choice (n : Nat)  (w : fa_W) : Option (Int × fa_W) := fm_Rparse_t n 2 w
def fm_Reader_let (n : Nat)  (w : fa_W) : Option (Int × fa_W) := fm_Rparse_t n 3 w
def fm_Reader_test (n : Nat)  (w : fa_W) : Option (Int × fa_W) := fm_Rparse_t n 4 w
def fm_Reader_sum (n : Nat)  (w : fa_W) : Option (Int × fa_W) := fm_Rparse_t n 5 w
def fm_Reader_product (n : Nat)  (w : fa_W) : Option (Int × fa_W) := fm_Rparse_t n 6 w
def fm_Reader_chain (n : Nat)  (w : fa_W) : Option (Int × fa_W) := fm_Rparse_t n 7 w
def fm_Reader_atom (n : Nat)  (w : fa_W) : Option (Int × fa_W) := fm_Rparse_t n 8 w
def fm_Reader_inner (n : Nat)  (w : fa_W) : Option (Int × fa_W) := fm_Rparse_t n 9 w
set_option maxHeartbeats 4000000 in
set_option maxRecDepth 100000 in
theorem c_Rparse_t {l : Launch} {D : va_G} {b : Nat} {aC : Nat → ClassId} {H0 : Heap} {N T : Nat} (hN : fa_NX ≤ N) (hT : fa_TX ≤ T) : ∀ (n : Nat), (∀  (w : fa_W) (r : Int × fa_W), fm_Reader_expression n w = some r → fa_MC l D b aC H0 N T y_Reader_expression prog_6_method_17_code 1 ((Option.some Jvm.ClassFile.FieldType.int)) (4 + n) [.ref (b + 7)] w (some (.int (fa_I r.1))) r.2) ∧ (∀  (w : fa_W) (r : Int × fa_W), fm_Reader_lambda n w = some r → fa_MC l D b aC H0 N T y_Reader_lambda prog_6_method_18_code 4 ((Option.some Jvm.ClassFile.FieldType.int)) (4 + n) [.ref (b + 7)] w (some (.int (fa_I r.1))) r.2) ∧ (∀  (w : fa_W) (r : Int × fa_W), fm_Reader_choice n w = some r → fa_MC l D b aC H0 N T y_Reader_choice prog_6_method_19_code 4 ((Option.some Jvm.ClassFile.FieldType.int)) (4 + n) [.ref (b + 7)] w (some (.int (fa_I r.1))) r.2) ∧ (∀  (w : fa_W) (r : Int × fa_W), fm_Reader_let n w = some r → fa_MC l D b aC H0 N T y_Reader_let prog_6_method_20_code 4 ((Option.some Jvm.ClassFile.FieldType.int)) (4 + n) [.ref (b + 7)] w (some (.int (fa_I r.1))) r.2) ∧ (∀  (w : fa_W) (r : Int × fa_W), fm_Reader_test n w = some r → fa_MC l D b aC H0 N T y_Reader_test prog_6_method_21_code 3 ((Option.some Jvm.ClassFile.FieldType.int)) (4 + n) [.ref (b + 7)] w (some (.int (fa_I r.1))) r.2) ∧ (∀  (w : fa_W) (r : Int × fa_W), fm_Reader_sum n w = some r → fa_MC l D b aC H0 N T y_Reader_sum prog_6_method_22_code 5 ((Option.some Jvm.ClassFile.FieldType.int)) (4 + n) [.ref (b + 7)] w (some (.int (fa_I r.1))) r.2) ∧ (∀  (w : fa_W) (r : Int × fa_W), fm_Reader_product n w = some r → fa_MC l D b aC H0 N T y_Reader_product prog_6_method_23_code 5 ((Option.some Jvm.ClassFile.FieldType.int)) (4 + n) [.ref (b + 7)] w (some (.int (fa_I r.1))) r.2) ∧ (∀  (w : fa_W) (r : Int × fa_W), fm_Reader_chain n w = some r → fa_MC l D b aC H0 N T y_Reader_chain prog_6_method_25_code 5 ((Option.some Jvm.ClassFile.FieldType.int)) (4 + n) [.ref (b + 7)] w (some (.int (fa_I r.1))) r.2) ∧ (∀  (w : fa_W) (r : Int × fa_W), fm_Reader_atom n w = some r → fa_MC l D b aC H0 N T y_Reader_atom prog_6_method_27_code 3 ((Option.some Jvm.ClassFile.FieldType.int)) (4 + n) [.ref (b + 7)] w (some (.int (fa_I r.1))) r.2) ∧ (∀  (w : fa_W) (r : Int × fa_W), fm_Reader_inner n w = some r → fa_MC l D b aC H0 N T y_Reader_inner prog_6_method_29_code 2 ((Option.some Jvm.ClassFile.FieldType.int)) (4 + n) [.ref (b + 7)] w (some (.int (fa_I r.1))) r.2) := by
  intro n
  induction n with
  | zero =>
    refine ⟨?_, ?_, ?_, ?_, ?_, ?_, ?_, ?_, ?_, ?_⟩ <;> (intros; rename_i hM; exact fa_no hM)
  | succ n ih =>
    obtain ⟨i0, i1, i2, i3, i4, i5, i6, i7, i8, i9⟩ := ih
    refine ⟨?_, ?_, ?_, ?_, ?_, ?_, ?_, ?_, ?_, ?_⟩
    · intro w r hM; exact c_Reader_expression_b hN hT n _ i1 _ i2 _ i3 _ i4 w r hM
    · intro w r hM; exact c_Reader_lambda_b hN hT n _ i0 w r hM
    · intro w r hM; exact c_Reader_choice_b hN hT n _ i0 w r hM
    · intro w r hM; exact c_Reader_let_b hN hT n _ i0 w r hM
    · intro w r hM; exact c_Reader_test_b hN hT n _ i5 w r hM
    · intro w r hM; exact c_Reader_sum_b hN hT n _ i6 w r hM
    · intro w r hM; exact c_Reader_product_b hN hT n _ i7 w r hM
    · intro w r hM; exact c_Reader_chain_b hN hT n _ i8 w r hM
    · intro w r hM; exact c_Reader_atom_b hN hT n _ i9 w r hM
    · intro w r hM; exact c_Reader_inner_b hN hT n _ i0 w r hM
theorem c_Reader_expression {l : Launch} {D : va_G} {b : Nat} {aC : Nat → ClassId} {H0 : Heap} {N T : Nat} (hN : fa_NX ≤ N) (hT : fa_TX ≤ T) (n : Nat)  (w : fa_W) (r : Int × fa_W) (hM : fm_Reader_expression n w = some r) : fa_MC l D b aC H0 N T y_Reader_expression prog_6_method_17_code 1 ((Option.some Jvm.ClassFile.FieldType.int)) (4 + n) [.ref (b + 7)] w (some (.int (fa_I r.1))) r.2 := (c_Rparse_t hN hT n).1 w r hM
theorem c_Reader_lambda {l : Launch} {D : va_G} {b : Nat} {aC : Nat → ClassId} {H0 : Heap} {N T : Nat} (hN : fa_NX ≤ N) (hT : fa_TX ≤ T) (n : Nat)  (w : fa_W) (r : Int × fa_W) (hM : fm_Reader_lambda n w = some r) : fa_MC l D b aC H0 N T y_Reader_lambda prog_6_method_18_code 4 ((Option.some Jvm.ClassFile.FieldType.int)) (4 + n) [.ref (b + 7)] w (some (.int (fa_I r.1))) r.2 := (c_Rparse_t hN hT n).2.1 w r hM
theorem c_Reader_choice {l : Launch} {D : va_G} {b : Nat} {aC : Nat → ClassId} {H0 : Heap} {N T : Nat} (hN : fa_NX ≤ N) (hT : fa_TX ≤ T) (n : Nat)  (w : fa_W) (r : Int × fa_W) (hM : fm_Reader_choice n w = some r) : fa_MC l D b aC H0 N T y_Reader_choice prog_6_method_19_code 4 ((Option.some Jvm.ClassFile.FieldType.int)) (4 + n) [.ref (b + 7)] w (some (.int (fa_I r.1))) r.2 := (c_Rparse_t hN hT n).2.2.1 w r hM
theorem c_Reader_let {l : Launch} {D : va_G} {b : Nat} {aC : Nat → ClassId} {H0 : Heap} {N T : Nat} (hN : fa_NX ≤ N) (hT : fa_TX ≤ T) (n : Nat)  (w : fa_W) (r : Int × fa_W) (hM : fm_Reader_let n w = some r) : fa_MC l D b aC H0 N T y_Reader_let prog_6_method_20_code 4 ((Option.some Jvm.ClassFile.FieldType.int)) (4 + n) [.ref (b + 7)] w (some (.int (fa_I r.1))) r.2 := (c_Rparse_t hN hT n).2.2.2.1 w r hM
theorem c_Reader_test {l : Launch} {D : va_G} {b : Nat} {aC : Nat → ClassId} {H0 : Heap} {N T : Nat} (hN : fa_NX ≤ N) (hT : fa_TX ≤ T) (n : Nat)  (w : fa_W) (r : Int × fa_W) (hM : fm_Reader_test n w = some r) : fa_MC l D b aC H0 N T y_Reader_test prog_6_method_21_code 3 ((Option.some Jvm.ClassFile.FieldType.int)) (4 + n) [.ref (b + 7)] w (some (.int (fa_I r.1))) r.2 := (c_Rparse_t hN hT n).2.2.2.2.1 w r hM
theorem c_Reader_sum {l : Launch} {D : va_G} {b : Nat} {aC : Nat → ClassId} {H0 : Heap} {N T : Nat} (hN : fa_NX ≤ N) (hT : fa_TX ≤ T) (n : Nat)  (w : fa_W) (r : Int × fa_W) (hM : fm_Reader_sum n w = some r) : fa_MC l D b aC H0 N T y_Reader_sum prog_6_method_22_code 5 ((Option.some Jvm.ClassFile.FieldType.int)) (4 + n) [.ref (b + 7)] w (some (.int (fa_I r.1))) r.2 := (c_Rparse_t hN hT n).2.2.2.2.2.1 w r hM
theorem c_Reader_product {l : Launch} {D : va_G} {b : Nat} {aC : Nat → ClassId} {H0 : Heap} {N T : Nat} (hN : fa_NX ≤ N) (hT : fa_TX ≤ T) (n : Nat)  (w : fa_W) (r : Int × fa_W) (hM : fm_Reader_product n w = some r) : fa_MC l D b aC H0 N T y_Reader_product prog_6_method_23_code 5 ((Option.some Jvm.ClassFile.FieldType.int)) (4 + n) [.ref (b + 7)] w (some (.int (fa_I r.1))) r.2 := (c_Rparse_t hN hT n).2.2.2.2.2.2.1 w r hM
theorem c_Reader_chain {l : Launch} {D : va_G} {b : Nat} {aC : Nat → ClassId} {H0 : Heap} {N T : Nat} (hN : fa_NX ≤ N) (hT : fa_TX ≤ T) (n : Nat)  (w : fa_W) (r : Int × fa_W) (hM : fm_Reader_chain n w = some r) : fa_MC l D b aC H0 N T y_Reader_chain prog_6_method_25_code 5 ((Option.some Jvm.ClassFile.FieldType.int)) (4 + n) [.ref (b + 7)] w (some (.int (fa_I r.1))) r.2 := (c_Rparse_t hN hT n).2.2.2.2.2.2.2.1 w r hM
theorem c_Reader_atom {l : Launch} {D : va_G} {b : Nat} {aC : Nat → ClassId} {H0 : Heap} {N T : Nat} (hN : fa_NX ≤ N) (hT : fa_TX ≤ T) (n : Nat)  (w : fa_W) (r : Int × fa_W) (hM : fm_Reader_atom n w = some r) : fa_MC l D b aC H0 N T y_Reader_atom prog_6_method_27_code 3 ((Option.some Jvm.ClassFile.FieldType.int)) (4 + n) [.ref (b + 7)] w (some (.int (fa_I r.1))) r.2 := (c_Rparse_t hN hT n).2.2.2.2.2.2.2.2.1 w r hM
theorem c_Reader_inner {l : Launch} {D : va_G} {b : Nat} {aC : Nat → ClassId} {H0 : Heap} {N T : Nat} (hN : fa_NX ≤ N) (hT : fa_TX ≤ T) (n : Nat)  (w : fa_W) (r : Int × fa_W) (hM : fm_Reader_inner n w = some r) : fa_MC l D b aC H0 N T y_Reader_inner prog_6_method_29_code 2 ((Option.some Jvm.ClassFile.FieldType.int)) (4 + n) [.ref (b + 7)] w (some (.int (fa_I r.1))) r.2 := (c_Rparse_t hN hT n).2.2.2.2.2.2.2.2.2 w r hM
theorem d_Reader_global_0 : decode prog_6_method_15_code 0 = .ok (.aload_n 0, 1) := by decide +kernel
theorem d_Reader_global_1 : decode prog_6_method_15_code 1 = .ok (.getfield 12, 3) := by decide +kernel
theorem d_Reader_global_4 : decode prog_6_method_15_code 4 = .ok (.getfield 81, 3) := by decide +kernel
theorem d_Reader_global_7 : decode prog_6_method_15_code 7 = .ok (.istore_n 1, 1) := by decide +kernel
theorem d_Reader_global_8 : decode prog_6_method_15_code 8 = .ok (.iload_n 1, 1) := by decide +kernel
theorem d_Reader_global_9 : decode prog_6_method_15_code 9 = .ok (.bipush 6, 2) := by decide +kernel
theorem d_Reader_global_11 : decode prog_6_method_15_code 11 = .ok (.if_icmp .lt 8, 3) := by decide +kernel
theorem d_Reader_global_14 : decode prog_6_method_15_code 14 = .ok (.aload_n 0, 1) := by decide +kernel
theorem d_Reader_global_15 : decode prog_6_method_15_code 15 = .ok (.invokevirtual 78, 3) := by decide +kernel
theorem d_Reader_global_18 : decode prog_6_method_15_code 18 = .ok (.return_, 1) := by decide +kernel
theorem d_Reader_global_19 : decode prog_6_method_15_code 19 = .ok (.aload_n 0, 1) := by decide +kernel
theorem d_Reader_global_20 : decode prog_6_method_15_code 20 = .ok (.invokevirtual 64, 3) := by decide +kernel
theorem d_Reader_global_23 : decode prog_6_method_15_code 23 = .ok (.aload_n 0, 1) := by decide +kernel
theorem d_Reader_global_24 : decode prog_6_method_15_code 24 = .ok (.getfield 31, 3) := by decide +kernel
theorem d_Reader_global_27 : decode prog_6_method_15_code 27 = .ok (.iconst 2, 1) := by decide +kernel
theorem d_Reader_global_28 : decode prog_6_method_15_code 28 = .ok (.if_icmp .ne 21, 3) := by decide +kernel
theorem d_Reader_global_31 : decode prog_6_method_15_code 31 = .ok (.aload_n 0, 1) := by decide +kernel
theorem d_Reader_global_32 : decode prog_6_method_15_code 32 = .ok (.getfield 12, 3) := by decide +kernel
theorem d_Reader_global_35 : decode prog_6_method_15_code 35 = .ok (.getfield 106, 3) := by decide +kernel
theorem d_Reader_global_38 : decode prog_6_method_15_code 38 = .ok (.aload_n 0, 1) := by decide +kernel
theorem d_Reader_global_39 : decode prog_6_method_15_code 39 = .ok (.getfield 37, 3) := by decide +kernel
theorem d_Reader_global_42 : decode prog_6_method_15_code 42 = .ok (.invokevirtual 109, 3) := by decide +kernel
theorem d_Reader_global_45 : decode prog_6_method_15_code 45 = .ok (.iconst (-1), 1) := by decide +kernel
theorem d_Reader_global_46 : decode prog_6_method_15_code 46 = .ok (.if_icmp .eq 8, 3) := by decide +kernel
theorem d_Reader_global_49 : decode prog_6_method_15_code 49 = .ok (.aload_n 0, 1) := by decide +kernel
theorem d_Reader_global_50 : decode prog_6_method_15_code 50 = .ok (.invokevirtual 78, 3) := by decide +kernel
theorem d_Reader_global_53 : decode prog_6_method_15_code 53 = .ok (.return_, 1) := by decide +kernel
theorem d_Reader_global_54 : decode prog_6_method_15_code 54 = .ok (.aload_n 0, 1) := by decide +kernel
theorem d_Reader_global_55 : decode prog_6_method_15_code 55 = .ok (.getfield 12, 3) := by decide +kernel
theorem d_Reader_global_58 : decode prog_6_method_15_code 58 = .ok (.getfield 106, 3) := by decide +kernel
theorem d_Reader_global_61 : decode prog_6_method_15_code 61 = .ok (.aload_n 0, 1) := by decide +kernel
theorem d_Reader_global_62 : decode prog_6_method_15_code 62 = .ok (.getfield 37, 3) := by decide +kernel
theorem d_Reader_global_65 : decode prog_6_method_15_code 65 = .ok (.invokevirtual 112, 3) := by decide +kernel
theorem d_Reader_global_68 : decode prog_6_method_15_code 68 = .ok (.aload_n 0, 1) := by decide +kernel
theorem d_Reader_global_69 : decode prog_6_method_15_code 69 = .ok (.getfield 12, 3) := by decide +kernel
theorem d_Reader_global_72 : decode prog_6_method_15_code 72 = .ok (.dup, 1) := by decide +kernel
theorem d_Reader_global_73 : decode prog_6_method_15_code 73 = .ok (.getfield 81, 3) := by decide +kernel
theorem d_Reader_global_76 : decode prog_6_method_15_code 76 = .ok (.iconst 1, 1) := by decide +kernel
theorem d_Reader_global_77 : decode prog_6_method_15_code 77 = .ok (.iadd, 1) := by decide +kernel
theorem d_Reader_global_78 : decode prog_6_method_15_code 78 = .ok (.putfield 81, 3) := by decide +kernel
theorem d_Reader_global_81 : decode prog_6_method_15_code 81 = .ok (.aload_n 0, 1) := by decide +kernel
theorem d_Reader_global_82 : decode prog_6_method_15_code 82 = .ok (.invokevirtual 64, 3) := by decide +kernel
theorem d_Reader_global_85 : decode prog_6_method_15_code 85 = .ok (.aload_n 0, 1) := by decide +kernel
theorem d_Reader_global_86 : decode prog_6_method_15_code 86 = .ok (.iload_n 1, 1) := by decide +kernel
theorem d_Reader_global_87 : decode prog_6_method_15_code 87 = .ok (.putfield 55, 3) := by decide +kernel
theorem d_Reader_global_90 : decode prog_6_method_15_code 90 = .ok (.aload_n 0, 1) := by decide +kernel
theorem d_Reader_global_91 : decode prog_6_method_15_code 91 = .ok (.iload_n 1, 1) := by decide +kernel
theorem d_Reader_global_92 : decode prog_6_method_15_code 92 = .ok (.invokevirtual 115, 3) := by decide +kernel
theorem d_Reader_global_95 : decode prog_6_method_15_code 95 = .ok (.aload_n 0, 1) := by decide +kernel
theorem d_Reader_global_96 : decode prog_6_method_15_code 96 = .ok (.getfield 23, 3) := by decide +kernel
theorem d_Reader_global_99 : decode prog_6_method_15_code 99 = .ok (.iload_n 1, 1) := by decide +kernel
theorem d_Reader_global_100 : decode prog_6_method_15_code 100 = .ok (.invokevirtual 112, 3) := by decide +kernel
theorem d_Reader_global_103 : decode prog_6_method_15_code 103 = .ok (.aload_n 0, 1) := by decide +kernel
theorem d_Reader_global_104 : decode prog_6_method_15_code 104 = .ok (.bipush 61, 2) := by decide +kernel
theorem d_Reader_global_106 : decode prog_6_method_15_code 106 = .ok (.invokevirtual 118, 3) := by decide +kernel
theorem d_Reader_global_109 : decode prog_6_method_15_code 109 = .ok (.aload_n 0, 1) := by decide +kernel
theorem d_Reader_global_110 : decode prog_6_method_15_code 110 = .ok (.getfield 12, 3) := by decide +kernel
theorem d_Reader_global_113 : decode prog_6_method_15_code 113 = .ok (.getfield 121, 3) := by decide +kernel
theorem d_Reader_global_116 : decode prog_6_method_15_code 116 = .ok (.iload_n 1, 1) := by decide +kernel
theorem d_Reader_global_117 : decode prog_6_method_15_code 117 = .ok (.aload_n 0, 1) := by decide +kernel
theorem d_Reader_global_118 : decode prog_6_method_15_code 118 = .ok (.invokevirtual 71, 3) := by decide +kernel
theorem d_Reader_global_121 : decode prog_6_method_15_code 121 = .ok (.invokevirtual 124, 3) := by decide +kernel
theorem d_Reader_global_124 : decode prog_6_method_15_code 124 = .ok (.aload_n 0, 1) := by decide +kernel
theorem d_Reader_global_125 : decode prog_6_method_15_code 125 = .ok (.bipush 59, 2) := by decide +kernel
theorem d_Reader_global_127 : decode prog_6_method_15_code 127 = .ok (.invokevirtual 118, 3) := by decide +kernel
theorem d_Reader_global_130 : decode prog_6_method_15_code 130 = .ok (.aload_n 0, 1) := by decide +kernel
theorem d_Reader_global_131 : decode prog_6_method_15_code 131 = .ok (.getfield 23, 3) := by decide +kernel
theorem d_Reader_global_134 : decode prog_6_method_15_code 134 = .ok (.invokevirtual 85, 3) := by decide +kernel
theorem d_Reader_global_137 : decode prog_6_method_15_code 137 = .ok (.aload_n 0, 1) := by decide +kernel
theorem d_Reader_global_138 : decode prog_6_method_15_code 138 = .ok (.iconst (-1), 1) := by decide +kernel
theorem d_Reader_global_139 : decode prog_6_method_15_code 139 = .ok (.putfield 55, 3) := by decide +kernel
theorem d_Reader_global_142 : decode prog_6_method_15_code 142 = .ok (.return_, 1) := by decide +kernel
def fm_Reader_global_j49 (w : fa_W) : Option fa_W :=
  fa_let (fm_Reader_fail w) fun w7 =>
  some w7
set_option maxHeartbeats 4000000 in
set_option maxRecDepth 100000 in
theorem c_Reader_global_j49 {p : Program} {l : Launch} {e : Env} {s : State} {m : MethodId} {args : Array Value} {below : List Frame} {meth : Method} {c : Code} {hh : Nat} {D : va_G} {b : Nat} {aC : Nat → ClassId} {H0 : Heap} {N T : Nat} (X : fa_GX p s m args meth c prog_6_method_15_code 2 ((Option.none : Option Jvm.ClassFile.FieldType)) y_Reader_global.cls D b aC) (hle : 905 ≤ hh) (hN : fa_NX ≤ N) (hT : fa_TX ≤ T) {r : fa_W}  : ∀ (w : fa_W) (_ : fm_Reader_global_j49 w = some r), fa_GJ p l e (fa_rm hh) s m args below meth c 0 0 (MQ below (fa_Qc D b aC H0 N T (none) r) args s 0 0 (fun q => b ≤ q)) D b aC H0 N T 2 w 49 [(0, .ref (b + 7))] [] := by
  intro w hM
  unfold fm_Reader_global_j49 at hM
  refine g_aload_n X 0 rfl d_Reader_global_49 ?_
  obtain ⟨w7, e6⟩ : ∃ q, fm_Reader_fail w = q := ⟨_, rfl⟩
  have hM := fa_let_to hM e6.symm
  refine g_callV_v X ck_5 fo_7 (fa_xn fo_7 (by decide) hN) rfl mi_Reader_fail (c_Reader_fail hN hT w _ e6) wd_998 rfl (Nat.le_trans (Nat.le_of_ble_eq_true rfl) hle) (st := []) (Nat.le_of_ble_eq_true rfl) rfl d_Reader_global_50 ?_
  cases hM
  exact g_vret X d_Reader_global_53
def fm_Reader_global (w : fa_W) : Option fa_W :=
  fa_let (w 8 13) fun x1_1 =>
  if fa_wr x1_1 < 6 then
  ((fm_Reader_advance w).bind fun w4 =>
  if fa_wr (w4 7 4) = 2 then
  (if fa_wr (fr_find (fa_rf 8 8) (w4 7 6) w4) = (-1) then
  (fa_let (fr_add (fa_rf 8 8) (w4 7 6) w4) fun w11 =>
  fa_let (fa_st w11 8 13 ((w11 8 13) + 1)) fun w12 =>
  (fm_Reader_advance w12).bind fun w14 =>
  fa_let (fa_st w14 7 12 x1_1) fun w15 =>
  (fm_Reader_nameVariable x1_1 w15).bind fun w17 =>
  fa_let (fr_add 35 x1_1 w17) fun w19 =>
  (fm_Reader_expect 61 w19).bind fun w21 =>
  fa_bd (fm_Reader_expression 900 w21) fun v23 w24 =>
  fa_let (fr_set (fa_rf 8 9) x1_1 v23 w24) fun w26 =>
  (fm_Reader_expect 59 w26).bind fun w28 =>
  fa_let (fm_Row_clear 35 w28) fun w30 =>
  fa_let (fa_st w30 7 12 (-1)) fun w31 =>
  some w31)
  else
  fm_Reader_global_j49 w4)
  else
  fm_Reader_global_j49 w4)
  else
  (fa_let (fm_Reader_fail w) fun w33 =>
  some w33)
set_option maxHeartbeats 4000000 in
set_option maxRecDepth 100000 in
theorem c_Reader_global {l : Launch} {D : va_G} {b : Nat} {aC : Nat → ClassId} {H0 : Heap} {N T : Nat} (hN : fa_NX ≤ N) (hT : fa_TX ≤ T)   (w : fa_W) (r : fa_W) (hM : fm_Reader_global w = some r) : fa_MC l D b aC H0 N T y_Reader_global prog_6_method_15_code 2 ((Option.none : Option Jvm.ClassFile.FieldType)) (905) [.ref (b + 7)] w (none) r := by
  refine fa_enter (lv := [(0, .ref (b + 7))]) (by decide +kernel) (Nat.le_of_ble_eq_true rfl) rfl (fun hh hle hnm X => ?_)
  unfold fm_Reader_global at hM
  refine g_aload_n X 0 rfl d_Reader_global_0 ?_
  refine g_get X ck_5 fo_7 (fa_xn fo_7 (by decide) hN) 0 (by decide) wd_150 rfl (fr_7_0 rfl hT) d_Reader_global_1 ?_
  refine g_getN X ck_4 fo_8 (fa_xn fo_8 (by decide) hN) 13 (by decide) wd_93 rfl (fa_fvI rfl) d_Reader_global_4 ?_
  refine g_istore_n X (fun x1_1 => [(1, .int (fa_I x1_1)), (0, .ref (b + 7))]) d_Reader_global_7 (by decide) (fun _ => rfl) (fun x1_1 ex1_1 => ?_)
  have hM := fa_let_to hM ex1_1
  refine g_iload_n X 0 rfl d_Reader_global_8 ?_
  refine g_bipush X (by decide) d_Reader_global_9 ?_
  refine g_icmp_lt X 19 d_Reader_global_11 (by decide) (fun hc2 => ?_) (fun hc2 => ?_)
  · have hM := fa_if_t hM hc2
    refine g_aload_n X 1 rfl d_Reader_global_19 ?_
    obtain ⟨w4, e3, hM⟩ := fa_ob hM
    refine g_callV_v X ck_5 fo_7 (fa_xn fo_7 (by decide) hN) rfl mi_Reader_advance (c_Reader_advance hN hT w _ e3) wd_973 rfl (Nat.le_trans (Nat.le_of_ble_eq_true rfl) hle) (st := []) (Nat.le_of_ble_eq_true rfl) rfl d_Reader_global_20 ?_
    refine g_aload_n X 1 rfl d_Reader_global_23 ?_
    refine g_get X ck_5 fo_7 (fa_xn fo_7 (by decide) hN) 4 (by decide) wd_155 rfl (fa_fvI rfl) d_Reader_global_24 ?_
    refine g_iconst X d_Reader_global_27 ?_
    refine g_icmp_ne X 49 d_Reader_global_28 (by decide) (fun hc5 => ?_) (fun hc5 => ?_)
    · have hM := fa_if_f hM hc5
      exact g_lv [1] rfl (c_Reader_global_j49 X hle hN hT    _ hM)
    · have hM := fa_if_t hM hc5
      refine g_aload_n X 1 rfl d_Reader_global_31 ?_
      refine g_get X ck_5 fo_7 (fa_xn fo_7 (by decide) hN) 0 (by decide) wd_150 rfl (fr_7_0 rfl hT) d_Reader_global_32 ?_
      refine g_getN X ck_4 fo_8 (fa_xn fo_8 (by decide) hN) 8 (by decide) wd_81 rfl (fa_fvR rfl (fa_xt fo_8 (by decide) hT 8)) d_Reader_global_35 ?_
      refine g_aload_n X 1 rfl d_Reader_global_38 ?_
      refine g_get X ck_5 fo_7 (fa_xn fo_7 (by decide) hN) 6 (by decide) wd_157 rfl (fa_fvI rfl) d_Reader_global_39 ?_
      refine g_callV_i X ck_6 (fa_r4_8 _ fo_8) (fa_xn (fa_r4_8 _ fo_8) (by decide) hN) rfl mi_Row_placeOf (ct_Row_placeOf (fa_rf 8 8) (w4 7 6) (fa_ro (fa_r4_8 _ fo_8) hN hT) w4 _ rfl) wd_1002 rfl (Nat.le_trans (Nat.le_of_ble_eq_true rfl) hle) (st := []) (Nat.le_of_ble_eq_true rfl) rfl d_Reader_global_42 ?_
      refine g_iconst X d_Reader_global_45 ?_
      refine g_icmp_eq X 54 d_Reader_global_46 (by decide) (fun hc9 => ?_) (fun hc9 => ?_)
      · have hM := fa_if_t hM hc9
        refine g_aload_n X 1 rfl d_Reader_global_54 ?_
        refine g_get X ck_5 fo_7 (fa_xn fo_7 (by decide) hN) 0 (by decide) wd_150 rfl (fr_7_0 rfl hT) d_Reader_global_55 ?_
        refine g_getN X ck_4 fo_8 (fa_xn fo_8 (by decide) hN) 8 (by decide) wd_81 rfl (fa_fvR rfl (fa_xt fo_8 (by decide) hT 8)) d_Reader_global_58 ?_
        refine g_aload_n X 1 rfl d_Reader_global_61 ?_
        refine g_get X ck_5 fo_7 (fa_xn fo_7 (by decide) hN) 6 (by decide) wd_157 rfl (fa_fvI rfl) d_Reader_global_62 ?_
        obtain ⟨w11, e10⟩ : ∃ q, fr_add (fa_rf 8 8) (w4 7 6) w4 = q := ⟨_, rfl⟩
        have hM := fa_let_to hM e10.symm
        refine g_callV_v X ck_6 (fa_r4_8 _ fo_8) (fa_xn (fa_r4_8 _ fo_8) (by decide) hN) rfl mi_Row_add (ct_Row_add (fa_rf 8 8) (w4 7 6) (fa_ro (fa_r4_8 _ fo_8) hN hT) w4 _ e10) wd_1003 rfl (Nat.le_trans (Nat.le_of_ble_eq_true rfl) hle) (st := []) (Nat.le_of_ble_eq_true rfl) rfl d_Reader_global_65 ?_
        refine g_aload_n X 1 rfl d_Reader_global_68 ?_
        refine g_get X ck_5 fo_7 (fa_xn fo_7 (by decide) hN) 0 (by decide) wd_150 rfl (fr_7_0 rfl hT) d_Reader_global_69 ?_
        refine g_dup X rfl d_Reader_global_72 ?_
        refine g_getN X ck_4 fo_8 (fa_xn fo_8 (by decide) hN) 13 (by decide) wd_93 rfl (fa_fvI rfl) d_Reader_global_73 ?_
        refine g_iconst X d_Reader_global_76 ?_
        refine g_iadd X d_Reader_global_77 ?_
        refine g_putN X ck_4 fo_8 (fa_xn fo_8 (by decide) hN) 13 (z := ((w11 8 13) + 1)) (by decide) wd_93 rfl (fa_fvI' rfl) rfl rfl rfl d_Reader_global_78 (fun w12 ew12 => ?_)
        have hM := fa_let_to hM ew12
        refine g_aload_n X 1 rfl d_Reader_global_81 ?_
        obtain ⟨w14, e13, hM⟩ := fa_ob hM
        refine g_callV_v X ck_5 fo_7 (fa_xn fo_7 (by decide) hN) rfl mi_Reader_advance (c_Reader_advance hN hT w12 _ e13) wd_973 rfl (Nat.le_trans (Nat.le_of_ble_eq_true rfl) hle) (st := []) (Nat.le_of_ble_eq_true rfl) rfl d_Reader_global_82 ?_
        refine g_aload_n X 1 rfl d_Reader_global_85 ?_
        refine g_iload_n X 0 rfl d_Reader_global_86 ?_
        refine g_put X ck_5 fo_7 (fa_xn fo_7 (by decide) hN) 12 (z := x1_1) (by decide) wd_163 rfl (fa_fvI' rfl) rfl rfl rfl d_Reader_global_87 (fun w15 ew15 => ?_)
        have hM := fa_let_to hM ew15
        refine g_aload_n X 1 rfl d_Reader_global_90 ?_
        refine g_iload_n X 0 rfl d_Reader_global_91 ?_
        obtain ⟨w17, e16, hM⟩ := fa_ob hM
        refine g_callV_v X ck_5 fo_7 (fa_xn fo_7 (by decide) hN) rfl mi_Reader_nameVariable (c_Reader_nameVariable hN hT x1_1 w15 _ e16) wd_1004 rfl (Nat.le_trans (Nat.le_of_ble_eq_true rfl) hle) (st := []) (Nat.le_of_ble_eq_true rfl) rfl d_Reader_global_92 ?_
        refine g_aload_n X 1 rfl d_Reader_global_95 ?_
        refine g_get X ck_5 fo_7 (fa_xn fo_7 (by decide) hN) 2 (by decide) wd_153 rfl (fr_7_2 rfl hT) d_Reader_global_96 ?_
        refine g_iload_n X 0 rfl d_Reader_global_99 ?_
        obtain ⟨w19, e18⟩ : ∃ q, fr_add 35 x1_1 w17 = q := ⟨_, rfl⟩
        have hM := fa_let_to hM e18.symm
        refine g_callV_v X ck_6 fo_35 (fa_xn fo_35 (by decide) hN) rfl mi_Row_add (ct_Row_add 35 x1_1 (fa_ro fo_35 hN hT) w17 _ e18) wd_1003 rfl (Nat.le_trans (Nat.le_of_ble_eq_true rfl) hle) (st := []) (Nat.le_of_ble_eq_true rfl) rfl d_Reader_global_100 ?_
        refine g_aload_n X 1 rfl d_Reader_global_103 ?_
        refine g_bipush X (by decide) d_Reader_global_104 ?_
        obtain ⟨w21, e20, hM⟩ := fa_ob hM
        refine g_callV_v X ck_5 fo_7 (fa_xn fo_7 (by decide) hN) rfl mi_Reader_expect (c_Reader_expect hN hT 61 w19 _ e20) wd_1009 rfl (Nat.le_trans (Nat.le_of_ble_eq_true rfl) hle) (st := []) (Nat.le_of_ble_eq_true rfl) rfl d_Reader_global_106 ?_
        refine g_aload_n X 1 rfl d_Reader_global_109 ?_
        refine g_get X ck_5 fo_7 (fa_xn fo_7 (by decide) hN) 0 (by decide) wd_150 rfl (fr_7_0 rfl hT) d_Reader_global_110 ?_
        refine g_getN X ck_4 fo_8 (fa_xn fo_8 (by decide) hN) 9 (by decide) wd_86 rfl (fa_fvR rfl (fa_xt fo_8 (by decide) hT 9)) d_Reader_global_113 ?_
        refine g_iload_n X 0 rfl d_Reader_global_116 ?_
        refine g_aload_n X 1 rfl d_Reader_global_117 ?_
        obtain ⟨v23, w24, e22, hM⟩ := fa_obd hM
        refine g_callV_i X ck_5 fo_7 (fa_xn fo_7 (by decide) hN) rfl mi_Reader_expression (c_Reader_expression hN hT 900 w21 _ e22) wd_1013 rfl (Nat.le_trans (Nat.le_of_ble_eq_true rfl) hle) (st := [.int (fa_I x1_1), .ref (b + (fa_rf 8 9))]) (Nat.le_of_ble_eq_true rfl) rfl d_Reader_global_118 ?_
        obtain ⟨w26, e25⟩ : ∃ q, fr_set (fa_rf 8 9) x1_1 v23 w24 = q := ⟨_, rfl⟩
        have hM := fa_let_to hM e25.symm
        refine g_callV_v X ck_6 (fa_r4_9 _ fo_8) (fa_xn (fa_r4_9 _ fo_8) (by decide) hN) rfl mi_Row_set (ct_Row_set (fa_rf 8 9) x1_1 v23 (fa_ro (fa_r4_9 _ fo_8) hN hT) w24 _ e25) wd_1008 rfl (Nat.le_trans (Nat.le_of_ble_eq_true rfl) hle) (st := []) (Nat.le_of_ble_eq_true rfl) rfl d_Reader_global_121 ?_
        refine g_aload_n X 1 rfl d_Reader_global_124 ?_
        refine g_bipush X (by decide) d_Reader_global_125 ?_
        obtain ⟨w28, e27, hM⟩ := fa_ob hM
        refine g_callV_v X ck_5 fo_7 (fa_xn fo_7 (by decide) hN) rfl mi_Reader_expect (c_Reader_expect hN hT 59 w26 _ e27) wd_1009 rfl (Nat.le_trans (Nat.le_of_ble_eq_true rfl) hle) (st := []) (Nat.le_of_ble_eq_true rfl) rfl d_Reader_global_127 ?_
        refine g_aload_n X 1 rfl d_Reader_global_130 ?_
        refine g_get X ck_5 fo_7 (fa_xn fo_7 (by decide) hN) 2 (by decide) wd_153 rfl (fr_7_2 rfl hT) d_Reader_global_131 ?_
        obtain ⟨w30, e29⟩ : ∃ q, fm_Row_clear 35 w28 = q := ⟨_, rfl⟩
        have hM := fa_let_to hM e29.symm
        refine g_callV_v X ck_6 fo_35 (fa_xn fo_35 (by decide) hN) rfl mi_Row_clear (c_Row_clear 35 (fa_ro fo_35 hN hT) w28 _ e29) wd_972 rfl (Nat.le_trans (Nat.le_of_ble_eq_true rfl) hle) (st := []) (Nat.le_of_ble_eq_true rfl) rfl d_Reader_global_134 ?_
        refine g_aload_n X 1 rfl d_Reader_global_137 ?_
        refine g_iconst X d_Reader_global_138 ?_
        refine g_put X ck_5 fo_7 (fa_xn fo_7 (by decide) hN) 12 (z := (-1)) (by decide) wd_163 rfl (fa_fvI' rfl) rfl rfl rfl d_Reader_global_139 (fun w31 ew31 => ?_)
        have hM := fa_let_to hM ew31
        cases hM
        exact g_vret X d_Reader_global_142
      · have hM := fa_if_f hM hc9
        exact g_lv [1] rfl (c_Reader_global_j49 X hle hN hT    _ hM)
  · have hM := fa_if_f hM hc2
    refine g_aload_n X 1 rfl d_Reader_global_14 ?_
    obtain ⟨w33, e32⟩ : ∃ q, fm_Reader_fail w = q := ⟨_, rfl⟩
    have hM := fa_let_to hM e32.symm
    refine g_callV_v X ck_5 fo_7 (fa_xn fo_7 (by decide) hN) rfl mi_Reader_fail (c_Reader_fail hN hT w _ e32) wd_998 rfl (Nat.le_trans (Nat.le_of_ble_eq_true rfl) hle) (st := []) (Nat.le_of_ble_eq_true rfl) rfl d_Reader_global_15 ?_
    cases hM
    exact g_vret X d_Reader_global_18
theorem d_Reader_parse_0 : decode prog_6_method_2_code 0 = .ok (.aload_n 0, 1) := by decide +kernel
theorem d_Reader_parse_1 : decode prog_6_method_2_code 1 = .ok (.invokevirtual 61, 3) := by decide +kernel
theorem d_Reader_parse_4 : decode prog_6_method_2_code 4 = .ok (.aload_n 0, 1) := by decide +kernel
theorem d_Reader_parse_5 : decode prog_6_method_2_code 5 = .ok (.invokevirtual 64, 3) := by decide +kernel
theorem d_Reader_parse_8 : decode prog_6_method_2_code 8 = .ok (.iconst 0, 1) := by decide +kernel
theorem d_Reader_parse_9 : decode prog_6_method_2_code 9 = .ok (.istore_n 1, 1) := by decide +kernel
theorem d_Reader_parse_10 : decode prog_6_method_2_code 10 = .ok (.iload_n 1, 1) := by decide +kernel
theorem d_Reader_parse_11 : decode prog_6_method_2_code 11 = .ok (.bipush 6, 2) := by decide +kernel
theorem d_Reader_parse_13 : decode prog_6_method_2_code 13 = .ok (.if_icmp .gt 22, 3) := by decide +kernel
theorem d_Reader_parse_16 : decode prog_6_method_2_code 16 = .ok (.aload_n 0, 1) := by decide +kernel
theorem d_Reader_parse_17 : decode prog_6_method_2_code 17 = .ok (.getfield 31, 3) := by decide +kernel
theorem d_Reader_parse_20 : decode prog_6_method_2_code 20 = .ok (.ldc 67, 2) := by decide +kernel
theorem d_Reader_parse_22 : decode prog_6_method_2_code 22 = .ok (.if_icmp .ne 13, 3) := by decide +kernel
theorem d_Reader_parse_25 : decode prog_6_method_2_code 25 = .ok (.aload_n 0, 1) := by decide +kernel
theorem d_Reader_parse_26 : decode prog_6_method_2_code 26 = .ok (.invokevirtual 68, 3) := by decide +kernel
theorem d_Reader_parse_29 : decode prog_6_method_2_code 29 = .ok (.iinc 1 1, 3) := by decide +kernel
theorem d_Reader_parse_32 : decode prog_6_method_2_code 32 = .ok (.goto (-22), 3) := by decide +kernel
theorem d_Reader_parse_35 : decode prog_6_method_2_code 35 = .ok (.aload_n 0, 1) := by decide +kernel
theorem d_Reader_parse_36 : decode prog_6_method_2_code 36 = .ok (.getfield 12, 3) := by decide +kernel
theorem d_Reader_parse_39 : decode prog_6_method_2_code 39 = .ok (.aload_n 0, 1) := by decide +kernel
theorem d_Reader_parse_40 : decode prog_6_method_2_code 40 = .ok (.invokevirtual 71, 3) := by decide +kernel
theorem d_Reader_parse_43 : decode prog_6_method_2_code 43 = .ok (.putfield 75, 3) := by decide +kernel
theorem d_Reader_parse_46 : decode prog_6_method_2_code 46 = .ok (.aload_n 0, 1) := by decide +kernel
theorem d_Reader_parse_47 : decode prog_6_method_2_code 47 = .ok (.getfield 31, 3) := by decide +kernel
theorem d_Reader_parse_50 : decode prog_6_method_2_code 50 = .ok (.ifCond .eq 7, 3) := by decide +kernel
theorem d_Reader_parse_53 : decode prog_6_method_2_code 53 = .ok (.aload_n 0, 1) := by decide +kernel
theorem d_Reader_parse_54 : decode prog_6_method_2_code 54 = .ok (.invokevirtual 78, 3) := by decide +kernel
theorem d_Reader_parse_57 : decode prog_6_method_2_code 57 = .ok (.aload_n 0, 1) := by decide +kernel
theorem d_Reader_parse_58 : decode prog_6_method_2_code 58 = .ok (.getfield 40, 3) := by decide +kernel
theorem d_Reader_parse_61 : decode prog_6_method_2_code 61 = .ok (.ireturn, 1) := by decide +kernel
def fm_Reader_parse_j57 (w : fa_W) : Option (Int × fa_W) :=
  some (w 7 7, w)
set_option maxHeartbeats 4000000 in
set_option maxRecDepth 100000 in
theorem c_Reader_parse_j57 {p : Program} {l : Launch} {e : Env} {s : State} {m : MethodId} {args : Array Value} {below : List Frame} {meth : Method} {c : Code} {hh : Nat} {D : va_G} {b : Nat} {aC : Nat → ClassId} {H0 : Heap} {N T : Nat} (X : fa_GX p s m args meth c prog_6_method_2_code 2 ((Option.some Jvm.ClassFile.FieldType.int)) y_Reader_parse.cls D b aC) (hle : 906 ≤ hh) (hN : fa_NX ≤ N) (hT : fa_TX ≤ T) {r : Int × fa_W}  : ∀ (w : fa_W) (_ : fm_Reader_parse_j57 w = some r), fa_GJ p l e (fa_rm hh) s m args below meth c 0 0 (MQ below (fa_Qc D b aC H0 N T (some (.int (fa_I r.1))) r.2) args s 0 0 (fun q => b ≤ q)) D b aC H0 N T 2 w 57 [(0, .ref (b + 7))] [] := by
  intro w hM
  unfold fm_Reader_parse_j57 at hM
  refine g_aload_n X 0 rfl d_Reader_parse_57 ?_
  refine g_get X ck_5 fo_7 (fa_xn fo_7 (by decide) hN) 7 (by decide) wd_158 rfl (fa_fvI rfl) d_Reader_parse_58 ?_
  cases hM
  exact g_iret X d_Reader_parse_61
def fm_Reader_parse_j35 (w : fa_W) : Option (Int × fa_W) :=
  fa_bd (fm_Reader_expression 900 w) fun v7 w8 =>
  fa_let (fa_st w8 8 16 v7) fun w9 =>
  if fa_wr (w9 7 4) = 0 then
  fm_Reader_parse_j57 w9
  else
  (fa_let (fm_Reader_fail w9) fun w12 =>
  fm_Reader_parse_j57 w12)
set_option maxHeartbeats 4000000 in
set_option maxRecDepth 100000 in
theorem c_Reader_parse_j35 {p : Program} {l : Launch} {e : Env} {s : State} {m : MethodId} {args : Array Value} {below : List Frame} {meth : Method} {c : Code} {hh : Nat} {D : va_G} {b : Nat} {aC : Nat → ClassId} {H0 : Heap} {N T : Nat} (X : fa_GX p s m args meth c prog_6_method_2_code 2 ((Option.some Jvm.ClassFile.FieldType.int)) y_Reader_parse.cls D b aC) (hle : 906 ≤ hh) (hN : fa_NX ≤ N) (hT : fa_TX ≤ T) {r : Int × fa_W}  : ∀ (w : fa_W) (_ : fm_Reader_parse_j35 w = some r), fa_GJ p l e (fa_rm hh) s m args below meth c 0 0 (MQ below (fa_Qc D b aC H0 N T (some (.int (fa_I r.1))) r.2) args s 0 0 (fun q => b ≤ q)) D b aC H0 N T 2 w 35 [(0, .ref (b + 7))] [] := by
  intro w hM
  unfold fm_Reader_parse_j35 at hM
  refine g_aload_n X 0 rfl d_Reader_parse_35 ?_
  refine g_get X ck_5 fo_7 (fa_xn fo_7 (by decide) hN) 0 (by decide) wd_150 rfl (fr_7_0 rfl hT) d_Reader_parse_36 ?_
  refine g_aload_n X 0 rfl d_Reader_parse_39 ?_
  obtain ⟨v7, w8, e6, hM⟩ := fa_obd hM
  refine g_callV_i X ck_5 fo_7 (fa_xn fo_7 (by decide) hN) rfl mi_Reader_expression (c_Reader_expression hN hT 900 w _ e6) wd_1013 rfl (Nat.le_trans (Nat.le_of_ble_eq_true rfl) hle) (st := [.ref (b + 8)]) (Nat.le_of_ble_eq_true rfl) rfl d_Reader_parse_40 ?_
  refine g_putN X ck_4 fo_8 (fa_xn fo_8 (by decide) hN) 16 (z := v7) (by decide) wd_108 rfl (fa_fvI' rfl) rfl rfl rfl d_Reader_parse_43 (fun w9 ew9 => ?_)
  have hM := fa_let_to hM ew9
  refine g_aload_n X 0 rfl d_Reader_parse_46 ?_
  refine g_get X ck_5 fo_7 (fa_xn fo_7 (by decide) hN) 4 (by decide) wd_155 rfl (fa_fvI rfl) d_Reader_parse_47 ?_
  refine g_if_eq X 57 d_Reader_parse_50 (by decide) (fun hc10 => ?_) (fun hc10 => ?_)
  · have hM := fa_if_t hM hc10
    exact g_lv [0] rfl (c_Reader_parse_j57 X hle hN hT    _ hM)
  · have hM := fa_if_f hM hc10
    refine g_aload_n X 0 rfl d_Reader_parse_53 ?_
    obtain ⟨w12, e11⟩ : ∃ q, fm_Reader_fail w9 = q := ⟨_, rfl⟩
    have hM := fa_let_to hM e11.symm
    refine g_callV_v X ck_5 fo_7 (fa_xn fo_7 (by decide) hN) rfl mi_Reader_fail (c_Reader_fail hN hT w9 _ e11) wd_998 rfl (Nat.le_trans (Nat.le_of_ble_eq_true rfl) hle) (st := []) (Nat.le_of_ble_eq_true rfl) rfl d_Reader_parse_54 ?_
    exact g_lv [0] rfl (c_Reader_parse_j57 X hle hN hT    _ hM)
def fm_Reader_parse_l10  : Nat → Int → fa_W → Option (Int × fa_W)
  | 0, _, _ => none
  | n + 1, x1, w => if 6 < fa_wr x1 then
  fm_Reader_parse_j35 w
  else
  (if fa_wr (w 7 4) = 6714734 then
  ((fm_Reader_global w).bind fun w15 =>
  fa_let (x1 + 1) fun x1_16 =>
  fm_Reader_parse_l10 n x1_16 w15)
  else
  fm_Reader_parse_j35 w)
set_option maxHeartbeats 4000000 in
set_option maxRecDepth 100000 in
theorem c_Reader_parse_l10 {p : Program} {l : Launch} {e : Env} {s : State} {m : MethodId} {args : Array Value} {below : List Frame} {meth : Method} {c : Code} {hh : Nat} {D : va_G} {b : Nat} {aC : Nat → ClassId} {H0 : Heap} {N T : Nat} (X : fa_GX p s m args meth c prog_6_method_2_code 2 ((Option.some Jvm.ClassFile.FieldType.int)) y_Reader_parse.cls D b aC) (hle : 906 ≤ hh) (hN : fa_NX ≤ N) (hT : fa_TX ≤ T) {r : Int × fa_W}  : ∀ (n : Nat) (x1 : Int) (w : fa_W), fm_Reader_parse_l10 n x1 w = some r → fa_GJ p l e (fa_rm hh) s m args below meth c 0 0 (MQ below (fa_Qc D b aC H0 N T (some (.int (fa_I r.1))) r.2) args s 0 0 (fun q => b ≤ q)) D b aC H0 N T 2 w 10 [(0, .ref (b + 7)), (1, .int (fa_I x1))] [] := by
  intro n
  induction n with
  | zero => intro x1 w hM; exact fa_no hM
  | succ n ih =>
    intro x1 w hM
    rw [fm_Reader_parse_l10] at hM
    refine g_iload_n X 1 rfl d_Reader_parse_10 ?_
    refine g_bipush X (by decide) d_Reader_parse_11 ?_
    refine g_icmp_gt X 35 d_Reader_parse_13 (by decide) (fun hc5 => ?_) (fun hc5 => ?_)
    · have hM := fa_if_t hM hc5
      exact g_lv [0] rfl (c_Reader_parse_j35 X hle hN hT    _ hM)
    · have hM := fa_if_f hM hc5
      refine g_aload_n X 0 rfl d_Reader_parse_16 ?_
      refine g_get X ck_5 fo_7 (fa_xn fo_7 (by decide) hN) 4 (by decide) wd_155 rfl (fa_fvI rfl) d_Reader_parse_17 ?_
      refine g_ldc X (n := 6714734) wd_993 (by decide) d_Reader_parse_20 ?_
      refine g_icmp_ne X 35 d_Reader_parse_22 (by decide) (fun hc13 => ?_) (fun hc13 => ?_)
      · have hM := fa_if_f hM hc13
        exact g_lv [0] rfl (c_Reader_parse_j35 X hle hN hT    _ hM)
      · have hM := fa_if_t hM hc13
        refine g_aload_n X 0 rfl d_Reader_parse_25 ?_
        obtain ⟨w15, e14, hM⟩ := fa_ob hM
        refine g_callV_v X ck_5 fo_7 (fa_xn fo_7 (by decide) hN) rfl mi_Reader_global (c_Reader_global hN hT w _ e14) wd_994 rfl (Nat.le_trans (Nat.le_of_ble_eq_true rfl) hle) (st := []) (Nat.le_of_ble_eq_true rfl) rfl d_Reader_parse_26 ?_
        refine g_iinc X 1 (fun x1_16 => [(1, .int (fa_I x1_16)), (0, .ref (b + 7))]) d_Reader_parse_29 rfl (by decide) (fun _ => rfl) (fun x1_16 ex1_16 => ?_)
        have hM := fa_let_to hM ex1_16
        refine g_goto X 10 d_Reader_parse_32 (by decide) ?_
        exact g_lv [1, 0] rfl (ih _ _ hM)
def fm_Reader_parse (w : fa_W) : Option (Int × fa_W) :=
  fa_let (fm_Reader_clear w) fun w2 =>
  (fm_Reader_advance w2).bind fun w4 =>
  fm_Reader_parse_l10 fa_FU 0 w4
set_option maxHeartbeats 4000000 in
set_option maxRecDepth 100000 in
theorem c_Reader_parse {l : Launch} {D : va_G} {b : Nat} {aC : Nat → ClassId} {H0 : Heap} {N T : Nat} (hN : fa_NX ≤ N) (hT : fa_TX ≤ T)   (w : fa_W) (r : Int × fa_W) (hM : fm_Reader_parse w = some r) : fa_MC l D b aC H0 N T y_Reader_parse prog_6_method_2_code 2 ((Option.some Jvm.ClassFile.FieldType.int)) (906) [.ref (b + 7)] w (some (.int (fa_I r.1))) r.2 := by
  refine fa_enter (lv := [(0, .ref (b + 7))]) (by decide +kernel) (Nat.le_of_ble_eq_true rfl) rfl (fun hh hle hnm X => ?_)
  unfold fm_Reader_parse at hM
  refine g_aload_n X 0 rfl d_Reader_parse_0 ?_
  obtain ⟨w2, e1⟩ : ∃ q, fm_Reader_clear w = q := ⟨_, rfl⟩
  have hM := fa_let_to hM e1.symm
  refine g_callV_v X ck_5 fo_7 (fa_xn fo_7 (by decide) hN) rfl mi_Reader_clear (c_Reader_clear hN hT w _ e1) wd_967 rfl (Nat.le_trans (Nat.le_of_ble_eq_true rfl) hle) (st := []) (Nat.le_of_ble_eq_true rfl) rfl d_Reader_parse_1 ?_
  refine g_aload_n X 0 rfl d_Reader_parse_4 ?_
  obtain ⟨w4, e3, hM⟩ := fa_ob hM
  refine g_callV_v X ck_5 fo_7 (fa_xn fo_7 (by decide) hN) rfl mi_Reader_advance (c_Reader_advance hN hT w2 _ e3) wd_973 rfl (Nat.le_trans (Nat.le_of_ble_eq_true rfl) hle) (st := []) (Nat.le_of_ble_eq_true rfl) rfl d_Reader_parse_5 ?_
  refine g_iconst X d_Reader_parse_8 ?_
  refine g_istorec_n X [(1, .int (fa_I 0)), (0, .ref (b + 7))] d_Reader_parse_9 (by decide) rfl ?_
  exact g_lv [1, 0] rfl (c_Reader_parse_l10 X hle hN hT   fa_FU _ _ hM)
