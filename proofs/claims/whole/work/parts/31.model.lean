theorem d_Mod_expression_0 : decode prog_12_method_24_code 0 = .ok (.aload_n 0, 1) := by decide +kernel
theorem d_Mod_expression_1 : decode prog_12_method_24_code 1 = .ok (.invokevirtual 41, 3) := by decide +kernel
theorem d_Mod_expression_4 : decode prog_12_method_24_code 4 = .ok (.ifCond .eq 5, 3) := by decide +kernel
theorem d_Mod_expression_7 : decode prog_12_method_24_code 7 = .ok (.iconst (-1), 1) := by decide +kernel
theorem d_Mod_expression_8 : decode prog_12_method_24_code 8 = .ok (.ireturn, 1) := by decide +kernel
theorem d_Mod_expression_9 : decode prog_12_method_24_code 9 = .ok (.aload_n 0, 1) := by decide +kernel
theorem d_Mod_expression_10 : decode prog_12_method_24_code 10 = .ok (.invokevirtual 37, 3) := by decide +kernel
theorem d_Mod_expression_13 : decode prog_12_method_24_code 13 = .ok (.aload_n 0, 1) := by decide +kernel
theorem d_Mod_expression_14 : decode prog_12_method_24_code 14 = .ok (.bipush 92, 2) := by decide +kernel
theorem d_Mod_expression_16 : decode prog_12_method_24_code 16 = .ok (.bipush 92, 2) := by decide +kernel
theorem d_Mod_expression_18 : decode prog_12_method_24_code 18 = .ok (.invokevirtual 27, 3) := by decide +kernel
theorem d_Mod_expression_21 : decode prog_12_method_24_code 21 = .ok (.ifCond .eq 8, 3) := by decide +kernel
theorem d_Mod_expression_24 : decode prog_12_method_24_code 24 = .ok (.aload_n 0, 1) := by decide +kernel
theorem d_Mod_expression_25 : decode prog_12_method_24_code 25 = .ok (.invokevirtual 128, 3) := by decide +kernel
theorem d_Mod_expression_28 : decode prog_12_method_24_code 28 = .ok (.ireturn, 1) := by decide +kernel
theorem d_Mod_expression_29 : decode prog_12_method_24_code 29 = .ok (.aload_n 0, 1) := by decide +kernel
theorem d_Mod_expression_30 : decode prog_12_method_24_code 30 = .ok (.invokevirtual 78, 3) := by decide +kernel
theorem d_Mod_expression_33 : decode prog_12_method_24_code 33 = .ok (.istore_n 1, 1) := by decide +kernel
theorem d_Mod_expression_34 : decode prog_12_method_24_code 34 = .ok (.iload_n 1, 1) := by decide +kernel
theorem d_Mod_expression_35 : decode prog_12_method_24_code 35 = .ok (.getstatic 60, 3) := by decide +kernel
theorem d_Mod_expression_38 : decode prog_12_method_24_code 38 = .ok (.if_icmp .ne 8, 3) := by decide +kernel
theorem d_Mod_expression_41 : decode prog_12_method_24_code 41 = .ok (.aload_n 0, 1) := by decide +kernel
theorem d_Mod_expression_42 : decode prog_12_method_24_code 42 = .ok (.invokevirtual 131, 3) := by decide +kernel
theorem d_Mod_expression_45 : decode prog_12_method_24_code 45 = .ok (.ireturn, 1) := by decide +kernel
theorem d_Mod_expression_46 : decode prog_12_method_24_code 46 = .ok (.iload_n 1, 1) := by decide +kernel
theorem d_Mod_expression_47 : decode prog_12_method_24_code 47 = .ok (.getstatic 72, 3) := by decide +kernel
theorem d_Mod_expression_50 : decode prog_12_method_24_code 50 = .ok (.if_icmp .ne 8, 3) := by decide +kernel
theorem d_Mod_expression_53 : decode prog_12_method_24_code 53 = .ok (.aload_n 0, 1) := by decide +kernel
theorem d_Mod_expression_54 : decode prog_12_method_24_code 54 = .ok (.invokevirtual 134, 3) := by decide +kernel
theorem d_Mod_expression_57 : decode prog_12_method_24_code 57 = .ok (.ireturn, 1) := by decide +kernel
theorem d_Mod_expression_58 : decode prog_12_method_24_code 58 = .ok (.aload_n 0, 1) := by decide +kernel
theorem d_Mod_expression_59 : decode prog_12_method_24_code 59 = .ok (.invokevirtual 137, 3) := by decide +kernel
theorem d_Mod_expression_62 : decode prog_12_method_24_code 62 = .ok (.ireturn, 1) := by decide +kernel
def fm_Mod_expression_b (rc_lambda : fa_W → Option (Int × fa_W)) (rc_choice : fa_W → Option (Int × fa_W)) (rc_let : fa_W → Option (Int × fa_W)) (rc_test : fa_W → Option (Int × fa_W)) (w : fa_W) : Option (Int × fa_W) :=
  if fm_Mod_hasFailed w = true then
  some ((-1), w)
  else
  ((fm_Mod_blanks w).bind fun w4 =>
  (fm_Mod_isAt 92 92 w4).bind fun v6 =>
  if v6 = true then
  (fa_bd (rc_lambda w4) fun v23 w24 =>
  some (v23, w24))
  else
  (fa_bd (fm_Mod_wordAhead w4) fun v9 w10 =>
  if fa_wr v9 = 249 then
  (fa_bd (rc_choice w10) fun v20 w21 =>
  some (v20, w21))
  else
  (if fa_wr v9 = 8903 then
  (fa_bd (rc_let w10) fun v17 w18 =>
  some (v17, w18))
  else
  (fa_bd (rc_test w10) fun v14 w15 =>
  some (v14, w15)))))
set_option maxHeartbeats 4000000 in
set_option maxRecDepth 100000 in
theorem c_Mod_expression_b {l : Launch} {D : va_G} {b : Nat} {aC : Nat → ClassId} {H0 : Heap} {N T : Nat} (hN : fa_NM ≤ N) (hT : fa_TM ≤ T) (dd : Nat) (rc_lambda : fa_W → Option (Int × fa_W)) (Rrc_lambda : ∀ (w : fa_W) (r : Int × fa_W), rc_lambda w = some r → fa_MC l D b aC H0 N T y_Mod_lambda prog_12_method_25_code 6 ((Option.some Jvm.ClassFile.FieldType.int)) (5 + dd) [.ref (b + 181)] w (some (.int (fa_I r.1))) r.2) (rc_choice : fa_W → Option (Int × fa_W)) (Rrc_choice : ∀ (w : fa_W) (r : Int × fa_W), rc_choice w = some r → fa_MC l D b aC H0 N T y_Mod_choice prog_12_method_26_code 5 ((Option.some Jvm.ClassFile.FieldType.int)) (5 + dd) [.ref (b + 181)] w (some (.int (fa_I r.1))) r.2) (rc_let : fa_W → Option (Int × fa_W)) (Rrc_let : ∀ (w : fa_W) (r : Int × fa_W), rc_let w = some r → fa_MC l D b aC H0 N T y_Mod_let prog_12_method_27_code 6 ((Option.some Jvm.ClassFile.FieldType.int)) (5 + dd) [.ref (b + 181)] w (some (.int (fa_I r.1))) r.2) (rc_test : fa_W → Option (Int × fa_W)) (Rrc_test : ∀ (w : fa_W) (r : Int × fa_W), rc_test w = some r → fa_MC l D b aC H0 N T y_Mod_test prog_12_method_28_code 3 ((Option.some Jvm.ClassFile.FieldType.int)) (5 + dd) [.ref (b + 181)] w (some (.int (fa_I r.1))) r.2)  (w : fa_W) (r : Int × fa_W) (hM : fm_Mod_expression_b rc_lambda rc_choice rc_let rc_test w = some r) : fa_MC l D b aC H0 N T y_Mod_expression prog_12_method_24_code 2 ((Option.some Jvm.ClassFile.FieldType.int)) (5 + dd + 1) [.ref (b + 181)] w (some (.int (fa_I r.1))) r.2 := by
  refine fa_enter (lv := [(0, .ref (b + 181))]) (by decide +kernel) (Nat.le_of_ble_eq_true rfl) rfl (fun hh hle hnm X => ?_)
  unfold fm_Mod_expression_b at hM
  refine g_aload_n X 0 rfl d_Mod_expression_0 ?_
  refine g_callV_i X ck_10 fo_181 (fn_181 hN) rfl mi_Mod_hasFailed (c_Mod_hasFailed hN hT w _ rfl) wd_1494 rfl (by omega) (st := []) (Nat.le_of_ble_eq_true rfl) rfl d_Mod_expression_1 ?_
  refine g_ifb_eq X 9 d_Mod_expression_4 (by decide) (fun hc2 => ?_) (fun hc2 => ?_)
  · have hM := fa_ifb_f hM hc2
    refine g_aload_n X 0 rfl d_Mod_expression_9 ?_
    obtain ⟨w4, e3, hM⟩ := fa_ob hM
    refine g_callV_v X ck_10 fo_181 (fn_181 hN) rfl mi_Mod_blanks (c_Mod_blanks hN hT w _ e3) wd_1502 rfl (by omega) (st := []) (Nat.le_of_ble_eq_true rfl) rfl d_Mod_expression_10 ?_
    refine g_aload_n X 0 rfl d_Mod_expression_13 ?_
    refine g_bipush X (by decide) d_Mod_expression_14 ?_
    refine g_bipush X (by decide) d_Mod_expression_16 ?_
    obtain ⟨v6, e5, hM⟩ := fa_ob hM
    refine g_callV_i X ck_10 fo_181 (fn_181 hN) rfl mi_Mod_isAt (c_Mod_isAt hN hT 92 92 w4 _ e5) wd_1506 rfl (by omega) (st := []) (Nat.le_of_ble_eq_true rfl) rfl d_Mod_expression_18 ?_
    refine g_ifb_eq X 29 d_Mod_expression_21 (by decide) (fun hc7 => ?_) (fun hc7 => ?_)
    · have hM := fa_ifb_f hM hc7
      refine g_aload_n X 0 rfl d_Mod_expression_29 ?_
      obtain ⟨v9, w10, e8, hM⟩ := fa_obd hM
      refine g_callV_i X ck_10 fo_181 (fn_181 hN) rfl mi_Mod_wordAhead (c_Mod_wordAhead hN hT w4 _ e8) wd_1498 rfl (by omega) (st := []) (Nat.le_of_ble_eq_true rfl) rfl d_Mod_expression_30 ?_
      refine g_istorec_n X [(1, .int (fa_I v9)), (0, .ref (b + 181))] d_Mod_expression_33 (by decide) rfl ?_
      refine g_iload_n X 0 rfl d_Mod_expression_34 ?_
      refine g_gets X (n := "IFS") (v := 249) (z := 249) (by decide) wd_1536 rfl d_Mod_expression_35 ?_
      refine g_icmp_ne X 46 d_Mod_expression_38 (by decide) (fun hc11 => ?_) (fun hc11 => ?_)
      · have hM := fa_if_f hM hc11
        refine g_iload_n X 0 rfl d_Mod_expression_46 ?_
        refine g_gets X (n := "LET_WORD") (v := 8903) (z := 8903) (by decide) wd_1544 rfl d_Mod_expression_47 ?_
        refine g_icmp_ne X 58 d_Mod_expression_50 (by decide) (fun hc12 => ?_) (fun hc12 => ?_)
        · have hM := fa_if_f hM hc12
          refine g_aload_n X 1 rfl d_Mod_expression_58 ?_
          obtain ⟨v14, w15, e13, hM⟩ := fa_obd hM
          refine g_callV_i X ck_10 fo_181 (fn_181 hN) rfl mi_Mod_test (Rrc_test w10 _ e13) wd_1588 rfl (by omega) (st := []) (Nat.le_of_ble_eq_true rfl) rfl d_Mod_expression_59 ?_
          cases hM
          exact g_iret X d_Mod_expression_62
        · have hM := fa_if_t hM hc12
          refine g_aload_n X 1 rfl d_Mod_expression_53 ?_
          obtain ⟨v17, w18, e16, hM⟩ := fa_obd hM
          refine g_callV_i X ck_10 fo_181 (fn_181 hN) rfl mi_Mod_let (Rrc_let w10 _ e16) wd_1584 rfl (by omega) (st := []) (Nat.le_of_ble_eq_true rfl) rfl d_Mod_expression_54 ?_
          cases hM
          exact g_iret X d_Mod_expression_57
      · have hM := fa_if_t hM hc11
        refine g_aload_n X 1 rfl d_Mod_expression_41 ?_
        obtain ⟨v20, w21, e19, hM⟩ := fa_obd hM
        refine g_callV_i X ck_10 fo_181 (fn_181 hN) rfl mi_Mod_choice (Rrc_choice w10 _ e19) wd_1580 rfl (by omega) (st := []) (Nat.le_of_ble_eq_true rfl) rfl d_Mod_expression_42 ?_
        cases hM
        exact g_iret X d_Mod_expression_45
    · have hM := fa_ifb_t hM hc7
      refine g_aload_n X 0 rfl d_Mod_expression_24 ?_
      obtain ⟨v23, w24, e22, hM⟩ := fa_obd hM
      refine g_callV_i X ck_10 fo_181 (fn_181 hN) rfl mi_Mod_lambda (Rrc_lambda w4 _ e22) wd_1564 rfl (by omega) (st := []) (Nat.le_of_ble_eq_true rfl) rfl d_Mod_expression_25 ?_
      cases hM
      exact g_iret X d_Mod_expression_28
  · have hM := fa_ifb_t hM hc2
    refine g_iconst X d_Mod_expression_7 ?_
    cases hM
    exact g_iret X d_Mod_expression_8
theorem d_Mod_lambda_0 : decode prog_12_method_25_code 0 = .ok (.aload_n 0, 1) := by decide +kernel
theorem d_Mod_lambda_1 : decode prog_12_method_25_code 1 = .ok (.getfield 18, 3) := by decide +kernel
theorem d_Mod_lambda_4 : decode prog_12_method_25_code 4 = .ok (.istore_n 1, 1) := by decide +kernel
theorem d_Mod_lambda_5 : decode prog_12_method_25_code 5 = .ok (.aload_n 0, 1) := by decide +kernel
theorem d_Mod_lambda_6 : decode prog_12_method_25_code 6 = .ok (.getfield 140, 3) := by decide +kernel
theorem d_Mod_lambda_9 : decode prog_12_method_25_code 9 = .ok (.bipush 18, 2) := by decide +kernel
theorem d_Mod_lambda_11 : decode prog_12_method_25_code 11 = .ok (.if_icmp .ne 9, 3) := by decide +kernel
theorem d_Mod_lambda_14 : decode prog_12_method_25_code 14 = .ok (.aload_n 0, 1) := by decide +kernel
theorem d_Mod_lambda_15 : decode prog_12_method_25_code 15 = .ok (.iload_n 1, 1) := by decide +kernel
theorem d_Mod_lambda_16 : decode prog_12_method_25_code 16 = .ok (.invokevirtual 49, 3) := by decide +kernel
theorem d_Mod_lambda_19 : decode prog_12_method_25_code 19 = .ok (.ireturn, 1) := by decide +kernel
theorem d_Mod_lambda_20 : decode prog_12_method_25_code 20 = .ok (.aload_n 0, 1) := by decide +kernel
theorem d_Mod_lambda_21 : decode prog_12_method_25_code 21 = .ok (.iload_n 1, 1) := by decide +kernel
theorem d_Mod_lambda_22 : decode prog_12_method_25_code 22 = .ok (.invokevirtual 143, 3) := by decide +kernel
theorem d_Mod_lambda_25 : decode prog_12_method_25_code 25 = .ok (.ifCond .eq 11, 3) := by decide +kernel
theorem d_Mod_lambda_28 : decode prog_12_method_25_code 28 = .ok (.aload_n 0, 1) := by decide +kernel
theorem d_Mod_lambda_29 : decode prog_12_method_25_code 29 = .ok (.iload_n 1, 1) := by decide +kernel
theorem d_Mod_lambda_30 : decode prog_12_method_25_code 30 = .ok (.invokevirtual 146, 3) := by decide +kernel
theorem d_Mod_lambda_33 : decode prog_12_method_25_code 33 = .ok (.ifCond .ne 5, 3) := by decide +kernel
theorem d_Mod_lambda_36 : decode prog_12_method_25_code 36 = .ok (.iconst (-1), 1) := by decide +kernel
theorem d_Mod_lambda_37 : decode prog_12_method_25_code 37 = .ok (.ireturn, 1) := by decide +kernel
theorem d_Mod_lambda_38 : decode prog_12_method_25_code 38 = .ok (.bipush 6, 2) := by decide +kernel
theorem d_Mod_lambda_40 : decode prog_12_method_25_code 40 = .ok (.aload_n 0, 1) := by decide +kernel
theorem d_Mod_lambda_41 : decode prog_12_method_25_code 41 = .ok (.getfield 140, 3) := by decide +kernel
theorem d_Mod_lambda_44 : decode prog_12_method_25_code 44 = .ok (.iadd, 1) := by decide +kernel
theorem d_Mod_lambda_45 : decode prog_12_method_25_code 45 = .ok (.istore_n 2, 1) := by decide +kernel
theorem d_Mod_lambda_46 : decode prog_12_method_25_code 46 = .ok (.aload_n 0, 1) := by decide +kernel
theorem d_Mod_lambda_47 : decode prog_12_method_25_code 47 = .ok (.dup, 1) := by decide +kernel
theorem d_Mod_lambda_48 : decode prog_12_method_25_code 48 = .ok (.getfield 140, 3) := by decide +kernel
theorem d_Mod_lambda_51 : decode prog_12_method_25_code 51 = .ok (.iconst 1, 1) := by decide +kernel
theorem d_Mod_lambda_52 : decode prog_12_method_25_code 52 = .ok (.iadd, 1) := by decide +kernel
theorem d_Mod_lambda_53 : decode prog_12_method_25_code 53 = .ok (.putfield 140, 3) := by decide +kernel
theorem d_Mod_lambda_56 : decode prog_12_method_25_code 56 = .ok (.aload_n 0, 1) := by decide +kernel
theorem d_Mod_lambda_57 : decode prog_12_method_25_code 57 = .ok (.dup, 1) := by decide +kernel
theorem d_Mod_lambda_58 : decode prog_12_method_25_code 58 = .ok (.getfield 18, 3) := by decide +kernel
theorem d_Mod_lambda_61 : decode prog_12_method_25_code 61 = .ok (.iconst 1, 1) := by decide +kernel
theorem d_Mod_lambda_62 : decode prog_12_method_25_code 62 = .ok (.iadd, 1) := by decide +kernel
theorem d_Mod_lambda_63 : decode prog_12_method_25_code 63 = .ok (.putfield 18, 3) := by decide +kernel
theorem d_Mod_lambda_66 : decode prog_12_method_25_code 66 = .ok (.aload_n 0, 1) := by decide +kernel
theorem d_Mod_lambda_67 : decode prog_12_method_25_code 67 = .ok (.invokevirtual 149, 3) := by decide +kernel
theorem d_Mod_lambda_70 : decode prog_12_method_25_code 70 = .ok (.istore_n 3, 1) := by decide +kernel
theorem d_Mod_lambda_71 : decode prog_12_method_25_code 71 = .ok (.aload_n 0, 1) := by decide +kernel
theorem d_Mod_lambda_72 : decode prog_12_method_25_code 72 = .ok (.bipush 46, 2) := by decide +kernel
theorem d_Mod_lambda_74 : decode prog_12_method_25_code 74 = .ok (.invokevirtual 152, 3) := by decide +kernel
theorem d_Mod_lambda_77 : decode prog_12_method_25_code 77 = .ok (.aload_n 0, 1) := by decide +kernel
theorem d_Mod_lambda_78 : decode prog_12_method_25_code 78 = .ok (.invokevirtual 41, 3) := by decide +kernel
theorem d_Mod_lambda_81 : decode prog_12_method_25_code 81 = .ok (.ifCond .eq 5, 3) := by decide +kernel
theorem d_Mod_lambda_84 : decode prog_12_method_25_code 84 = .ok (.iconst (-1), 1) := by decide +kernel
theorem d_Mod_lambda_85 : decode prog_12_method_25_code 85 = .ok (.ireturn, 1) := by decide +kernel
theorem d_Mod_lambda_86 : decode prog_12_method_25_code 86 = .ok (.aload_n 0, 1) := by decide +kernel
theorem d_Mod_lambda_87 : decode prog_12_method_25_code 87 = .ok (.getfield 156, 3) := by decide +kernel
theorem d_Mod_lambda_90 : decode prog_12_method_25_code 90 = .ok (.iload_n 2, 1) := by decide +kernel
theorem d_Mod_lambda_91 : decode prog_12_method_25_code 91 = .ok (.aload_n 0, 1) := by decide +kernel
theorem d_Mod_lambda_92 : decode prog_12_method_25_code 92 = .ok (.getfield 159, 3) := by decide +kernel
theorem d_Mod_lambda_95 : decode prog_12_method_25_code 95 = .ok (.iastore, 1) := by decide +kernel
theorem d_Mod_lambda_96 : decode prog_12_method_25_code 96 = .ok (.aload_n 0, 1) := by decide +kernel
theorem d_Mod_lambda_97 : decode prog_12_method_25_code 97 = .ok (.getfield 159, 3) := by decide +kernel
theorem d_Mod_lambda_100 : decode prog_12_method_25_code 100 = .ok (.istore 4, 2) := by decide +kernel
theorem d_Mod_lambda_102 : decode prog_12_method_25_code 102 = .ok (.aload_n 0, 1) := by decide +kernel
theorem d_Mod_lambda_103 : decode prog_12_method_25_code 103 = .ok (.iload_n 2, 1) := by decide +kernel
theorem d_Mod_lambda_104 : decode prog_12_method_25_code 104 = .ok (.putfield 159, 3) := by decide +kernel
theorem d_Mod_lambda_107 : decode prog_12_method_25_code 107 = .ok (.aload_n 0, 1) := by decide +kernel
theorem d_Mod_lambda_108 : decode prog_12_method_25_code 108 = .ok (.iload_n 2, 1) := by decide +kernel
theorem d_Mod_lambda_109 : decode prog_12_method_25_code 109 = .ok (.iload_n 3, 1) := by decide +kernel
theorem d_Mod_lambda_110 : decode prog_12_method_25_code 110 = .ok (.iload_n 2, 1) := by decide +kernel
theorem d_Mod_lambda_111 : decode prog_12_method_25_code 111 = .ok (.invokevirtual 162, 3) := by decide +kernel
theorem d_Mod_lambda_114 : decode prog_12_method_25_code 114 = .ok (.istore 5, 2) := by decide +kernel
theorem d_Mod_lambda_116 : decode prog_12_method_25_code 116 = .ok (.aload_n 0, 1) := by decide +kernel
theorem d_Mod_lambda_117 : decode prog_12_method_25_code 117 = .ok (.getfield 166, 3) := by decide +kernel
theorem d_Mod_lambda_120 : decode prog_12_method_25_code 120 = .ok (.iload_n 2, 1) := by decide +kernel
theorem d_Mod_lambda_121 : decode prog_12_method_25_code 121 = .ok (.aload_n 0, 1) := by decide +kernel
theorem d_Mod_lambda_122 : decode prog_12_method_25_code 122 = .ok (.invokevirtual 169, 3) := by decide +kernel
theorem d_Mod_lambda_125 : decode prog_12_method_25_code 125 = .ok (.iastore, 1) := by decide +kernel
theorem d_Mod_lambda_126 : decode prog_12_method_25_code 126 = .ok (.aload_n 0, 1) := by decide +kernel
theorem d_Mod_lambda_127 : decode prog_12_method_25_code 127 = .ok (.dup, 1) := by decide +kernel
theorem d_Mod_lambda_128 : decode prog_12_method_25_code 128 = .ok (.getfield 125, 3) := by decide +kernel
theorem d_Mod_lambda_131 : decode prog_12_method_25_code 131 = .ok (.iconst 1, 1) := by decide +kernel
theorem d_Mod_lambda_132 : decode prog_12_method_25_code 132 = .ok (.isub, 1) := by decide +kernel
theorem d_Mod_lambda_133 : decode prog_12_method_25_code 133 = .ok (.putfield 125, 3) := by decide +kernel
theorem d_Mod_lambda_136 : decode prog_12_method_25_code 136 = .ok (.aload_n 0, 1) := by decide +kernel
theorem d_Mod_lambda_137 : decode prog_12_method_25_code 137 = .ok (.iload 4, 2) := by decide +kernel
theorem d_Mod_lambda_139 : decode prog_12_method_25_code 139 = .ok (.putfield 159, 3) := by decide +kernel
theorem d_Mod_lambda_142 : decode prog_12_method_25_code 142 = .ok (.aload_n 0, 1) := by decide +kernel
theorem d_Mod_lambda_143 : decode prog_12_method_25_code 143 = .ok (.dup, 1) := by decide +kernel
theorem d_Mod_lambda_144 : decode prog_12_method_25_code 144 = .ok (.getfield 109, 3) := by decide +kernel
theorem d_Mod_lambda_147 : decode prog_12_method_25_code 147 = .ok (.iconst 1, 1) := by decide +kernel
theorem d_Mod_lambda_148 : decode prog_12_method_25_code 148 = .ok (.isub, 1) := by decide +kernel
theorem d_Mod_lambda_149 : decode prog_12_method_25_code 149 = .ok (.putfield 109, 3) := by decide +kernel
theorem d_Mod_lambda_152 : decode prog_12_method_25_code 152 = .ok (.aload_n 0, 1) := by decide +kernel
theorem d_Mod_lambda_153 : decode prog_12_method_25_code 153 = .ok (.iconst 4, 1) := by decide +kernel
theorem d_Mod_lambda_154 : decode prog_12_method_25_code 154 = .ok (.iload_n 2, 1) := by decide +kernel
theorem d_Mod_lambda_155 : decode prog_12_method_25_code 155 = .ok (.iload 5, 2) := by decide +kernel
theorem d_Mod_lambda_157 : decode prog_12_method_25_code 157 = .ok (.iconst (-1), 1) := by decide +kernel
theorem d_Mod_lambda_158 : decode prog_12_method_25_code 158 = .ok (.iconst 0, 1) := by decide +kernel
theorem d_Mod_lambda_159 : decode prog_12_method_25_code 159 = .ok (.invokevirtual 172, 3) := by decide +kernel
theorem d_Mod_lambda_162 : decode prog_12_method_25_code 162 = .ok (.ireturn, 1) := by decide +kernel
def fm_Mod_lambda_b (rc_expression : fa_W → Option (Int × fa_W)) (w : fa_W) : Option (Int × fa_W) :=
  fa_let (w 181 26) fun x1_1 =>
  if fa_wr (w 181 18) = 18 then
  (fa_l2 (fm_Mod_fails x1_1 w) fun v40 w41 =>
  some (v40, w41))
  else
  (fa_l2 (fm_Mod_begins x1_1 w) fun v4 w5 =>
  if v4 = true then
  (fa_l2 (fm_Mod_opens x1_1 w5) fun v8 w9 =>
  if v8 = true then
  (fa_let (6 + (w9 181 18)) fun x2_11 =>
  fa_let (fa_st w9 181 18 ((w9 181 18) + 1)) fun w12 =>
  fa_let (fa_st w12 181 26 ((w12 181 26) + 1)) fun w13 =>
  fa_bd (fm_Mod_gives w13) fun v15 w16 =>
  (fm_Mod_asks 46 w16).bind fun w18 =>
  if fm_Mod_hasFailed w18 = true then
  some ((-1), w18)
  else
  ((fa_ix x2_11 24).bind fun j21 =>
  fa_let (fa_st w18 191 j21 (w18 181 30)) fun w22 =>
  fa_let (w22 181 30) fun x4_23 =>
  fa_let (fa_st w22 181 30 x2_11) fun w24 =>
  fa_bd (fm_Mod_sees x2_11 v15 x2_11 w24) fun v26 w27 =>
  fa_bd (rc_expression w27) fun v29 w30 =>
  (fa_ix x2_11 24).bind fun j31 =>
  fa_let (fa_st w30 189 j31 v29) fun w32 =>
  fa_let (fa_st w32 181 33 ((w32 181 33) - 1)) fun w33 =>
  fa_let (fa_st w33 181 30 x4_23) fun w34 =>
  fa_let (fa_st w34 181 29 ((w34 181 29) - 1)) fun w35 =>
  fa_bd (fm_Mod_node 4 x2_11 v26 (-1) 0 w35) fun v37 w38 =>
  some (v37, w38)))
  else
  some ((-1), w9))
  else
  some ((-1), w5))
set_option maxHeartbeats 4000000 in
set_option maxRecDepth 100000 in
theorem c_Mod_lambda_b {l : Launch} {D : va_G} {b : Nat} {aC : Nat → ClassId} {H0 : Heap} {N T : Nat} (hN : fa_NM ≤ N) (hT : fa_TM ≤ T) (dd : Nat) (rc_expression : fa_W → Option (Int × fa_W)) (Rrc_expression : ∀ (w : fa_W) (r : Int × fa_W), rc_expression w = some r → fa_MC l D b aC H0 N T y_Mod_expression prog_12_method_24_code 2 ((Option.some Jvm.ClassFile.FieldType.int)) (5 + dd) [.ref (b + 181)] w (some (.int (fa_I r.1))) r.2)  (w : fa_W) (r : Int × fa_W) (hM : fm_Mod_lambda_b rc_expression w = some r) : fa_MC l D b aC H0 N T y_Mod_lambda prog_12_method_25_code 6 ((Option.some Jvm.ClassFile.FieldType.int)) (5 + dd + 1) [.ref (b + 181)] w (some (.int (fa_I r.1))) r.2 := by
  refine fa_enter (lv := [(0, .ref (b + 181))]) (by decide +kernel) (Nat.le_of_ble_eq_true rfl) rfl (fun hh hle hnm X => ?_)
  unfold fm_Mod_lambda_b at hM
  refine g_aload_n X 0 rfl d_Mod_lambda_0 ?_
  refine g_get X ck_10 fo_181 (fn_181 hN) 26 (by decide) wd_1767 rfl (fa_fvI rfl) d_Mod_lambda_1 ?_
  refine g_istore_n X (fun x1_1 => [(1, .int (fa_I x1_1)), (0, .ref (b + 181))]) d_Mod_lambda_4 (by decide) (fun _ => rfl) (fun x1_1 ex1_1 => ?_)
  have hM := fa_let_to hM ex1_1
  refine g_aload_n X 1 rfl d_Mod_lambda_5 ?_
  refine g_get X ck_10 fo_181 (fn_181 hN) 18 (by decide) wd_1760 rfl (fa_fvI rfl) d_Mod_lambda_6 ?_
  refine g_bipush X (by decide) d_Mod_lambda_9 ?_
  refine g_icmp_ne X 20 d_Mod_lambda_11 (by decide) (fun hc2 => ?_) (fun hc2 => ?_)
  · have hM := fa_if_f hM hc2
    refine g_aload_n X 1 rfl d_Mod_lambda_20 ?_
    refine g_iload_n X 0 rfl d_Mod_lambda_21 ?_
    obtain ⟨⟨v4, w5⟩, e3⟩ : ∃ q, fm_Mod_begins x1_1 w = q := ⟨_, rfl⟩
    have hM := fa_l2_e hM e3
    refine g_callV_i X ck_10 fo_181 (fn_181 hN) rfl mi_Mod_begins (c_Mod_begins hN hT x1_1 w _ e3) wd_1568 rfl (by omega) (st := []) (Nat.le_of_ble_eq_true rfl) rfl d_Mod_lambda_22 ?_
    refine g_ifb_eq X 36 d_Mod_lambda_25 (by decide) (fun hc6 => ?_) (fun hc6 => ?_)
    · have hM := fa_ifb_f hM hc6
      refine g_iconst X d_Mod_lambda_36 ?_
      cases hM
      exact g_iret X d_Mod_lambda_37
    · have hM := fa_ifb_t hM hc6
      refine g_aload_n X 1 rfl d_Mod_lambda_28 ?_
      refine g_iload_n X 0 rfl d_Mod_lambda_29 ?_
      obtain ⟨⟨v8, w9⟩, e7⟩ : ∃ q, fm_Mod_opens x1_1 w5 = q := ⟨_, rfl⟩
      have hM := fa_l2_e hM e7
      refine g_callV_i X ck_10 fo_181 (fn_181 hN) rfl mi_Mod_opens (c_Mod_opens hN hT x1_1 w5 _ e7) wd_1572 rfl (by omega) (st := []) (Nat.le_of_ble_eq_true rfl) rfl d_Mod_lambda_30 ?_
      refine g_ifb_ne X 38 d_Mod_lambda_33 (by decide) (fun hc10 => ?_) (fun hc10 => ?_)
      · have hM := fa_ifb_t hM hc10
        refine g_bipush X (by decide) d_Mod_lambda_38 ?_
        refine g_aload_n X 1 rfl d_Mod_lambda_40 ?_
        refine g_get X ck_10 fo_181 (fn_181 hN) 18 (by decide) wd_1760 rfl (fa_fvI rfl) d_Mod_lambda_41 ?_
        refine g_iadd X d_Mod_lambda_44 ?_
        refine g_istore_n X (fun x2_11 => [(2, .int (fa_I x2_11)), (1, .int (fa_I x1_1)), (0, .ref (b + 181))]) d_Mod_lambda_45 (by decide) (fun _ => rfl) (fun x2_11 ex2_11 => ?_)
        have hM := fa_let_to hM ex2_11
        refine g_aload_n X 2 rfl d_Mod_lambda_46 ?_
        refine g_dup X rfl d_Mod_lambda_47 ?_
        refine g_get X ck_10 fo_181 (fn_181 hN) 18 (by decide) wd_1760 rfl (fa_fvI rfl) d_Mod_lambda_48 ?_
        refine g_iconst X d_Mod_lambda_51 ?_
        refine g_iadd X d_Mod_lambda_52 ?_
        refine g_put X ck_10 fo_181 (fn_181 hN) 18 (z := ((w9 181 18) + 1)) (by decide) wd_1760 rfl (fa_fvI' rfl) rfl rfl rfl d_Mod_lambda_53 (fun w12 ew12 => ?_)
        have hM := fa_let_to hM ew12
        refine g_aload_n X 2 rfl d_Mod_lambda_56 ?_
        refine g_dup X rfl d_Mod_lambda_57 ?_
        refine g_get X ck_10 fo_181 (fn_181 hN) 26 (by decide) wd_1767 rfl (fa_fvI rfl) d_Mod_lambda_58 ?_
        refine g_iconst X d_Mod_lambda_61 ?_
        refine g_iadd X d_Mod_lambda_62 ?_
        refine g_put X ck_10 fo_181 (fn_181 hN) 26 (z := ((w12 181 26) + 1)) (by decide) wd_1767 rfl (fa_fvI' rfl) rfl rfl rfl d_Mod_lambda_63 (fun w13 ew13 => ?_)
        have hM := fa_let_to hM ew13
        refine g_aload_n X 2 rfl d_Mod_lambda_66 ?_
        obtain ⟨v15, w16, e14, hM⟩ := fa_obd hM
        refine g_callV_i X ck_10 fo_181 (fn_181 hN) rfl mi_Mod_gives (c_Mod_gives hN hT w13 _ e14) wd_1529 rfl (by omega) (st := []) (Nat.le_of_ble_eq_true rfl) rfl d_Mod_lambda_67 ?_
        refine g_istorec_n X [(3, .int (fa_I v15)), (2, .int (fa_I x2_11)), (1, .int (fa_I x1_1)), (0, .ref (b + 181))] d_Mod_lambda_70 (by decide) rfl ?_
        refine g_aload_n X 3 rfl d_Mod_lambda_71 ?_
        refine g_bipush X (by decide) d_Mod_lambda_72 ?_
        obtain ⟨w18, e17, hM⟩ := fa_ob hM
        refine g_callV_v X ck_10 fo_181 (fn_181 hN) rfl mi_Mod_asks (c_Mod_asks hN hT 46 w16 _ e17) wd_1548 rfl (by omega) (st := []) (Nat.le_of_ble_eq_true rfl) rfl d_Mod_lambda_74 ?_
        refine g_aload_n X 3 rfl d_Mod_lambda_77 ?_
        refine g_callV_i X ck_10 fo_181 (fn_181 hN) rfl mi_Mod_hasFailed (c_Mod_hasFailed hN hT w18 _ rfl) wd_1494 rfl (by omega) (st := []) (Nat.le_of_ble_eq_true rfl) rfl d_Mod_lambda_78 ?_
        refine g_ifb_eq X 86 d_Mod_lambda_81 (by decide) (fun hc20 => ?_) (fun hc20 => ?_)
        · have hM := fa_ifb_f hM hc20
          refine g_aload_n X 3 rfl d_Mod_lambda_86 ?_
          refine g_get X ck_10 fo_181 (fn_181 hN) 11 (by decide) wd_1753 rfl (fr_181_11 rfl hT) d_Mod_lambda_87 ?_
          refine g_iload_n X 1 rfl d_Mod_lambda_90 ?_
          refine g_aload_n X 3 rfl d_Mod_lambda_91 ?_
          refine g_get X ck_10 fo_181 (fn_181 hN) 30 (by decide) wd_1771 rfl (fa_fvI rfl) d_Mod_lambda_92 ?_
          obtain ⟨j21, ej21, hM⟩ := fa_ob hM
          refine g_iast X fs_191 (fn_191 hN) ej21 d_Mod_lambda_95 (fun w22 ew22 => ?_)
          have hM := fa_let_to hM ew22
          refine g_aload_n X 3 rfl d_Mod_lambda_96 ?_
          refine g_get X ck_10 fo_181 (fn_181 hN) 30 (by decide) wd_1771 rfl (fa_fvI rfl) d_Mod_lambda_97 ?_
          refine g_istore X (fun x4_23 => [(4, .int (fa_I x4_23)), (3, .int (fa_I v15)), (2, .int (fa_I x2_11)), (1, .int (fa_I x1_1)), (0, .ref (b + 181))]) d_Mod_lambda_100 (by decide) (fun _ => rfl) (fun x4_23 ex4_23 => ?_)
          have hM := fa_let_to hM ex4_23
          refine g_aload_n X 4 rfl d_Mod_lambda_102 ?_
          refine g_iload_n X 2 rfl d_Mod_lambda_103 ?_
          refine g_put X ck_10 fo_181 (fn_181 hN) 30 (z := x2_11) (by decide) wd_1771 rfl (fa_fvI' rfl) rfl rfl rfl d_Mod_lambda_104 (fun w24 ew24 => ?_)
          have hM := fa_let_to hM ew24
          refine g_aload_n X 4 rfl d_Mod_lambda_107 ?_
          refine g_iload_n X 2 rfl d_Mod_lambda_108 ?_
          refine g_iload_n X 1 rfl d_Mod_lambda_109 ?_
          refine g_iload_n X 2 rfl d_Mod_lambda_110 ?_
          obtain ⟨v26, w27, e25, hM⟩ := fa_obd hM
          refine g_callV_i X ck_10 fo_181 (fn_181 hN) rfl mi_Mod_sees (c_Mod_sees hN hT x2_11 v15 x2_11 w24 _ e25) wd_1556 rfl (by omega) (st := []) (Nat.le_of_ble_eq_true rfl) rfl d_Mod_lambda_111 ?_
          refine g_istorec X [(5, .int (fa_I v26)), (4, .int (fa_I x4_23)), (3, .int (fa_I v15)), (2, .int (fa_I x2_11)), (1, .int (fa_I x1_1)), (0, .ref (b + 181))] d_Mod_lambda_114 (by decide) rfl ?_
          refine g_aload_n X 5 rfl d_Mod_lambda_116 ?_
          refine g_get X ck_10 fo_181 (fn_181 hN) 9 (by decide) wd_1751 rfl (fr_181_9 rfl hT) d_Mod_lambda_117 ?_
          refine g_iload_n X 3 rfl d_Mod_lambda_120 ?_
          refine g_aload_n X 5 rfl d_Mod_lambda_121 ?_
          obtain ⟨v29, w30, e28, hM⟩ := fa_obd hM
          refine g_callV_i X ck_10 fo_181 (fn_181 hN) rfl mi_Mod_expression (Rrc_expression w27 _ e28) wd_1560 rfl (by omega) (st := [.int (fa_I x2_11), .ref (b + 189)]) (Nat.le_of_ble_eq_true rfl) rfl d_Mod_lambda_122 ?_
          obtain ⟨j31, ej31, hM⟩ := fa_ob hM
          refine g_iast X fs_189 (fn_189 hN) ej31 d_Mod_lambda_125 (fun w32 ew32 => ?_)
          have hM := fa_let_to hM ew32
          refine g_aload_n X 5 rfl d_Mod_lambda_126 ?_
          refine g_dup X rfl d_Mod_lambda_127 ?_
          refine g_get X ck_10 fo_181 (fn_181 hN) 33 (by decide) wd_1774 rfl (fa_fvI rfl) d_Mod_lambda_128 ?_
          refine g_iconst X d_Mod_lambda_131 ?_
          refine g_isub X d_Mod_lambda_132 ?_
          refine g_put X ck_10 fo_181 (fn_181 hN) 33 (z := ((w32 181 33) - 1)) (by decide) wd_1774 rfl (fa_fvI' rfl) rfl rfl rfl d_Mod_lambda_133 (fun w33 ew33 => ?_)
          have hM := fa_let_to hM ew33
          refine g_aload_n X 5 rfl d_Mod_lambda_136 ?_
          refine g_iload X 1 rfl d_Mod_lambda_137 ?_
          refine g_put X ck_10 fo_181 (fn_181 hN) 30 (z := x4_23) (by decide) wd_1771 rfl (fa_fvI' rfl) rfl rfl rfl d_Mod_lambda_139 (fun w34 ew34 => ?_)
          have hM := fa_let_to hM ew34
          refine g_aload_n X 5 rfl d_Mod_lambda_142 ?_
          refine g_dup X rfl d_Mod_lambda_143 ?_
          refine g_get X ck_10 fo_181 (fn_181 hN) 29 (by decide) wd_1770 rfl (fa_fvI rfl) d_Mod_lambda_144 ?_
          refine g_iconst X d_Mod_lambda_147 ?_
          refine g_isub X d_Mod_lambda_148 ?_
          refine g_put X ck_10 fo_181 (fn_181 hN) 29 (z := ((w34 181 29) - 1)) (by decide) wd_1770 rfl (fa_fvI' rfl) rfl rfl rfl d_Mod_lambda_149 (fun w35 ew35 => ?_)
          have hM := fa_let_to hM ew35
          refine g_aload_n X 5 rfl d_Mod_lambda_152 ?_
          refine g_iconst X d_Mod_lambda_153 ?_
          refine g_iload_n X 3 rfl d_Mod_lambda_154 ?_
          refine g_iload X 0 rfl d_Mod_lambda_155 ?_
          refine g_iconst X d_Mod_lambda_157 ?_
          refine g_iconst X d_Mod_lambda_158 ?_
          obtain ⟨v37, w38, e36, hM⟩ := fa_obd hM
          refine g_callV_i X ck_10 fo_181 (fn_181 hN) rfl mi_Mod_node (c_Mod_node hN hT 4 x2_11 v26 (-1) 0 w35 _ e36) wd_1576 rfl (by omega) (st := []) (Nat.le_of_ble_eq_true rfl) rfl d_Mod_lambda_159 ?_
          cases hM
          exact g_iret X d_Mod_lambda_162
        · have hM := fa_ifb_t hM hc20
          refine g_iconst X d_Mod_lambda_84 ?_
          cases hM
          exact g_iret X d_Mod_lambda_85
      · have hM := fa_ifb_f hM hc10
        refine g_iconst X d_Mod_lambda_36 ?_
        cases hM
        exact g_iret X d_Mod_lambda_37
  · have hM := fa_if_t hM hc2
    refine g_aload_n X 1 rfl d_Mod_lambda_14 ?_
    refine g_iload_n X 0 rfl d_Mod_lambda_15 ?_
    obtain ⟨⟨v40, w41⟩, e39⟩ : ∃ q, fm_Mod_fails x1_1 w = q := ⟨_, rfl⟩
    have hM := fa_l2_e hM e39
    refine g_callV_i X ck_10 fo_181 (fn_181 hN) rfl mi_Mod_fails (c_Mod_fails hN hT x1_1 w _ e39) wd_1517 rfl (by omega) (st := []) (Nat.le_of_ble_eq_true rfl) rfl d_Mod_lambda_16 ?_
    cases hM
    exact g_iret X d_Mod_lambda_19
theorem d_Mod_choice_0 : decode prog_12_method_26_code 0 = .ok (.aload_n 0, 1) := by decide +kernel
theorem d_Mod_choice_1 : decode prog_12_method_26_code 1 = .ok (.getfield 18, 3) := by decide +kernel
theorem d_Mod_choice_4 : decode prog_12_method_26_code 4 = .ok (.istore_n 1, 1) := by decide +kernel
theorem d_Mod_choice_5 : decode prog_12_method_26_code 5 = .ok (.aload_n 0, 1) := by decide +kernel
theorem d_Mod_choice_6 : decode prog_12_method_26_code 6 = .ok (.iload_n 1, 1) := by decide +kernel
theorem d_Mod_choice_7 : decode prog_12_method_26_code 7 = .ok (.invokevirtual 143, 3) := by decide +kernel
theorem d_Mod_choice_10 : decode prog_12_method_26_code 10 = .ok (.ifCond .eq 11, 3) := by decide +kernel
theorem d_Mod_choice_13 : decode prog_12_method_26_code 13 = .ok (.aload_n 0, 1) := by decide +kernel
theorem d_Mod_choice_14 : decode prog_12_method_26_code 14 = .ok (.iload_n 1, 1) := by decide +kernel
theorem d_Mod_choice_15 : decode prog_12_method_26_code 15 = .ok (.invokevirtual 146, 3) := by decide +kernel
theorem d_Mod_choice_18 : decode prog_12_method_26_code 18 = .ok (.ifCond .ne 5, 3) := by decide +kernel
theorem d_Mod_choice_21 : decode prog_12_method_26_code 21 = .ok (.iconst (-1), 1) := by decide +kernel
theorem d_Mod_choice_22 : decode prog_12_method_26_code 22 = .ok (.ireturn, 1) := by decide +kernel
theorem d_Mod_choice_23 : decode prog_12_method_26_code 23 = .ok (.aload_n 0, 1) := by decide +kernel
theorem d_Mod_choice_24 : decode prog_12_method_26_code 24 = .ok (.getstatic 60, 3) := by decide +kernel
theorem d_Mod_choice_27 : decode prog_12_method_26_code 27 = .ok (.invokevirtual 176, 3) := by decide +kernel
theorem d_Mod_choice_30 : decode prog_12_method_26_code 30 = .ok (.aload_n 0, 1) := by decide +kernel
theorem d_Mod_choice_31 : decode prog_12_method_26_code 31 = .ok (.invokevirtual 169, 3) := by decide +kernel
theorem d_Mod_choice_34 : decode prog_12_method_26_code 34 = .ok (.istore_n 2, 1) := by decide +kernel
theorem d_Mod_choice_35 : decode prog_12_method_26_code 35 = .ok (.aload_n 0, 1) := by decide +kernel
theorem d_Mod_choice_36 : decode prog_12_method_26_code 36 = .ok (.getstatic 63, 3) := by decide +kernel
theorem d_Mod_choice_39 : decode prog_12_method_26_code 39 = .ok (.invokevirtual 176, 3) := by decide +kernel
theorem d_Mod_choice_42 : decode prog_12_method_26_code 42 = .ok (.aload_n 0, 1) := by decide +kernel
theorem d_Mod_choice_43 : decode prog_12_method_26_code 43 = .ok (.invokevirtual 169, 3) := by decide +kernel
theorem d_Mod_choice_46 : decode prog_12_method_26_code 46 = .ok (.istore_n 3, 1) := by decide +kernel
theorem d_Mod_choice_47 : decode prog_12_method_26_code 47 = .ok (.aload_n 0, 1) := by decide +kernel
theorem d_Mod_choice_48 : decode prog_12_method_26_code 48 = .ok (.getstatic 66, 3) := by decide +kernel
theorem d_Mod_choice_51 : decode prog_12_method_26_code 51 = .ok (.invokevirtual 176, 3) := by decide +kernel
theorem d_Mod_choice_54 : decode prog_12_method_26_code 54 = .ok (.aload_n 0, 1) := by decide +kernel
theorem d_Mod_choice_55 : decode prog_12_method_26_code 55 = .ok (.invokevirtual 169, 3) := by decide +kernel
theorem d_Mod_choice_58 : decode prog_12_method_26_code 58 = .ok (.istore 4, 2) := by decide +kernel
theorem d_Mod_choice_60 : decode prog_12_method_26_code 60 = .ok (.aload_n 0, 1) := by decide +kernel
theorem d_Mod_choice_61 : decode prog_12_method_26_code 61 = .ok (.dup, 1) := by decide +kernel
theorem d_Mod_choice_62 : decode prog_12_method_26_code 62 = .ok (.getfield 109, 3) := by decide +kernel
theorem d_Mod_choice_65 : decode prog_12_method_26_code 65 = .ok (.iconst 1, 1) := by decide +kernel
theorem d_Mod_choice_66 : decode prog_12_method_26_code 66 = .ok (.isub, 1) := by decide +kernel
theorem d_Mod_choice_67 : decode prog_12_method_26_code 67 = .ok (.putfield 109, 3) := by decide +kernel
theorem d_Mod_choice_70 : decode prog_12_method_26_code 70 = .ok (.aload_n 0, 1) := by decide +kernel
theorem d_Mod_choice_71 : decode prog_12_method_26_code 71 = .ok (.iconst 5, 1) := by decide +kernel
theorem d_Mod_choice_72 : decode prog_12_method_26_code 72 = .ok (.iload_n 2, 1) := by decide +kernel
theorem d_Mod_choice_73 : decode prog_12_method_26_code 73 = .ok (.iload_n 3, 1) := by decide +kernel
theorem d_Mod_choice_74 : decode prog_12_method_26_code 74 = .ok (.iload 4, 2) := by decide +kernel
theorem d_Mod_choice_76 : decode prog_12_method_26_code 76 = .ok (.iconst 0, 1) := by decide +kernel
theorem d_Mod_choice_77 : decode prog_12_method_26_code 77 = .ok (.invokevirtual 172, 3) := by decide +kernel
theorem d_Mod_choice_80 : decode prog_12_method_26_code 80 = .ok (.ireturn, 1) := by decide +kernel
def fm_Mod_choice_b (rc_expression : fa_W → Option (Int × fa_W)) (w : fa_W) : Option (Int × fa_W) :=
  fa_let (w 181 26) fun x1_1 =>
  fa_l2 (fm_Mod_begins x1_1 w) fun v3 w4 =>
  if v3 = true then
  (fa_l2 (fm_Mod_opens x1_1 w4) fun v7 w8 =>
  if v7 = true then
  ((fm_Mod_asksWord 249 w8).bind fun w11 =>
  fa_bd (rc_expression w11) fun v13 w14 =>
  (fm_Mod_asksWord 399641 w14).bind fun w16 =>
  fa_bd (rc_expression w16) fun v18 w19 =>
  (fm_Mod_asksWord 107681 w19).bind fun w21 =>
  fa_bd (rc_expression w21) fun v23 w24 =>
  fa_let (fa_st w24 181 29 ((w24 181 29) - 1)) fun w25 =>
  fa_bd (fm_Mod_node 5 v13 v18 v23 0 w25) fun v27 w28 =>
  some (v27, w28))
  else
  some ((-1), w8))
  else
  some ((-1), w4)
set_option maxHeartbeats 4000000 in
set_option maxRecDepth 100000 in
theorem c_Mod_choice_b {l : Launch} {D : va_G} {b : Nat} {aC : Nat → ClassId} {H0 : Heap} {N T : Nat} (hN : fa_NM ≤ N) (hT : fa_TM ≤ T) (dd : Nat) (rc_expression : fa_W → Option (Int × fa_W)) (Rrc_expression : ∀ (w : fa_W) (r : Int × fa_W), rc_expression w = some r → fa_MC l D b aC H0 N T y_Mod_expression prog_12_method_24_code 2 ((Option.some Jvm.ClassFile.FieldType.int)) (5 + dd) [.ref (b + 181)] w (some (.int (fa_I r.1))) r.2)  (w : fa_W) (r : Int × fa_W) (hM : fm_Mod_choice_b rc_expression w = some r) : fa_MC l D b aC H0 N T y_Mod_choice prog_12_method_26_code 5 ((Option.some Jvm.ClassFile.FieldType.int)) (5 + dd + 1) [.ref (b + 181)] w (some (.int (fa_I r.1))) r.2 := by
  refine fa_enter (lv := [(0, .ref (b + 181))]) (by decide +kernel) (Nat.le_of_ble_eq_true rfl) rfl (fun hh hle hnm X => ?_)
  unfold fm_Mod_choice_b at hM
  refine g_aload_n X 0 rfl d_Mod_choice_0 ?_
  refine g_get X ck_10 fo_181 (fn_181 hN) 26 (by decide) wd_1767 rfl (fa_fvI rfl) d_Mod_choice_1 ?_
  refine g_istore_n X (fun x1_1 => [(1, .int (fa_I x1_1)), (0, .ref (b + 181))]) d_Mod_choice_4 (by decide) (fun _ => rfl) (fun x1_1 ex1_1 => ?_)
  have hM := fa_let_to hM ex1_1
  refine g_aload_n X 1 rfl d_Mod_choice_5 ?_
  refine g_iload_n X 0 rfl d_Mod_choice_6 ?_
  obtain ⟨⟨v3, w4⟩, e2⟩ : ∃ q, fm_Mod_begins x1_1 w = q := ⟨_, rfl⟩
  have hM := fa_l2_e hM e2
  refine g_callV_i X ck_10 fo_181 (fn_181 hN) rfl mi_Mod_begins (c_Mod_begins hN hT x1_1 w _ e2) wd_1568 rfl (by omega) (st := []) (Nat.le_of_ble_eq_true rfl) rfl d_Mod_choice_7 ?_
  refine g_ifb_eq X 21 d_Mod_choice_10 (by decide) (fun hc5 => ?_) (fun hc5 => ?_)
  · have hM := fa_ifb_f hM hc5
    refine g_iconst X d_Mod_choice_21 ?_
    cases hM
    exact g_iret X d_Mod_choice_22
  · have hM := fa_ifb_t hM hc5
    refine g_aload_n X 1 rfl d_Mod_choice_13 ?_
    refine g_iload_n X 0 rfl d_Mod_choice_14 ?_
    obtain ⟨⟨v7, w8⟩, e6⟩ : ∃ q, fm_Mod_opens x1_1 w4 = q := ⟨_, rfl⟩
    have hM := fa_l2_e hM e6
    refine g_callV_i X ck_10 fo_181 (fn_181 hN) rfl mi_Mod_opens (c_Mod_opens hN hT x1_1 w4 _ e6) wd_1572 rfl (by omega) (st := []) (Nat.le_of_ble_eq_true rfl) rfl d_Mod_choice_15 ?_
    refine g_ifb_ne X 23 d_Mod_choice_18 (by decide) (fun hc9 => ?_) (fun hc9 => ?_)
    · have hM := fa_ifb_t hM hc9
      refine g_aload_n X 1 rfl d_Mod_choice_23 ?_
      refine g_gets X (n := "IFS") (v := 249) (z := 249) (by decide) wd_1536 rfl d_Mod_choice_24 ?_
      obtain ⟨w11, e10, hM⟩ := fa_ob hM
      refine g_callV_v X ck_10 fo_181 (fn_181 hN) rfl mi_Mod_asksWord (c_Mod_asksWord hN hT 249 w8 _ e10) wd_1521 rfl (by omega) (st := []) (Nat.le_of_ble_eq_true rfl) rfl d_Mod_choice_27 ?_
      refine g_aload_n X 1 rfl d_Mod_choice_30 ?_
      obtain ⟨v13, w14, e12, hM⟩ := fa_obd hM
      refine g_callV_i X ck_10 fo_181 (fn_181 hN) rfl mi_Mod_expression (Rrc_expression w11 _ e12) wd_1560 rfl (by omega) (st := []) (Nat.le_of_ble_eq_true rfl) rfl d_Mod_choice_31 ?_
      refine g_istorec_n X [(2, .int (fa_I v13)), (1, .int (fa_I x1_1)), (0, .ref (b + 181))] d_Mod_choice_34 (by decide) rfl ?_
      refine g_aload_n X 2 rfl d_Mod_choice_35 ?_
      refine g_gets X (n := "THEN") (v := 399641) (z := 399641) (by decide) wd_1538 rfl d_Mod_choice_36 ?_
      obtain ⟨w16, e15, hM⟩ := fa_ob hM
      refine g_callV_v X ck_10 fo_181 (fn_181 hN) rfl mi_Mod_asksWord (c_Mod_asksWord hN hT 399641 w14 _ e15) wd_1521 rfl (by omega) (st := []) (Nat.le_of_ble_eq_true rfl) rfl d_Mod_choice_39 ?_
      refine g_aload_n X 2 rfl d_Mod_choice_42 ?_
      obtain ⟨v18, w19, e17, hM⟩ := fa_obd hM
      refine g_callV_i X ck_10 fo_181 (fn_181 hN) rfl mi_Mod_expression (Rrc_expression w16 _ e17) wd_1560 rfl (by omega) (st := []) (Nat.le_of_ble_eq_true rfl) rfl d_Mod_choice_43 ?_
      refine g_istorec_n X [(3, .int (fa_I v18)), (2, .int (fa_I v13)), (1, .int (fa_I x1_1)), (0, .ref (b + 181))] d_Mod_choice_46 (by decide) rfl ?_
      refine g_aload_n X 3 rfl d_Mod_choice_47 ?_
      refine g_gets X (n := "ELSE") (v := 107681) (z := 107681) (by decide) wd_1540 rfl d_Mod_choice_48 ?_
      obtain ⟨w21, e20, hM⟩ := fa_ob hM
      refine g_callV_v X ck_10 fo_181 (fn_181 hN) rfl mi_Mod_asksWord (c_Mod_asksWord hN hT 107681 w19 _ e20) wd_1521 rfl (by omega) (st := []) (Nat.le_of_ble_eq_true rfl) rfl d_Mod_choice_51 ?_
      refine g_aload_n X 3 rfl d_Mod_choice_54 ?_
      obtain ⟨v23, w24, e22, hM⟩ := fa_obd hM
      refine g_callV_i X ck_10 fo_181 (fn_181 hN) rfl mi_Mod_expression (Rrc_expression w21 _ e22) wd_1560 rfl (by omega) (st := []) (Nat.le_of_ble_eq_true rfl) rfl d_Mod_choice_55 ?_
      refine g_istorec X [(4, .int (fa_I v23)), (3, .int (fa_I v18)), (2, .int (fa_I v13)), (1, .int (fa_I x1_1)), (0, .ref (b + 181))] d_Mod_choice_58 (by decide) rfl ?_
      refine g_aload_n X 4 rfl d_Mod_choice_60 ?_
      refine g_dup X rfl d_Mod_choice_61 ?_
      refine g_get X ck_10 fo_181 (fn_181 hN) 29 (by decide) wd_1770 rfl (fa_fvI rfl) d_Mod_choice_62 ?_
      refine g_iconst X d_Mod_choice_65 ?_
      refine g_isub X d_Mod_choice_66 ?_
      refine g_put X ck_10 fo_181 (fn_181 hN) 29 (z := ((w24 181 29) - 1)) (by decide) wd_1770 rfl (fa_fvI' rfl) rfl rfl rfl d_Mod_choice_67 (fun w25 ew25 => ?_)
      have hM := fa_let_to hM ew25
      refine g_aload_n X 4 rfl d_Mod_choice_70 ?_
      refine g_iconst X d_Mod_choice_71 ?_
      refine g_iload_n X 2 rfl d_Mod_choice_72 ?_
      refine g_iload_n X 1 rfl d_Mod_choice_73 ?_
      refine g_iload X 0 rfl d_Mod_choice_74 ?_
      refine g_iconst X d_Mod_choice_76 ?_
      obtain ⟨v27, w28, e26, hM⟩ := fa_obd hM
      refine g_callV_i X ck_10 fo_181 (fn_181 hN) rfl mi_Mod_node (c_Mod_node hN hT 5 v13 v18 v23 0 w25 _ e26) wd_1576 rfl (by omega) (st := []) (Nat.le_of_ble_eq_true rfl) rfl d_Mod_choice_77 ?_
      cases hM
      exact g_iret X d_Mod_choice_80
    · have hM := fa_ifb_f hM hc9
      refine g_iconst X d_Mod_choice_21 ?_
      cases hM
      exact g_iret X d_Mod_choice_22
theorem d_Mod_let_0 : decode prog_12_method_27_code 0 = .ok (.aload_n 0, 1) := by decide +kernel
theorem d_Mod_let_1 : decode prog_12_method_27_code 1 = .ok (.getfield 18, 3) := by decide +kernel
theorem d_Mod_let_4 : decode prog_12_method_27_code 4 = .ok (.istore_n 1, 1) := by decide +kernel
theorem d_Mod_let_5 : decode prog_12_method_27_code 5 = .ok (.aload_n 0, 1) := by decide +kernel
theorem d_Mod_let_6 : decode prog_12_method_27_code 6 = .ok (.iload_n 1, 1) := by decide +kernel
theorem d_Mod_let_7 : decode prog_12_method_27_code 7 = .ok (.invokevirtual 143, 3) := by decide +kernel
theorem d_Mod_let_10 : decode prog_12_method_27_code 10 = .ok (.ifCond .eq 11, 3) := by decide +kernel
theorem d_Mod_let_13 : decode prog_12_method_27_code 13 = .ok (.aload_n 0, 1) := by decide +kernel
theorem d_Mod_let_14 : decode prog_12_method_27_code 14 = .ok (.iload_n 1, 1) := by decide +kernel
theorem d_Mod_let_15 : decode prog_12_method_27_code 15 = .ok (.invokevirtual 146, 3) := by decide +kernel
theorem d_Mod_let_18 : decode prog_12_method_27_code 18 = .ok (.ifCond .ne 5, 3) := by decide +kernel
theorem d_Mod_let_21 : decode prog_12_method_27_code 21 = .ok (.iconst (-1), 1) := by decide +kernel
theorem d_Mod_let_22 : decode prog_12_method_27_code 22 = .ok (.ireturn, 1) := by decide +kernel
theorem d_Mod_let_23 : decode prog_12_method_27_code 23 = .ok (.aload_n 0, 1) := by decide +kernel
theorem d_Mod_let_24 : decode prog_12_method_27_code 24 = .ok (.getstatic 72, 3) := by decide +kernel
theorem d_Mod_let_27 : decode prog_12_method_27_code 27 = .ok (.invokevirtual 176, 3) := by decide +kernel
theorem d_Mod_let_30 : decode prog_12_method_27_code 30 = .ok (.aload_n 0, 1) := by decide +kernel
theorem d_Mod_let_31 : decode prog_12_method_27_code 31 = .ok (.invokevirtual 149, 3) := by decide +kernel
theorem d_Mod_let_34 : decode prog_12_method_27_code 34 = .ok (.istore_n 2, 1) := by decide +kernel
theorem d_Mod_let_35 : decode prog_12_method_27_code 35 = .ok (.aload_n 0, 1) := by decide +kernel
theorem d_Mod_let_36 : decode prog_12_method_27_code 36 = .ok (.bipush 61, 2) := by decide +kernel
theorem d_Mod_let_38 : decode prog_12_method_27_code 38 = .ok (.invokevirtual 152, 3) := by decide +kernel
theorem d_Mod_let_41 : decode prog_12_method_27_code 41 = .ok (.aload_n 0, 1) := by decide +kernel
theorem d_Mod_let_42 : decode prog_12_method_27_code 42 = .ok (.invokevirtual 169, 3) := by decide +kernel
theorem d_Mod_let_45 : decode prog_12_method_27_code 45 = .ok (.istore_n 3, 1) := by decide +kernel
theorem d_Mod_let_46 : decode prog_12_method_27_code 46 = .ok (.aload_n 0, 1) := by decide +kernel
theorem d_Mod_let_47 : decode prog_12_method_27_code 47 = .ok (.getstatic 69, 3) := by decide +kernel
theorem d_Mod_let_50 : decode prog_12_method_27_code 50 = .ok (.invokevirtual 176, 3) := by decide +kernel
theorem d_Mod_let_53 : decode prog_12_method_27_code 53 = .ok (.aload_n 0, 1) := by decide +kernel
theorem d_Mod_let_54 : decode prog_12_method_27_code 54 = .ok (.invokevirtual 41, 3) := by decide +kernel
theorem d_Mod_let_57 : decode prog_12_method_27_code 57 = .ok (.ifCond .eq 5, 3) := by decide +kernel
theorem d_Mod_let_60 : decode prog_12_method_27_code 60 = .ok (.iconst (-1), 1) := by decide +kernel
theorem d_Mod_let_61 : decode prog_12_method_27_code 61 = .ok (.ireturn, 1) := by decide +kernel
theorem d_Mod_let_62 : decode prog_12_method_27_code 62 = .ok (.aload_n 0, 1) := by decide +kernel
theorem d_Mod_let_63 : decode prog_12_method_27_code 63 = .ok (.bipush 24, 2) := by decide +kernel
theorem d_Mod_let_65 : decode prog_12_method_27_code 65 = .ok (.aload_n 0, 1) := by decide +kernel
theorem d_Mod_let_66 : decode prog_12_method_27_code 66 = .ok (.getfield 179, 3) := by decide +kernel
theorem d_Mod_let_69 : decode prog_12_method_27_code 69 = .ok (.iadd, 1) := by decide +kernel
theorem d_Mod_let_70 : decode prog_12_method_27_code 70 = .ok (.iload_n 2, 1) := by decide +kernel
theorem d_Mod_let_71 : decode prog_12_method_27_code 71 = .ok (.aload_n 0, 1) := by decide +kernel
theorem d_Mod_let_72 : decode prog_12_method_27_code 72 = .ok (.getfield 159, 3) := by decide +kernel
theorem d_Mod_let_75 : decode prog_12_method_27_code 75 = .ok (.invokevirtual 162, 3) := by decide +kernel
theorem d_Mod_let_78 : decode prog_12_method_27_code 78 = .ok (.istore 4, 2) := by decide +kernel
theorem d_Mod_let_80 : decode prog_12_method_27_code 80 = .ok (.aload_n 0, 1) := by decide +kernel
theorem d_Mod_let_81 : decode prog_12_method_27_code 81 = .ok (.dup, 1) := by decide +kernel
theorem d_Mod_let_82 : decode prog_12_method_27_code 82 = .ok (.getfield 179, 3) := by decide +kernel
theorem d_Mod_let_85 : decode prog_12_method_27_code 85 = .ok (.iconst 1, 1) := by decide +kernel
theorem d_Mod_let_86 : decode prog_12_method_27_code 86 = .ok (.iadd, 1) := by decide +kernel
theorem d_Mod_let_87 : decode prog_12_method_27_code 87 = .ok (.putfield 179, 3) := by decide +kernel
theorem d_Mod_let_90 : decode prog_12_method_27_code 90 = .ok (.aload_n 0, 1) := by decide +kernel
theorem d_Mod_let_91 : decode prog_12_method_27_code 91 = .ok (.invokevirtual 169, 3) := by decide +kernel
theorem d_Mod_let_94 : decode prog_12_method_27_code 94 = .ok (.istore 5, 2) := by decide +kernel
theorem d_Mod_let_96 : decode prog_12_method_27_code 96 = .ok (.aload_n 0, 1) := by decide +kernel
theorem d_Mod_let_97 : decode prog_12_method_27_code 97 = .ok (.dup, 1) := by decide +kernel
theorem d_Mod_let_98 : decode prog_12_method_27_code 98 = .ok (.getfield 125, 3) := by decide +kernel
theorem d_Mod_let_101 : decode prog_12_method_27_code 101 = .ok (.iconst 1, 1) := by decide +kernel
theorem d_Mod_let_102 : decode prog_12_method_27_code 102 = .ok (.isub, 1) := by decide +kernel
theorem d_Mod_let_103 : decode prog_12_method_27_code 103 = .ok (.putfield 125, 3) := by decide +kernel
theorem d_Mod_let_106 : decode prog_12_method_27_code 106 = .ok (.aload_n 0, 1) := by decide +kernel
theorem d_Mod_let_107 : decode prog_12_method_27_code 107 = .ok (.dup, 1) := by decide +kernel
theorem d_Mod_let_108 : decode prog_12_method_27_code 108 = .ok (.getfield 109, 3) := by decide +kernel
theorem d_Mod_let_111 : decode prog_12_method_27_code 111 = .ok (.iconst 1, 1) := by decide +kernel
theorem d_Mod_let_112 : decode prog_12_method_27_code 112 = .ok (.isub, 1) := by decide +kernel
theorem d_Mod_let_113 : decode prog_12_method_27_code 113 = .ok (.putfield 109, 3) := by decide +kernel
theorem d_Mod_let_116 : decode prog_12_method_27_code 116 = .ok (.aload_n 0, 1) := by decide +kernel
theorem d_Mod_let_117 : decode prog_12_method_27_code 117 = .ok (.bipush 6, 2) := by decide +kernel
theorem d_Mod_let_119 : decode prog_12_method_27_code 119 = .ok (.iload_n 3, 1) := by decide +kernel
theorem d_Mod_let_120 : decode prog_12_method_27_code 120 = .ok (.iload 5, 2) := by decide +kernel
theorem d_Mod_let_122 : decode prog_12_method_27_code 122 = .ok (.iload 4, 2) := by decide +kernel
theorem d_Mod_let_124 : decode prog_12_method_27_code 124 = .ok (.iconst 0, 1) := by decide +kernel
theorem d_Mod_let_125 : decode prog_12_method_27_code 125 = .ok (.invokevirtual 172, 3) := by decide +kernel
theorem d_Mod_let_128 : decode prog_12_method_27_code 128 = .ok (.ireturn, 1) := by decide +kernel
def fm_Mod_let_b (rc_expression : fa_W → Option (Int × fa_W)) (w : fa_W) : Option (Int × fa_W) :=
  fa_let (w 181 26) fun x1_1 =>
  fa_l2 (fm_Mod_begins x1_1 w) fun v3 w4 =>
  if v3 = true then
  (fa_l2 (fm_Mod_opens x1_1 w4) fun v7 w8 =>
  if v7 = true then
  ((fm_Mod_asksWord 8903 w8).bind fun w11 =>
  fa_bd (fm_Mod_gives w11) fun v13 w14 =>
  (fm_Mod_asks 61 w14).bind fun w16 =>
  fa_bd (rc_expression w16) fun v18 w19 =>
  (fm_Mod_asksWord 257 w19).bind fun w21 =>
  if fm_Mod_hasFailed w21 = true then
  some ((-1), w21)
  else
  (fa_bd (fm_Mod_sees (24 + (w21 181 19)) v13 (w21 181 30) w21) fun v25 w26 =>
  fa_let (fa_st w26 181 19 ((w26 181 19) + 1)) fun w27 =>
  fa_bd (rc_expression w27) fun v29 w30 =>
  fa_let (fa_st w30 181 33 ((w30 181 33) - 1)) fun w31 =>
  fa_let (fa_st w31 181 29 ((w31 181 29) - 1)) fun w32 =>
  fa_bd (fm_Mod_node 6 v18 v29 v25 0 w32) fun v34 w35 =>
  some (v34, w35)))
  else
  some ((-1), w8))
  else
  some ((-1), w4)
set_option maxHeartbeats 4000000 in
set_option maxRecDepth 100000 in
theorem c_Mod_let_b {l : Launch} {D : va_G} {b : Nat} {aC : Nat → ClassId} {H0 : Heap} {N T : Nat} (hN : fa_NM ≤ N) (hT : fa_TM ≤ T) (dd : Nat) (rc_expression : fa_W → Option (Int × fa_W)) (Rrc_expression : ∀ (w : fa_W) (r : Int × fa_W), rc_expression w = some r → fa_MC l D b aC H0 N T y_Mod_expression prog_12_method_24_code 2 ((Option.some Jvm.ClassFile.FieldType.int)) (5 + dd) [.ref (b + 181)] w (some (.int (fa_I r.1))) r.2)  (w : fa_W) (r : Int × fa_W) (hM : fm_Mod_let_b rc_expression w = some r) : fa_MC l D b aC H0 N T y_Mod_let prog_12_method_27_code 6 ((Option.some Jvm.ClassFile.FieldType.int)) (5 + dd + 1) [.ref (b + 181)] w (some (.int (fa_I r.1))) r.2 := by
  refine fa_enter (lv := [(0, .ref (b + 181))]) (by decide +kernel) (Nat.le_of_ble_eq_true rfl) rfl (fun hh hle hnm X => ?_)
  unfold fm_Mod_let_b at hM
  refine g_aload_n X 0 rfl d_Mod_let_0 ?_
  refine g_get X ck_10 fo_181 (fn_181 hN) 26 (by decide) wd_1767 rfl (fa_fvI rfl) d_Mod_let_1 ?_
  refine g_istore_n X (fun x1_1 => [(1, .int (fa_I x1_1)), (0, .ref (b + 181))]) d_Mod_let_4 (by decide) (fun _ => rfl) (fun x1_1 ex1_1 => ?_)
  have hM := fa_let_to hM ex1_1
  refine g_aload_n X 1 rfl d_Mod_let_5 ?_
  refine g_iload_n X 0 rfl d_Mod_let_6 ?_
  obtain ⟨⟨v3, w4⟩, e2⟩ : ∃ q, fm_Mod_begins x1_1 w = q := ⟨_, rfl⟩
  have hM := fa_l2_e hM e2
  refine g_callV_i X ck_10 fo_181 (fn_181 hN) rfl mi_Mod_begins (c_Mod_begins hN hT x1_1 w _ e2) wd_1568 rfl (by omega) (st := []) (Nat.le_of_ble_eq_true rfl) rfl d_Mod_let_7 ?_
  refine g_ifb_eq X 21 d_Mod_let_10 (by decide) (fun hc5 => ?_) (fun hc5 => ?_)
  · have hM := fa_ifb_f hM hc5
    refine g_iconst X d_Mod_let_21 ?_
    cases hM
    exact g_iret X d_Mod_let_22
  · have hM := fa_ifb_t hM hc5
    refine g_aload_n X 1 rfl d_Mod_let_13 ?_
    refine g_iload_n X 0 rfl d_Mod_let_14 ?_
    obtain ⟨⟨v7, w8⟩, e6⟩ : ∃ q, fm_Mod_opens x1_1 w4 = q := ⟨_, rfl⟩
    have hM := fa_l2_e hM e6
    refine g_callV_i X ck_10 fo_181 (fn_181 hN) rfl mi_Mod_opens (c_Mod_opens hN hT x1_1 w4 _ e6) wd_1572 rfl (by omega) (st := []) (Nat.le_of_ble_eq_true rfl) rfl d_Mod_let_15 ?_
    refine g_ifb_ne X 23 d_Mod_let_18 (by decide) (fun hc9 => ?_) (fun hc9 => ?_)
    · have hM := fa_ifb_t hM hc9
      refine g_aload_n X 1 rfl d_Mod_let_23 ?_
      refine g_gets X (n := "LET_WORD") (v := 8903) (z := 8903) (by decide) wd_1544 rfl d_Mod_let_24 ?_
      obtain ⟨w11, e10, hM⟩ := fa_ob hM
      refine g_callV_v X ck_10 fo_181 (fn_181 hN) rfl mi_Mod_asksWord (c_Mod_asksWord hN hT 8903 w8 _ e10) wd_1521 rfl (by omega) (st := []) (Nat.le_of_ble_eq_true rfl) rfl d_Mod_let_27 ?_
      refine g_aload_n X 1 rfl d_Mod_let_30 ?_
      obtain ⟨v13, w14, e12, hM⟩ := fa_obd hM
      refine g_callV_i X ck_10 fo_181 (fn_181 hN) rfl mi_Mod_gives (c_Mod_gives hN hT w11 _ e12) wd_1529 rfl (by omega) (st := []) (Nat.le_of_ble_eq_true rfl) rfl d_Mod_let_31 ?_
      refine g_istorec_n X [(2, .int (fa_I v13)), (1, .int (fa_I x1_1)), (0, .ref (b + 181))] d_Mod_let_34 (by decide) rfl ?_
      refine g_aload_n X 2 rfl d_Mod_let_35 ?_
      refine g_bipush X (by decide) d_Mod_let_36 ?_
      obtain ⟨w16, e15, hM⟩ := fa_ob hM
      refine g_callV_v X ck_10 fo_181 (fn_181 hN) rfl mi_Mod_asks (c_Mod_asks hN hT 61 w14 _ e15) wd_1548 rfl (by omega) (st := []) (Nat.le_of_ble_eq_true rfl) rfl d_Mod_let_38 ?_
      refine g_aload_n X 2 rfl d_Mod_let_41 ?_
      obtain ⟨v18, w19, e17, hM⟩ := fa_obd hM
      refine g_callV_i X ck_10 fo_181 (fn_181 hN) rfl mi_Mod_expression (Rrc_expression w16 _ e17) wd_1560 rfl (by omega) (st := []) (Nat.le_of_ble_eq_true rfl) rfl d_Mod_let_42 ?_
      refine g_istorec_n X [(3, .int (fa_I v18)), (2, .int (fa_I v13)), (1, .int (fa_I x1_1)), (0, .ref (b + 181))] d_Mod_let_45 (by decide) rfl ?_
      refine g_aload_n X 3 rfl d_Mod_let_46 ?_
      refine g_gets X (n := "LETS_IN") (v := 257) (z := 257) (by decide) wd_1542 rfl d_Mod_let_47 ?_
      obtain ⟨w21, e20, hM⟩ := fa_ob hM
      refine g_callV_v X ck_10 fo_181 (fn_181 hN) rfl mi_Mod_asksWord (c_Mod_asksWord hN hT 257 w19 _ e20) wd_1521 rfl (by omega) (st := []) (Nat.le_of_ble_eq_true rfl) rfl d_Mod_let_50 ?_
      refine g_aload_n X 3 rfl d_Mod_let_53 ?_
      refine g_callV_i X ck_10 fo_181 (fn_181 hN) rfl mi_Mod_hasFailed (c_Mod_hasFailed hN hT w21 _ rfl) wd_1494 rfl (by omega) (st := []) (Nat.le_of_ble_eq_true rfl) rfl d_Mod_let_54 ?_
      refine g_ifb_eq X 62 d_Mod_let_57 (by decide) (fun hc23 => ?_) (fun hc23 => ?_)
      · have hM := fa_ifb_f hM hc23
        refine g_aload_n X 3 rfl d_Mod_let_62 ?_
        refine g_bipush X (by decide) d_Mod_let_63 ?_
        refine g_aload_n X 3 rfl d_Mod_let_65 ?_
        refine g_get X ck_10 fo_181 (fn_181 hN) 19 (by decide) wd_1761 rfl (fa_fvI rfl) d_Mod_let_66 ?_
        refine g_iadd X d_Mod_let_69 ?_
        refine g_iload_n X 1 rfl d_Mod_let_70 ?_
        refine g_aload_n X 3 rfl d_Mod_let_71 ?_
        refine g_get X ck_10 fo_181 (fn_181 hN) 30 (by decide) wd_1771 rfl (fa_fvI rfl) d_Mod_let_72 ?_
        obtain ⟨v25, w26, e24, hM⟩ := fa_obd hM
        refine g_callV_i X ck_10 fo_181 (fn_181 hN) rfl mi_Mod_sees (c_Mod_sees hN hT (24 + (w21 181 19)) v13 (w21 181 30) w21 _ e24) wd_1556 rfl (by omega) (st := []) (Nat.le_of_ble_eq_true rfl) rfl d_Mod_let_75 ?_
        refine g_istorec X [(4, .int (fa_I v25)), (3, .int (fa_I v18)), (2, .int (fa_I v13)), (1, .int (fa_I x1_1)), (0, .ref (b + 181))] d_Mod_let_78 (by decide) rfl ?_
        refine g_aload_n X 4 rfl d_Mod_let_80 ?_
        refine g_dup X rfl d_Mod_let_81 ?_
        refine g_get X ck_10 fo_181 (fn_181 hN) 19 (by decide) wd_1761 rfl (fa_fvI rfl) d_Mod_let_82 ?_
        refine g_iconst X d_Mod_let_85 ?_
        refine g_iadd X d_Mod_let_86 ?_
        refine g_put X ck_10 fo_181 (fn_181 hN) 19 (z := ((w26 181 19) + 1)) (by decide) wd_1761 rfl (fa_fvI' rfl) rfl rfl rfl d_Mod_let_87 (fun w27 ew27 => ?_)
        have hM := fa_let_to hM ew27
        refine g_aload_n X 4 rfl d_Mod_let_90 ?_
        obtain ⟨v29, w30, e28, hM⟩ := fa_obd hM
        refine g_callV_i X ck_10 fo_181 (fn_181 hN) rfl mi_Mod_expression (Rrc_expression w27 _ e28) wd_1560 rfl (by omega) (st := []) (Nat.le_of_ble_eq_true rfl) rfl d_Mod_let_91 ?_
        refine g_istorec X [(5, .int (fa_I v29)), (4, .int (fa_I v25)), (3, .int (fa_I v18)), (2, .int (fa_I v13)), (1, .int (fa_I x1_1)), (0, .ref (b + 181))] d_Mod_let_94 (by decide) rfl ?_
        refine g_aload_n X 5 rfl d_Mod_let_96 ?_
        refine g_dup X rfl d_Mod_let_97 ?_
        refine g_get X ck_10 fo_181 (fn_181 hN) 33 (by decide) wd_1774 rfl (fa_fvI rfl) d_Mod_let_98 ?_
        refine g_iconst X d_Mod_let_101 ?_
        refine g_isub X d_Mod_let_102 ?_
        refine g_put X ck_10 fo_181 (fn_181 hN) 33 (z := ((w30 181 33) - 1)) (by decide) wd_1774 rfl (fa_fvI' rfl) rfl rfl rfl d_Mod_let_103 (fun w31 ew31 => ?_)
        have hM := fa_let_to hM ew31
        refine g_aload_n X 5 rfl d_Mod_let_106 ?_
        refine g_dup X rfl d_Mod_let_107 ?_
        refine g_get X ck_10 fo_181 (fn_181 hN) 29 (by decide) wd_1770 rfl (fa_fvI rfl) d_Mod_let_108 ?_
        refine g_iconst X d_Mod_let_111 ?_
        refine g_isub X d_Mod_let_112 ?_
        refine g_put X ck_10 fo_181 (fn_181 hN) 29 (z := ((w31 181 29) - 1)) (by decide) wd_1770 rfl (fa_fvI' rfl) rfl rfl rfl d_Mod_let_113 (fun w32 ew32 => ?_)
        have hM := fa_let_to hM ew32
        refine g_aload_n X 5 rfl d_Mod_let_116 ?_
        refine g_bipush X (by decide) d_Mod_let_117 ?_
        refine g_iload_n X 2 rfl d_Mod_let_119 ?_
        refine g_iload X 0 rfl d_Mod_let_120 ?_
        refine g_iload X 1 rfl d_Mod_let_122 ?_
        refine g_iconst X d_Mod_let_124 ?_
        obtain ⟨v34, w35, e33, hM⟩ := fa_obd hM
        refine g_callV_i X ck_10 fo_181 (fn_181 hN) rfl mi_Mod_node (c_Mod_node hN hT 6 v18 v29 v25 0 w32 _ e33) wd_1576 rfl (by omega) (st := []) (Nat.le_of_ble_eq_true rfl) rfl d_Mod_let_125 ?_
        cases hM
        exact g_iret X d_Mod_let_128
      · have hM := fa_ifb_t hM hc23
        refine g_iconst X d_Mod_let_60 ?_
        cases hM
        exact g_iret X d_Mod_let_61
    · have hM := fa_ifb_f hM hc9
      refine g_iconst X d_Mod_let_21 ?_
      cases hM
      exact g_iret X d_Mod_let_22
theorem d_Mod_test_0 : decode prog_12_method_28_code 0 = .ok (.aload_n 0, 1) := by decide +kernel
theorem d_Mod_test_1 : decode prog_12_method_28_code 1 = .ok (.invokevirtual 182, 3) := by decide +kernel
theorem d_Mod_test_4 : decode prog_12_method_28_code 4 = .ok (.istore_n 1, 1) := by decide +kernel
theorem d_Mod_test_5 : decode prog_12_method_28_code 5 = .ok (.aload_n 0, 1) := by decide +kernel
theorem d_Mod_test_6 : decode prog_12_method_28_code 6 = .ok (.invokevirtual 41, 3) := by decide +kernel
theorem d_Mod_test_9 : decode prog_12_method_28_code 9 = .ok (.ifCond .ne 12, 3) := by decide +kernel
theorem d_Mod_test_12 : decode prog_12_method_28_code 12 = .ok (.aload_n 0, 1) := by decide +kernel
theorem d_Mod_test_13 : decode prog_12_method_28_code 13 = .ok (.bipush 60, 2) := by decide +kernel
theorem d_Mod_test_15 : decode prog_12_method_28_code 15 = .ok (.invokevirtual 45, 3) := by decide +kernel
theorem d_Mod_test_18 : decode prog_12_method_28_code 18 = .ok (.ifCond .ne 5, 3) := by decide +kernel
theorem d_Mod_test_21 : decode prog_12_method_28_code 21 = .ok (.iload_n 1, 1) := by decide +kernel
theorem d_Mod_test_22 : decode prog_12_method_28_code 22 = .ok (.ireturn, 1) := by decide +kernel
theorem d_Mod_test_23 : decode prog_12_method_28_code 23 = .ok (.aload_n 0, 1) := by decide +kernel
theorem d_Mod_test_24 : decode prog_12_method_28_code 24 = .ok (.aload_n 0, 1) := by decide +kernel
theorem d_Mod_test_25 : decode prog_12_method_28_code 25 = .ok (.getfield 18, 3) := by decide +kernel
theorem d_Mod_test_28 : decode prog_12_method_28_code 28 = .ok (.iconst 1, 1) := by decide +kernel
theorem d_Mod_test_29 : decode prog_12_method_28_code 29 = .ok (.isub, 1) := by decide +kernel
theorem d_Mod_test_30 : decode prog_12_method_28_code 30 = .ok (.invokevirtual 143, 3) := by decide +kernel
theorem d_Mod_test_33 : decode prog_12_method_28_code 33 = .ok (.ifCond .ne 5, 3) := by decide +kernel
theorem d_Mod_test_36 : decode prog_12_method_28_code 36 = .ok (.iconst (-1), 1) := by decide +kernel
theorem d_Mod_test_37 : decode prog_12_method_28_code 37 = .ok (.ireturn, 1) := by decide +kernel
theorem d_Mod_test_38 : decode prog_12_method_28_code 38 = .ok (.aload_n 0, 1) := by decide +kernel
theorem d_Mod_test_39 : decode prog_12_method_28_code 39 = .ok (.invokevirtual 182, 3) := by decide +kernel
theorem d_Mod_test_42 : decode prog_12_method_28_code 42 = .ok (.istore_n 2, 1) := by decide +kernel
theorem d_Mod_test_43 : decode prog_12_method_28_code 43 = .ok (.aload_n 0, 1) := by decide +kernel
theorem d_Mod_test_44 : decode prog_12_method_28_code 44 = .ok (.bipush 7, 2) := by decide +kernel
theorem d_Mod_test_46 : decode prog_12_method_28_code 46 = .ok (.iload_n 1, 1) := by decide +kernel
theorem d_Mod_test_47 : decode prog_12_method_28_code 47 = .ok (.iload_n 2, 1) := by decide +kernel
theorem d_Mod_test_48 : decode prog_12_method_28_code 48 = .ok (.iconst (-1), 1) := by decide +kernel
theorem d_Mod_test_49 : decode prog_12_method_28_code 49 = .ok (.bipush 60, 2) := by decide +kernel
theorem d_Mod_test_51 : decode prog_12_method_28_code 51 = .ok (.invokevirtual 172, 3) := by decide +kernel
theorem d_Mod_test_54 : decode prog_12_method_28_code 54 = .ok (.ireturn, 1) := by decide +kernel
def fm_Mod_test_b (rc_sum : fa_W → Option (Int × fa_W)) (w : fa_W) : Option (Int × fa_W) :=
  fa_bd (rc_sum w) fun v2 w3 =>
  if fm_Mod_hasFailed w3 = true then
  some (v2, w3)
  else
  (fa_bd (fm_Mod_takes 60 w3) fun v7 w8 =>
  if v7 = true then
  (fa_l2 (fm_Mod_begins ((w8 181 26) - 1) w8) fun v11 w12 =>
  if v11 = true then
  (fa_bd (rc_sum w12) fun v15 w16 =>
  fa_bd (fm_Mod_node 7 v2 v15 (-1) 60 w16) fun v18 w19 =>
  some (v18, w19))
  else
  some ((-1), w12))
  else
  some (v2, w8))
set_option maxHeartbeats 4000000 in
set_option maxRecDepth 100000 in
theorem c_Mod_test_b {l : Launch} {D : va_G} {b : Nat} {aC : Nat → ClassId} {H0 : Heap} {N T : Nat} (hN : fa_NM ≤ N) (hT : fa_TM ≤ T) (dd : Nat) (rc_sum : fa_W → Option (Int × fa_W)) (Rrc_sum : ∀ (w : fa_W) (r : Int × fa_W), rc_sum w = some r → fa_MC l D b aC H0 N T y_Mod_sum prog_12_method_29_code 4 ((Option.some Jvm.ClassFile.FieldType.int)) (5 + dd) [.ref (b + 181)] w (some (.int (fa_I r.1))) r.2)  (w : fa_W) (r : Int × fa_W) (hM : fm_Mod_test_b rc_sum w = some r) : fa_MC l D b aC H0 N T y_Mod_test prog_12_method_28_code 3 ((Option.some Jvm.ClassFile.FieldType.int)) (5 + dd + 1) [.ref (b + 181)] w (some (.int (fa_I r.1))) r.2 := by
  refine fa_enter (lv := [(0, .ref (b + 181))]) (by decide +kernel) (Nat.le_of_ble_eq_true rfl) rfl (fun hh hle hnm X => ?_)
  unfold fm_Mod_test_b at hM
  refine g_aload_n X 0 rfl d_Mod_test_0 ?_
  obtain ⟨v2, w3, e1, hM⟩ := fa_obd hM
  refine g_callV_i X ck_10 fo_181 (fn_181 hN) rfl mi_Mod_sum (Rrc_sum w _ e1) wd_1592 rfl (by omega) (st := []) (Nat.le_of_ble_eq_true rfl) rfl d_Mod_test_1 ?_
  refine g_istorec_n X [(1, .int (fa_I v2)), (0, .ref (b + 181))] d_Mod_test_4 (by decide) rfl ?_
  refine g_aload_n X 1 rfl d_Mod_test_5 ?_
  refine g_callV_i X ck_10 fo_181 (fn_181 hN) rfl mi_Mod_hasFailed (c_Mod_hasFailed hN hT w3 _ rfl) wd_1494 rfl (by omega) (st := []) (Nat.le_of_ble_eq_true rfl) rfl d_Mod_test_6 ?_
  refine g_ifb_ne X 21 d_Mod_test_9 (by decide) (fun hc5 => ?_) (fun hc5 => ?_)
  · have hM := fa_ifb_t hM hc5
    refine g_iload_n X 0 rfl d_Mod_test_21 ?_
    cases hM
    exact g_iret X d_Mod_test_22
  · have hM := fa_ifb_f hM hc5
    refine g_aload_n X 1 rfl d_Mod_test_12 ?_
    refine g_bipush X (by decide) d_Mod_test_13 ?_
    obtain ⟨v7, w8, e6, hM⟩ := fa_obd hM
    refine g_callV_i X ck_10 fo_181 (fn_181 hN) rfl mi_Mod_takes (c_Mod_takes hN hT 60 w3 _ e6) wd_1552 rfl (by omega) (st := []) (Nat.le_of_ble_eq_true rfl) rfl d_Mod_test_15 ?_
    refine g_ifb_ne X 23 d_Mod_test_18 (by decide) (fun hc9 => ?_) (fun hc9 => ?_)
    · have hM := fa_ifb_t hM hc9
      refine g_aload_n X 1 rfl d_Mod_test_23 ?_
      refine g_aload_n X 1 rfl d_Mod_test_24 ?_
      refine g_get X ck_10 fo_181 (fn_181 hN) 26 (by decide) wd_1767 rfl (fa_fvI rfl) d_Mod_test_25 ?_
      refine g_iconst X d_Mod_test_28 ?_
      refine g_isub X d_Mod_test_29 ?_
      obtain ⟨⟨v11, w12⟩, e10⟩ : ∃ q, fm_Mod_begins ((w8 181 26) - 1) w8 = q := ⟨_, rfl⟩
      have hM := fa_l2_e hM e10
      refine g_callV_i X ck_10 fo_181 (fn_181 hN) rfl mi_Mod_begins (c_Mod_begins hN hT ((w8 181 26) - 1) w8 _ e10) wd_1568 rfl (by omega) (st := []) (Nat.le_of_ble_eq_true rfl) rfl d_Mod_test_30 ?_
      refine g_ifb_ne X 38 d_Mod_test_33 (by decide) (fun hc13 => ?_) (fun hc13 => ?_)
      · have hM := fa_ifb_t hM hc13
        refine g_aload_n X 1 rfl d_Mod_test_38 ?_
        obtain ⟨v15, w16, e14, hM⟩ := fa_obd hM
        refine g_callV_i X ck_10 fo_181 (fn_181 hN) rfl mi_Mod_sum (Rrc_sum w12 _ e14) wd_1592 rfl (by omega) (st := []) (Nat.le_of_ble_eq_true rfl) rfl d_Mod_test_39 ?_
        refine g_istorec_n X [(2, .int (fa_I v15)), (1, .int (fa_I v2)), (0, .ref (b + 181))] d_Mod_test_42 (by decide) rfl ?_
        refine g_aload_n X 2 rfl d_Mod_test_43 ?_
        refine g_bipush X (by decide) d_Mod_test_44 ?_
        refine g_iload_n X 1 rfl d_Mod_test_46 ?_
        refine g_iload_n X 0 rfl d_Mod_test_47 ?_
        refine g_iconst X d_Mod_test_48 ?_
        refine g_bipush X (by decide) d_Mod_test_49 ?_
        obtain ⟨v18, w19, e17, hM⟩ := fa_obd hM
        refine g_callV_i X ck_10 fo_181 (fn_181 hN) rfl mi_Mod_node (c_Mod_node hN hT 7 v2 v15 (-1) 60 w16 _ e17) wd_1576 rfl (by omega) (st := []) (Nat.le_of_ble_eq_true rfl) rfl d_Mod_test_51 ?_
        cases hM
        exact g_iret X d_Mod_test_54
      · have hM := fa_ifb_f hM hc13
        refine g_iconst X d_Mod_test_36 ?_
        cases hM
        exact g_iret X d_Mod_test_37
    · have hM := fa_ifb_f hM hc9
      refine g_iload_n X 0 rfl d_Mod_test_21 ?_
      cases hM
      exact g_iret X d_Mod_test_22
theorem d_Mod_sum_0 : decode prog_12_method_29_code 0 = .ok (.aload_n 0, 1) := by decide +kernel
theorem d_Mod_sum_1 : decode prog_12_method_29_code 1 = .ok (.invokevirtual 185, 3) := by decide +kernel
theorem d_Mod_sum_4 : decode prog_12_method_29_code 4 = .ok (.istore_n 1, 1) := by decide +kernel
theorem d_Mod_sum_5 : decode prog_12_method_29_code 5 = .ok (.aload_n 0, 1) := by decide +kernel
theorem d_Mod_sum_6 : decode prog_12_method_29_code 6 = .ok (.invokevirtual 41, 3) := by decide +kernel
theorem d_Mod_sum_9 : decode prog_12_method_29_code 9 = .ok (.ifCond .ne 67, 3) := by decide +kernel
theorem d_Mod_sum_12 : decode prog_12_method_29_code 12 = .ok (.aload_n 0, 1) := by decide +kernel
theorem d_Mod_sum_13 : decode prog_12_method_29_code 13 = .ok (.bipush 43, 2) := by decide +kernel
theorem d_Mod_sum_15 : decode prog_12_method_29_code 15 = .ok (.invokevirtual 45, 3) := by decide +kernel
theorem d_Mod_sum_18 : decode prog_12_method_29_code 18 = .ok (.ifCond .ne 12, 3) := by decide +kernel
theorem d_Mod_sum_21 : decode prog_12_method_29_code 21 = .ok (.aload_n 0, 1) := by decide +kernel
theorem d_Mod_sum_22 : decode prog_12_method_29_code 22 = .ok (.bipush 45, 2) := by decide +kernel
theorem d_Mod_sum_24 : decode prog_12_method_29_code 24 = .ok (.invokevirtual 45, 3) := by decide +kernel
theorem d_Mod_sum_27 : decode prog_12_method_29_code 27 = .ok (.ifCond .eq 49, 3) := by decide +kernel
theorem d_Mod_sum_30 : decode prog_12_method_29_code 30 = .ok (.aload_n 0, 1) := by decide +kernel
theorem d_Mod_sum_31 : decode prog_12_method_29_code 31 = .ok (.getfield 24, 3) := by decide +kernel
theorem d_Mod_sum_34 : decode prog_12_method_29_code 34 = .ok (.aload_n 0, 1) := by decide +kernel
theorem d_Mod_sum_35 : decode prog_12_method_29_code 35 = .ok (.getfield 18, 3) := by decide +kernel
theorem d_Mod_sum_38 : decode prog_12_method_29_code 38 = .ok (.iconst 1, 1) := by decide +kernel
theorem d_Mod_sum_39 : decode prog_12_method_29_code 39 = .ok (.isub, 1) := by decide +kernel
theorem d_Mod_sum_40 : decode prog_12_method_29_code 40 = .ok (.baload, 1) := by decide +kernel
theorem d_Mod_sum_41 : decode prog_12_method_29_code 41 = .ok (.istore_n 2, 1) := by decide +kernel
theorem d_Mod_sum_42 : decode prog_12_method_29_code 42 = .ok (.aload_n 0, 1) := by decide +kernel
theorem d_Mod_sum_43 : decode prog_12_method_29_code 43 = .ok (.aload_n 0, 1) := by decide +kernel
theorem d_Mod_sum_44 : decode prog_12_method_29_code 44 = .ok (.getfield 18, 3) := by decide +kernel
theorem d_Mod_sum_47 : decode prog_12_method_29_code 47 = .ok (.iconst 1, 1) := by decide +kernel
theorem d_Mod_sum_48 : decode prog_12_method_29_code 48 = .ok (.isub, 1) := by decide +kernel
theorem d_Mod_sum_49 : decode prog_12_method_29_code 49 = .ok (.invokevirtual 143, 3) := by decide +kernel
theorem d_Mod_sum_52 : decode prog_12_method_29_code 52 = .ok (.ifCond .ne 5, 3) := by decide +kernel
theorem d_Mod_sum_55 : decode prog_12_method_29_code 55 = .ok (.iconst (-1), 1) := by decide +kernel
theorem d_Mod_sum_56 : decode prog_12_method_29_code 56 = .ok (.ireturn, 1) := by decide +kernel
theorem d_Mod_sum_57 : decode prog_12_method_29_code 57 = .ok (.aload_n 0, 1) := by decide +kernel
theorem d_Mod_sum_58 : decode prog_12_method_29_code 58 = .ok (.invokevirtual 185, 3) := by decide +kernel
theorem d_Mod_sum_61 : decode prog_12_method_29_code 61 = .ok (.istore_n 3, 1) := by decide +kernel
theorem d_Mod_sum_62 : decode prog_12_method_29_code 62 = .ok (.aload_n 0, 1) := by decide +kernel
theorem d_Mod_sum_63 : decode prog_12_method_29_code 63 = .ok (.bipush 7, 2) := by decide +kernel
theorem d_Mod_sum_65 : decode prog_12_method_29_code 65 = .ok (.iload_n 1, 1) := by decide +kernel
theorem d_Mod_sum_66 : decode prog_12_method_29_code 66 = .ok (.iload_n 3, 1) := by decide +kernel
theorem d_Mod_sum_67 : decode prog_12_method_29_code 67 = .ok (.iconst (-1), 1) := by decide +kernel
theorem d_Mod_sum_68 : decode prog_12_method_29_code 68 = .ok (.iload_n 2, 1) := by decide +kernel
theorem d_Mod_sum_69 : decode prog_12_method_29_code 69 = .ok (.invokevirtual 172, 3) := by decide +kernel
theorem d_Mod_sum_72 : decode prog_12_method_29_code 72 = .ok (.istore_n 1, 1) := by decide +kernel
theorem d_Mod_sum_73 : decode prog_12_method_29_code 73 = .ok (.goto (-68), 3) := by decide +kernel
theorem d_Mod_sum_76 : decode prog_12_method_29_code 76 = .ok (.iload_n 1, 1) := by decide +kernel
theorem d_Mod_sum_77 : decode prog_12_method_29_code 77 = .ok (.ireturn, 1) := by decide +kernel
def fm_Mod_sum_j30 (rc_product : fa_W → Option (Int × fa_W)) (k5 : Int → fa_W → Option (Int × fa_W)) (x1 : Int) (w : fa_W) : Option (Int × fa_W) :=
  (fa_ix ((w 181 26) - 1) 40000).bind fun j10 =>
  fa_let (w 196 j10) fun x2_11 =>
  fa_l2 (fm_Mod_begins ((w 181 26) - 1) w) fun v13 w14 =>
  if v13 = true then
  (fa_bd (rc_product w14) fun v17 w18 =>
  fa_bd (fm_Mod_node 7 x1 v17 (-1) x2_11 w18) fun v20 w21 =>
  k5 v20 w21)
  else
  some ((-1), w14)
set_option maxHeartbeats 4000000 in
set_option maxRecDepth 100000 in
theorem c_Mod_sum_j30 {p : Program} {l : Launch} {e : Env} {s : State} {m : MethodId} {args : Array Value} {below : List Frame} {meth : Method} {c : Code} {hh : Nat} {D : va_G} {b : Nat} {aC : Nat → ClassId} {H0 : Heap} {N T : Nat} {dd : Nat} (X : fa_GX p s m args meth c prog_12_method_29_code 4 ((Option.some Jvm.ClassFile.FieldType.int)) y_Mod_sum.cls D b aC) (hle : 5 + dd + 1 ≤ hh) (hN : fa_NM ≤ N) (hT : fa_TM ≤ T) {r : Int × fa_W} (rc_product : fa_W → Option (Int × fa_W)) (Rrc_product : ∀ (w : fa_W) (r : Int × fa_W), rc_product w = some r → fa_MC l D b aC H0 N T y_Mod_product prog_12_method_30_code 4 ((Option.some Jvm.ClassFile.FieldType.int)) (5 + dd) [.ref (b + 181)] w (some (.int (fa_I r.1))) r.2) (k5 : Int → fa_W → Option (Int × fa_W)) (K5 : ∀ (x1 : Int) (w : fa_W), k5 x1 w = some r → fa_GJ p l e (fa_rm hh) s m args below meth c 0 0 (MQ below (fa_Qc D b aC H0 N T (some (.int (fa_I r.1))) r.2) args s 0 0 (fun q => b ≤ q)) D b aC H0 N T 4 w 5 [(0, .ref (b + 181)), (1, .int (fa_I x1))] []) : ∀ (x1 : Int) (w : fa_W) (_ : fm_Mod_sum_j30 rc_product k5 x1 w = some r), fa_GJ p l e (fa_rm hh) s m args below meth c 0 0 (MQ below (fa_Qc D b aC H0 N T (some (.int (fa_I r.1))) r.2) args s 0 0 (fun q => b ≤ q)) D b aC H0 N T 4 w 30 [(0, .ref (b + 181)), (1, .int (fa_I x1))] [] := by
  intro x1 w hM
  unfold fm_Mod_sum_j30 at hM
  refine g_aload_n X 0 rfl d_Mod_sum_30 ?_
  refine g_get X ck_10 fo_181 (fn_181 hN) 22 (by decide) wd_1764 rfl (fr_181_22 rfl hT) d_Mod_sum_31 ?_
  refine g_aload_n X 0 rfl d_Mod_sum_34 ?_
  refine g_get X ck_10 fo_181 (fn_181 hN) 26 (by decide) wd_1767 rfl (fa_fvI rfl) d_Mod_sum_35 ?_
  refine g_iconst X d_Mod_sum_38 ?_
  refine g_isub X d_Mod_sum_39 ?_
  obtain ⟨j10, ej10, hM⟩ := fa_ob hM
  refine g_bald X fs_196 (fn_196 hN) ej10 d_Mod_sum_40 ?_
  refine g_istore_n X (fun x2_11 => [(2, .int (fa_I x2_11)), (0, .ref (b + 181)), (1, .int (fa_I x1))]) d_Mod_sum_41 (by decide) (fun _ => rfl) (fun x2_11 ex2_11 => ?_)
  have hM := fa_let_to hM ex2_11
  refine g_aload_n X 1 rfl d_Mod_sum_42 ?_
  refine g_aload_n X 1 rfl d_Mod_sum_43 ?_
  refine g_get X ck_10 fo_181 (fn_181 hN) 26 (by decide) wd_1767 rfl (fa_fvI rfl) d_Mod_sum_44 ?_
  refine g_iconst X d_Mod_sum_47 ?_
  refine g_isub X d_Mod_sum_48 ?_
  obtain ⟨⟨v13, w14⟩, e12⟩ : ∃ q, fm_Mod_begins ((w 181 26) - 1) w = q := ⟨_, rfl⟩
  have hM := fa_l2_e hM e12
  refine g_callV_i X ck_10 fo_181 (fn_181 hN) rfl mi_Mod_begins (c_Mod_begins hN hT ((w 181 26) - 1) w _ e12) wd_1568 rfl (by omega) (st := []) (Nat.le_of_ble_eq_true rfl) rfl d_Mod_sum_49 ?_
  refine g_ifb_ne X 57 d_Mod_sum_52 (by decide) (fun hc15 => ?_) (fun hc15 => ?_)
  · have hM := fa_ifb_t hM hc15
    refine g_aload_n X 1 rfl d_Mod_sum_57 ?_
    obtain ⟨v17, w18, e16, hM⟩ := fa_obd hM
    refine g_callV_i X ck_10 fo_181 (fn_181 hN) rfl mi_Mod_product (Rrc_product w14 _ e16) wd_1596 rfl (by omega) (st := []) (Nat.le_of_ble_eq_true rfl) rfl d_Mod_sum_58 ?_
    refine g_istorec_n X [(3, .int (fa_I v17)), (2, .int (fa_I x2_11)), (0, .ref (b + 181)), (1, .int (fa_I x1))] d_Mod_sum_61 (by decide) rfl ?_
    refine g_aload_n X 2 rfl d_Mod_sum_62 ?_
    refine g_bipush X (by decide) d_Mod_sum_63 ?_
    refine g_iload_n X 3 rfl d_Mod_sum_65 ?_
    refine g_iload_n X 0 rfl d_Mod_sum_66 ?_
    refine g_iconst X d_Mod_sum_67 ?_
    refine g_iload_n X 1 rfl d_Mod_sum_68 ?_
    obtain ⟨v20, w21, e19, hM⟩ := fa_obd hM
    refine g_callV_i X ck_10 fo_181 (fn_181 hN) rfl mi_Mod_node (c_Mod_node hN hT 7 x1 v17 (-1) x2_11 w18 _ e19) wd_1576 rfl (by omega) (st := []) (Nat.le_of_ble_eq_true rfl) rfl d_Mod_sum_69 ?_
    refine g_istorec_n X [(1, .int (fa_I v20)), (3, .int (fa_I v17)), (2, .int (fa_I x2_11)), (0, .ref (b + 181))] d_Mod_sum_72 (by decide) rfl ?_
    refine g_goto X 5 d_Mod_sum_73 (by decide) ?_
    exact g_lv [3, 0] rfl (K5 _ _ hM)
  · have hM := fa_ifb_f hM hc15
    refine g_iconst X d_Mod_sum_55 ?_
    cases hM
    exact g_iret X d_Mod_sum_56
def fm_Mod_sum_l5 (rc_product : fa_W → Option (Int × fa_W)) : Nat → Int → fa_W → Option (Int × fa_W)
  | 0, _, _ => none
  | n + 1, x1, w => if fm_Mod_hasFailed w = true then
  some (x1, w)
  else
  (fa_bd (fm_Mod_takes 43 w) fun v7 w8 =>
  if v7 = true then
  fm_Mod_sum_j30 rc_product (fun x1 w9 => fm_Mod_sum_l5 rc_product n x1 w9) x1 w8
  else
  (fa_bd (fm_Mod_takes 45 w8) fun v23 w24 =>
  if v23 = true then
  fm_Mod_sum_j30 rc_product (fun x1 w9 => fm_Mod_sum_l5 rc_product n x1 w9) x1 w24
  else
  some (x1, w24)))
set_option maxHeartbeats 4000000 in
set_option maxRecDepth 100000 in
theorem c_Mod_sum_l5 {p : Program} {l : Launch} {e : Env} {s : State} {m : MethodId} {args : Array Value} {below : List Frame} {meth : Method} {c : Code} {hh : Nat} {D : va_G} {b : Nat} {aC : Nat → ClassId} {H0 : Heap} {N T : Nat} {dd : Nat} (X : fa_GX p s m args meth c prog_12_method_29_code 4 ((Option.some Jvm.ClassFile.FieldType.int)) y_Mod_sum.cls D b aC) (hle : 5 + dd + 1 ≤ hh) (hN : fa_NM ≤ N) (hT : fa_TM ≤ T) {r : Int × fa_W} (rc_product : fa_W → Option (Int × fa_W)) (Rrc_product : ∀ (w : fa_W) (r : Int × fa_W), rc_product w = some r → fa_MC l D b aC H0 N T y_Mod_product prog_12_method_30_code 4 ((Option.some Jvm.ClassFile.FieldType.int)) (5 + dd) [.ref (b + 181)] w (some (.int (fa_I r.1))) r.2) : ∀ (n : Nat) (x1 : Int) (w : fa_W), fm_Mod_sum_l5 rc_product n x1 w = some r → fa_GJ p l e (fa_rm hh) s m args below meth c 0 0 (MQ below (fa_Qc D b aC H0 N T (some (.int (fa_I r.1))) r.2) args s 0 0 (fun q => b ≤ q)) D b aC H0 N T 4 w 5 [(0, .ref (b + 181)), (1, .int (fa_I x1))] [] := by
  intro n
  induction n with
  | zero => intro x1 w hM; exact fa_no hM
  | succ n ih =>
    intro x1 w hM
    rw [fm_Mod_sum_l5] at hM
    refine g_aload_n X 0 rfl d_Mod_sum_5 ?_
    refine g_callV_i X ck_10 fo_181 (fn_181 hN) rfl mi_Mod_hasFailed (c_Mod_hasFailed hN hT w _ rfl) wd_1494 rfl (by omega) (st := []) (Nat.le_of_ble_eq_true rfl) rfl d_Mod_sum_6 ?_
    refine g_ifb_ne X 76 d_Mod_sum_9 (by decide) (fun hc5 => ?_) (fun hc5 => ?_)
    · have hM := fa_ifb_t hM hc5
      refine g_iload_n X 1 rfl d_Mod_sum_76 ?_
      cases hM
      exact g_iret X d_Mod_sum_77
    · have hM := fa_ifb_f hM hc5
      refine g_aload_n X 0 rfl d_Mod_sum_12 ?_
      refine g_bipush X (by decide) d_Mod_sum_13 ?_
      obtain ⟨v7, w8, e6, hM⟩ := fa_obd hM
      refine g_callV_i X ck_10 fo_181 (fn_181 hN) rfl mi_Mod_takes (c_Mod_takes hN hT 43 w _ e6) wd_1552 rfl (by omega) (st := []) (Nat.le_of_ble_eq_true rfl) rfl d_Mod_sum_15 ?_
      refine g_ifb_ne X 30 d_Mod_sum_18 (by decide) (fun hc9 => ?_) (fun hc9 => ?_)
      · have hM := fa_ifb_t hM hc9
        exact g_lv [0, 1] rfl (c_Mod_sum_j30 X hle hN hT rc_product Rrc_product (fun x1 w9 => fm_Mod_sum_l5 rc_product n x1 w9) (fun _ _ h => ih _ _ h)  _ _ hM)
      · have hM := fa_ifb_f hM hc9
        refine g_aload_n X 0 rfl d_Mod_sum_21 ?_
        refine g_bipush X (by decide) d_Mod_sum_22 ?_
        obtain ⟨v23, w24, e22, hM⟩ := fa_obd hM
        refine g_callV_i X ck_10 fo_181 (fn_181 hN) rfl mi_Mod_takes (c_Mod_takes hN hT 45 w8 _ e22) wd_1552 rfl (by omega) (st := []) (Nat.le_of_ble_eq_true rfl) rfl d_Mod_sum_24 ?_
        refine g_ifb_eq X 76 d_Mod_sum_27 (by decide) (fun hc25 => ?_) (fun hc25 => ?_)
        · have hM := fa_ifb_f hM hc25
          refine g_iload_n X 1 rfl d_Mod_sum_76 ?_
          cases hM
          exact g_iret X d_Mod_sum_77
        · have hM := fa_ifb_t hM hc25
          exact g_lv [0, 1] rfl (c_Mod_sum_j30 X hle hN hT rc_product Rrc_product (fun x1 w9 => fm_Mod_sum_l5 rc_product n x1 w9) (fun _ _ h => ih _ _ h)  _ _ hM)
def fm_Mod_sum_b (rc_product : fa_W → Option (Int × fa_W)) (w : fa_W) : Option (Int × fa_W) :=
  fa_bd (rc_product w) fun v2 w3 =>
  fm_Mod_sum_l5 rc_product fa_FU v2 w3
set_option maxHeartbeats 4000000 in
set_option maxRecDepth 100000 in
theorem c_Mod_sum_b {l : Launch} {D : va_G} {b : Nat} {aC : Nat → ClassId} {H0 : Heap} {N T : Nat} (hN : fa_NM ≤ N) (hT : fa_TM ≤ T) (dd : Nat) (rc_product : fa_W → Option (Int × fa_W)) (Rrc_product : ∀ (w : fa_W) (r : Int × fa_W), rc_product w = some r → fa_MC l D b aC H0 N T y_Mod_product prog_12_method_30_code 4 ((Option.some Jvm.ClassFile.FieldType.int)) (5 + dd) [.ref (b + 181)] w (some (.int (fa_I r.1))) r.2)  (w : fa_W) (r : Int × fa_W) (hM : fm_Mod_sum_b rc_product w = some r) : fa_MC l D b aC H0 N T y_Mod_sum prog_12_method_29_code 4 ((Option.some Jvm.ClassFile.FieldType.int)) (5 + dd + 1) [.ref (b + 181)] w (some (.int (fa_I r.1))) r.2 := by
  refine fa_enter (lv := [(0, .ref (b + 181))]) (by decide +kernel) (Nat.le_of_ble_eq_true rfl) rfl (fun hh hle hnm X => ?_)
  unfold fm_Mod_sum_b at hM
  refine g_aload_n X 0 rfl d_Mod_sum_0 ?_
  obtain ⟨v2, w3, e1, hM⟩ := fa_obd hM
  refine g_callV_i X ck_10 fo_181 (fn_181 hN) rfl mi_Mod_product (Rrc_product w _ e1) wd_1596 rfl (by omega) (st := []) (Nat.le_of_ble_eq_true rfl) rfl d_Mod_sum_1 ?_
  refine g_istorec_n X [(1, .int (fa_I v2)), (0, .ref (b + 181))] d_Mod_sum_4 (by decide) rfl ?_
  exact g_lv [1, 0] rfl (c_Mod_sum_l5 X hle hN hT rc_product Rrc_product  fa_FU _ _ hM)
theorem d_Mod_product_0 : decode prog_12_method_30_code 0 = .ok (.aload_n 0, 1) := by decide +kernel
theorem d_Mod_product_1 : decode prog_12_method_30_code 1 = .ok (.invokevirtual 188, 3) := by decide +kernel
theorem d_Mod_product_4 : decode prog_12_method_30_code 4 = .ok (.istore_n 1, 1) := by decide +kernel
theorem d_Mod_product_5 : decode prog_12_method_30_code 5 = .ok (.aload_n 0, 1) := by decide +kernel
theorem d_Mod_product_6 : decode prog_12_method_30_code 6 = .ok (.invokevirtual 41, 3) := by decide +kernel
theorem d_Mod_product_9 : decode prog_12_method_30_code 9 = .ok (.ifCond .ne 67, 3) := by decide +kernel
theorem d_Mod_product_12 : decode prog_12_method_30_code 12 = .ok (.aload_n 0, 1) := by decide +kernel
theorem d_Mod_product_13 : decode prog_12_method_30_code 13 = .ok (.bipush 42, 2) := by decide +kernel
theorem d_Mod_product_15 : decode prog_12_method_30_code 15 = .ok (.invokevirtual 45, 3) := by decide +kernel
theorem d_Mod_product_18 : decode prog_12_method_30_code 18 = .ok (.ifCond .ne 12, 3) := by decide +kernel
theorem d_Mod_product_21 : decode prog_12_method_30_code 21 = .ok (.aload_n 0, 1) := by decide +kernel
theorem d_Mod_product_22 : decode prog_12_method_30_code 22 = .ok (.bipush 47, 2) := by decide +kernel
theorem d_Mod_product_24 : decode prog_12_method_30_code 24 = .ok (.invokevirtual 45, 3) := by decide +kernel
theorem d_Mod_product_27 : decode prog_12_method_30_code 27 = .ok (.ifCond .eq 49, 3) := by decide +kernel
theorem d_Mod_product_30 : decode prog_12_method_30_code 30 = .ok (.aload_n 0, 1) := by decide +kernel
theorem d_Mod_product_31 : decode prog_12_method_30_code 31 = .ok (.getfield 24, 3) := by decide +kernel
theorem d_Mod_product_34 : decode prog_12_method_30_code 34 = .ok (.aload_n 0, 1) := by decide +kernel
theorem d_Mod_product_35 : decode prog_12_method_30_code 35 = .ok (.getfield 18, 3) := by decide +kernel
theorem d_Mod_product_38 : decode prog_12_method_30_code 38 = .ok (.iconst 1, 1) := by decide +kernel
theorem d_Mod_product_39 : decode prog_12_method_30_code 39 = .ok (.isub, 1) := by decide +kernel
theorem d_Mod_product_40 : decode prog_12_method_30_code 40 = .ok (.baload, 1) := by decide +kernel
theorem d_Mod_product_41 : decode prog_12_method_30_code 41 = .ok (.istore_n 2, 1) := by decide +kernel
theorem d_Mod_product_42 : decode prog_12_method_30_code 42 = .ok (.aload_n 0, 1) := by decide +kernel
theorem d_Mod_product_43 : decode prog_12_method_30_code 43 = .ok (.aload_n 0, 1) := by decide +kernel
theorem d_Mod_product_44 : decode prog_12_method_30_code 44 = .ok (.getfield 18, 3) := by decide +kernel
theorem d_Mod_product_47 : decode prog_12_method_30_code 47 = .ok (.iconst 1, 1) := by decide +kernel
theorem d_Mod_product_48 : decode prog_12_method_30_code 48 = .ok (.isub, 1) := by decide +kernel
theorem d_Mod_product_49 : decode prog_12_method_30_code 49 = .ok (.invokevirtual 143, 3) := by decide +kernel
theorem d_Mod_product_52 : decode prog_12_method_30_code 52 = .ok (.ifCond .ne 5, 3) := by decide +kernel
theorem d_Mod_product_55 : decode prog_12_method_30_code 55 = .ok (.iconst (-1), 1) := by decide +kernel
theorem d_Mod_product_56 : decode prog_12_method_30_code 56 = .ok (.ireturn, 1) := by decide +kernel
theorem d_Mod_product_57 : decode prog_12_method_30_code 57 = .ok (.aload_n 0, 1) := by decide +kernel
theorem d_Mod_product_58 : decode prog_12_method_30_code 58 = .ok (.invokevirtual 188, 3) := by decide +kernel
theorem d_Mod_product_61 : decode prog_12_method_30_code 61 = .ok (.istore_n 3, 1) := by decide +kernel
theorem d_Mod_product_62 : decode prog_12_method_30_code 62 = .ok (.aload_n 0, 1) := by decide +kernel
theorem d_Mod_product_63 : decode prog_12_method_30_code 63 = .ok (.bipush 7, 2) := by decide +kernel
theorem d_Mod_product_65 : decode prog_12_method_30_code 65 = .ok (.iload_n 1, 1) := by decide +kernel
theorem d_Mod_product_66 : decode prog_12_method_30_code 66 = .ok (.iload_n 3, 1) := by decide +kernel
theorem d_Mod_product_67 : decode prog_12_method_30_code 67 = .ok (.iconst (-1), 1) := by decide +kernel
theorem d_Mod_product_68 : decode prog_12_method_30_code 68 = .ok (.iload_n 2, 1) := by decide +kernel
theorem d_Mod_product_69 : decode prog_12_method_30_code 69 = .ok (.invokevirtual 172, 3) := by decide +kernel
theorem d_Mod_product_72 : decode prog_12_method_30_code 72 = .ok (.istore_n 1, 1) := by decide +kernel
theorem d_Mod_product_73 : decode prog_12_method_30_code 73 = .ok (.goto (-68), 3) := by decide +kernel
theorem d_Mod_product_76 : decode prog_12_method_30_code 76 = .ok (.iload_n 1, 1) := by decide +kernel
theorem d_Mod_product_77 : decode prog_12_method_30_code 77 = .ok (.ireturn, 1) := by decide +kernel
def fm_Mod_product_j30 (rc_call : fa_W → Option (Int × fa_W)) (k5 : Int → fa_W → Option (Int × fa_W)) (x1 : Int) (w : fa_W) : Option (Int × fa_W) :=
  (fa_ix ((w 181 26) - 1) 40000).bind fun j10 =>
  fa_let (w 196 j10) fun x2_11 =>
  fa_l2 (fm_Mod_begins ((w 181 26) - 1) w) fun v13 w14 =>
  if v13 = true then
  (fa_bd (rc_call w14) fun v17 w18 =>
  fa_bd (fm_Mod_node 7 x1 v17 (-1) x2_11 w18) fun v20 w21 =>
  k5 v20 w21)
  else
  some ((-1), w14)
set_option maxHeartbeats 4000000 in
set_option maxRecDepth 100000 in
theorem c_Mod_product_j30 {p : Program} {l : Launch} {e : Env} {s : State} {m : MethodId} {args : Array Value} {below : List Frame} {meth : Method} {c : Code} {hh : Nat} {D : va_G} {b : Nat} {aC : Nat → ClassId} {H0 : Heap} {N T : Nat} {dd : Nat} (X : fa_GX p s m args meth c prog_12_method_30_code 4 ((Option.some Jvm.ClassFile.FieldType.int)) y_Mod_product.cls D b aC) (hle : 5 + dd + 1 ≤ hh) (hN : fa_NM ≤ N) (hT : fa_TM ≤ T) {r : Int × fa_W} (rc_call : fa_W → Option (Int × fa_W)) (Rrc_call : ∀ (w : fa_W) (r : Int × fa_W), rc_call w = some r → fa_MC l D b aC H0 N T y_Mod_call prog_12_method_32_code 4 ((Option.some Jvm.ClassFile.FieldType.int)) (5 + dd) [.ref (b + 181)] w (some (.int (fa_I r.1))) r.2) (k5 : Int → fa_W → Option (Int × fa_W)) (K5 : ∀ (x1 : Int) (w : fa_W), k5 x1 w = some r → fa_GJ p l e (fa_rm hh) s m args below meth c 0 0 (MQ below (fa_Qc D b aC H0 N T (some (.int (fa_I r.1))) r.2) args s 0 0 (fun q => b ≤ q)) D b aC H0 N T 4 w 5 [(0, .ref (b + 181)), (1, .int (fa_I x1))] []) : ∀ (x1 : Int) (w : fa_W) (_ : fm_Mod_product_j30 rc_call k5 x1 w = some r), fa_GJ p l e (fa_rm hh) s m args below meth c 0 0 (MQ below (fa_Qc D b aC H0 N T (some (.int (fa_I r.1))) r.2) args s 0 0 (fun q => b ≤ q)) D b aC H0 N T 4 w 30 [(0, .ref (b + 181)), (1, .int (fa_I x1))] [] := by
  intro x1 w hM
  unfold fm_Mod_product_j30 at hM
  refine g_aload_n X 0 rfl d_Mod_product_30 ?_
  refine g_get X ck_10 fo_181 (fn_181 hN) 22 (by decide) wd_1764 rfl (fr_181_22 rfl hT) d_Mod_product_31 ?_
  refine g_aload_n X 0 rfl d_Mod_product_34 ?_
  refine g_get X ck_10 fo_181 (fn_181 hN) 26 (by decide) wd_1767 rfl (fa_fvI rfl) d_Mod_product_35 ?_
  refine g_iconst X d_Mod_product_38 ?_
  refine g_isub X d_Mod_product_39 ?_
  obtain ⟨j10, ej10, hM⟩ := fa_ob hM
  refine g_bald X fs_196 (fn_196 hN) ej10 d_Mod_product_40 ?_
  refine g_istore_n X (fun x2_11 => [(2, .int (fa_I x2_11)), (0, .ref (b + 181)), (1, .int (fa_I x1))]) d_Mod_product_41 (by decide) (fun _ => rfl) (fun x2_11 ex2_11 => ?_)
  have hM := fa_let_to hM ex2_11
  refine g_aload_n X 1 rfl d_Mod_product_42 ?_
  refine g_aload_n X 1 rfl d_Mod_product_43 ?_
  refine g_get X ck_10 fo_181 (fn_181 hN) 26 (by decide) wd_1767 rfl (fa_fvI rfl) d_Mod_product_44 ?_
  refine g_iconst X d_Mod_product_47 ?_
  refine g_isub X d_Mod_product_48 ?_
  obtain ⟨⟨v13, w14⟩, e12⟩ : ∃ q, fm_Mod_begins ((w 181 26) - 1) w = q := ⟨_, rfl⟩
  have hM := fa_l2_e hM e12
  refine g_callV_i X ck_10 fo_181 (fn_181 hN) rfl mi_Mod_begins (c_Mod_begins hN hT ((w 181 26) - 1) w _ e12) wd_1568 rfl (by omega) (st := []) (Nat.le_of_ble_eq_true rfl) rfl d_Mod_product_49 ?_
  refine g_ifb_ne X 57 d_Mod_product_52 (by decide) (fun hc15 => ?_) (fun hc15 => ?_)
  · have hM := fa_ifb_t hM hc15
    refine g_aload_n X 1 rfl d_Mod_product_57 ?_
    obtain ⟨v17, w18, e16, hM⟩ := fa_obd hM
    refine g_callV_i X ck_10 fo_181 (fn_181 hN) rfl mi_Mod_call (Rrc_call w14 _ e16) wd_1600 rfl (by omega) (st := []) (Nat.le_of_ble_eq_true rfl) rfl d_Mod_product_58 ?_
    refine g_istorec_n X [(3, .int (fa_I v17)), (2, .int (fa_I x2_11)), (0, .ref (b + 181)), (1, .int (fa_I x1))] d_Mod_product_61 (by decide) rfl ?_
    refine g_aload_n X 2 rfl d_Mod_product_62 ?_
    refine g_bipush X (by decide) d_Mod_product_63 ?_
    refine g_iload_n X 3 rfl d_Mod_product_65 ?_
    refine g_iload_n X 0 rfl d_Mod_product_66 ?_
    refine g_iconst X d_Mod_product_67 ?_
    refine g_iload_n X 1 rfl d_Mod_product_68 ?_
    obtain ⟨v20, w21, e19, hM⟩ := fa_obd hM
    refine g_callV_i X ck_10 fo_181 (fn_181 hN) rfl mi_Mod_node (c_Mod_node hN hT 7 x1 v17 (-1) x2_11 w18 _ e19) wd_1576 rfl (by omega) (st := []) (Nat.le_of_ble_eq_true rfl) rfl d_Mod_product_69 ?_
    refine g_istorec_n X [(1, .int (fa_I v20)), (3, .int (fa_I v17)), (2, .int (fa_I x2_11)), (0, .ref (b + 181))] d_Mod_product_72 (by decide) rfl ?_
    refine g_goto X 5 d_Mod_product_73 (by decide) ?_
    exact g_lv [3, 0] rfl (K5 _ _ hM)
  · have hM := fa_ifb_f hM hc15
    refine g_iconst X d_Mod_product_55 ?_
    cases hM
    exact g_iret X d_Mod_product_56
def fm_Mod_product_l5 (rc_call : fa_W → Option (Int × fa_W)) : Nat → Int → fa_W → Option (Int × fa_W)
  | 0, _, _ => none
  | n + 1, x1, w => if fm_Mod_hasFailed w = true then
  some (x1, w)
  else
  (fa_bd (fm_Mod_takes 42 w) fun v7 w8 =>
  if v7 = true then
  fm_Mod_product_j30 rc_call (fun x1 w9 => fm_Mod_product_l5 rc_call n x1 w9) x1 w8
  else
  (fa_bd (fm_Mod_takes 47 w8) fun v23 w24 =>
  if v23 = true then
  fm_Mod_product_j30 rc_call (fun x1 w9 => fm_Mod_product_l5 rc_call n x1 w9) x1 w24
  else
  some (x1, w24)))
set_option maxHeartbeats 4000000 in
set_option maxRecDepth 100000 in
theorem c_Mod_product_l5 {p : Program} {l : Launch} {e : Env} {s : State} {m : MethodId} {args : Array Value} {below : List Frame} {meth : Method} {c : Code} {hh : Nat} {D : va_G} {b : Nat} {aC : Nat → ClassId} {H0 : Heap} {N T : Nat} {dd : Nat} (X : fa_GX p s m args meth c prog_12_method_30_code 4 ((Option.some Jvm.ClassFile.FieldType.int)) y_Mod_product.cls D b aC) (hle : 5 + dd + 1 ≤ hh) (hN : fa_NM ≤ N) (hT : fa_TM ≤ T) {r : Int × fa_W} (rc_call : fa_W → Option (Int × fa_W)) (Rrc_call : ∀ (w : fa_W) (r : Int × fa_W), rc_call w = some r → fa_MC l D b aC H0 N T y_Mod_call prog_12_method_32_code 4 ((Option.some Jvm.ClassFile.FieldType.int)) (5 + dd) [.ref (b + 181)] w (some (.int (fa_I r.1))) r.2) : ∀ (n : Nat) (x1 : Int) (w : fa_W), fm_Mod_product_l5 rc_call n x1 w = some r → fa_GJ p l e (fa_rm hh) s m args below meth c 0 0 (MQ below (fa_Qc D b aC H0 N T (some (.int (fa_I r.1))) r.2) args s 0 0 (fun q => b ≤ q)) D b aC H0 N T 4 w 5 [(0, .ref (b + 181)), (1, .int (fa_I x1))] [] := by
  intro n
  induction n with
  | zero => intro x1 w hM; exact fa_no hM
  | succ n ih =>
    intro x1 w hM
    rw [fm_Mod_product_l5] at hM
    refine g_aload_n X 0 rfl d_Mod_product_5 ?_
    refine g_callV_i X ck_10 fo_181 (fn_181 hN) rfl mi_Mod_hasFailed (c_Mod_hasFailed hN hT w _ rfl) wd_1494 rfl (by omega) (st := []) (Nat.le_of_ble_eq_true rfl) rfl d_Mod_product_6 ?_
    refine g_ifb_ne X 76 d_Mod_product_9 (by decide) (fun hc5 => ?_) (fun hc5 => ?_)
    · have hM := fa_ifb_t hM hc5
      refine g_iload_n X 1 rfl d_Mod_product_76 ?_
      cases hM
      exact g_iret X d_Mod_product_77
    · have hM := fa_ifb_f hM hc5
      refine g_aload_n X 0 rfl d_Mod_product_12 ?_
      refine g_bipush X (by decide) d_Mod_product_13 ?_
      obtain ⟨v7, w8, e6, hM⟩ := fa_obd hM
      refine g_callV_i X ck_10 fo_181 (fn_181 hN) rfl mi_Mod_takes (c_Mod_takes hN hT 42 w _ e6) wd_1552 rfl (by omega) (st := []) (Nat.le_of_ble_eq_true rfl) rfl d_Mod_product_15 ?_
      refine g_ifb_ne X 30 d_Mod_product_18 (by decide) (fun hc9 => ?_) (fun hc9 => ?_)
      · have hM := fa_ifb_t hM hc9
        exact g_lv [0, 1] rfl (c_Mod_product_j30 X hle hN hT rc_call Rrc_call (fun x1 w9 => fm_Mod_product_l5 rc_call n x1 w9) (fun _ _ h => ih _ _ h)  _ _ hM)
      · have hM := fa_ifb_f hM hc9
        refine g_aload_n X 0 rfl d_Mod_product_21 ?_
        refine g_bipush X (by decide) d_Mod_product_22 ?_
        obtain ⟨v23, w24, e22, hM⟩ := fa_obd hM
        refine g_callV_i X ck_10 fo_181 (fn_181 hN) rfl mi_Mod_takes (c_Mod_takes hN hT 47 w8 _ e22) wd_1552 rfl (by omega) (st := []) (Nat.le_of_ble_eq_true rfl) rfl d_Mod_product_24 ?_
        refine g_ifb_eq X 76 d_Mod_product_27 (by decide) (fun hc25 => ?_) (fun hc25 => ?_)
        · have hM := fa_ifb_f hM hc25
          refine g_iload_n X 1 rfl d_Mod_product_76 ?_
          cases hM
          exact g_iret X d_Mod_product_77
        · have hM := fa_ifb_t hM hc25
          exact g_lv [0, 1] rfl (c_Mod_product_j30 X hle hN hT rc_call Rrc_call (fun x1 w9 => fm_Mod_product_l5 rc_call n x1 w9) (fun _ _ h => ih _ _ h)  _ _ hM)
def fm_Mod_product_b (rc_call : fa_W → Option (Int × fa_W)) (w : fa_W) : Option (Int × fa_W) :=
  fa_bd (rc_call w) fun v2 w3 =>
  fm_Mod_product_l5 rc_call fa_FU v2 w3
set_option maxHeartbeats 4000000 in
set_option maxRecDepth 100000 in
theorem c_Mod_product_b {l : Launch} {D : va_G} {b : Nat} {aC : Nat → ClassId} {H0 : Heap} {N T : Nat} (hN : fa_NM ≤ N) (hT : fa_TM ≤ T) (dd : Nat) (rc_call : fa_W → Option (Int × fa_W)) (Rrc_call : ∀ (w : fa_W) (r : Int × fa_W), rc_call w = some r → fa_MC l D b aC H0 N T y_Mod_call prog_12_method_32_code 4 ((Option.some Jvm.ClassFile.FieldType.int)) (5 + dd) [.ref (b + 181)] w (some (.int (fa_I r.1))) r.2)  (w : fa_W) (r : Int × fa_W) (hM : fm_Mod_product_b rc_call w = some r) : fa_MC l D b aC H0 N T y_Mod_product prog_12_method_30_code 4 ((Option.some Jvm.ClassFile.FieldType.int)) (5 + dd + 1) [.ref (b + 181)] w (some (.int (fa_I r.1))) r.2 := by
  refine fa_enter (lv := [(0, .ref (b + 181))]) (by decide +kernel) (Nat.le_of_ble_eq_true rfl) rfl (fun hh hle hnm X => ?_)
  unfold fm_Mod_product_b at hM
  refine g_aload_n X 0 rfl d_Mod_product_0 ?_
  obtain ⟨v2, w3, e1, hM⟩ := fa_obd hM
  refine g_callV_i X ck_10 fo_181 (fn_181 hN) rfl mi_Mod_call (Rrc_call w _ e1) wd_1600 rfl (by omega) (st := []) (Nat.le_of_ble_eq_true rfl) rfl d_Mod_product_1 ?_
  refine g_istorec_n X [(1, .int (fa_I v2)), (0, .ref (b + 181))] d_Mod_product_4 (by decide) rfl ?_
  exact g_lv [1, 0] rfl (c_Mod_product_l5 X hle hN hT rc_call Rrc_call  fa_FU _ _ hM)
theorem d_Mod_call_0 : decode prog_12_method_32_code 0 = .ok (.aload_n 0, 1) := by decide +kernel
theorem d_Mod_call_1 : decode prog_12_method_32_code 1 = .ok (.invokevirtual 191, 3) := by decide +kernel
theorem d_Mod_call_4 : decode prog_12_method_32_code 4 = .ok (.istore_n 1, 1) := by decide +kernel
theorem d_Mod_call_5 : decode prog_12_method_32_code 5 = .ok (.aload_n 0, 1) := by decide +kernel
theorem d_Mod_call_6 : decode prog_12_method_32_code 6 = .ok (.invokevirtual 41, 3) := by decide +kernel
theorem d_Mod_call_9 : decode prog_12_method_32_code 9 = .ok (.ifCond .ne 74, 3) := by decide +kernel
theorem d_Mod_call_12 : decode prog_12_method_32_code 12 = .ok (.aload_n 0, 1) := by decide +kernel
theorem d_Mod_call_13 : decode prog_12_method_32_code 13 = .ok (.invokevirtual 194, 3) := by decide +kernel
theorem d_Mod_call_16 : decode prog_12_method_32_code 16 = .ok (.ifCond .eq 67, 3) := by decide +kernel
theorem d_Mod_call_19 : decode prog_12_method_32_code 19 = .ok (.aload_n 0, 1) := by decide +kernel
theorem d_Mod_call_20 : decode prog_12_method_32_code 20 = .ok (.aload_n 0, 1) := by decide +kernel
theorem d_Mod_call_21 : decode prog_12_method_32_code 21 = .ok (.getfield 18, 3) := by decide +kernel
theorem d_Mod_call_24 : decode prog_12_method_32_code 24 = .ok (.invokevirtual 143, 3) := by decide +kernel
theorem d_Mod_call_27 : decode prog_12_method_32_code 27 = .ok (.ifCond .ne 5, 3) := by decide +kernel
theorem d_Mod_call_30 : decode prog_12_method_32_code 30 = .ok (.iconst (-1), 1) := by decide +kernel
theorem d_Mod_call_31 : decode prog_12_method_32_code 31 = .ok (.ireturn, 1) := by decide +kernel
theorem d_Mod_call_32 : decode prog_12_method_32_code 32 = .ok (.aload_n 0, 1) := by decide +kernel
theorem d_Mod_call_33 : decode prog_12_method_32_code 33 = .ok (.getfield 197, 3) := by decide +kernel
theorem d_Mod_call_36 : decode prog_12_method_32_code 36 = .ok (.istore_n 2, 1) := by decide +kernel
theorem d_Mod_call_37 : decode prog_12_method_32_code 37 = .ok (.aload_n 0, 1) := by decide +kernel
theorem d_Mod_call_38 : decode prog_12_method_32_code 38 = .ok (.dup, 1) := by decide +kernel
theorem d_Mod_call_39 : decode prog_12_method_32_code 39 = .ok (.getfield 197, 3) := by decide +kernel
theorem d_Mod_call_42 : decode prog_12_method_32_code 42 = .ok (.iconst 1, 1) := by decide +kernel
theorem d_Mod_call_43 : decode prog_12_method_32_code 43 = .ok (.iadd, 1) := by decide +kernel
theorem d_Mod_call_44 : decode prog_12_method_32_code 44 = .ok (.putfield 197, 3) := by decide +kernel
theorem d_Mod_call_47 : decode prog_12_method_32_code 47 = .ok (.aload_n 0, 1) := by decide +kernel
theorem d_Mod_call_48 : decode prog_12_method_32_code 48 = .ok (.getfield 200, 3) := by decide +kernel
theorem d_Mod_call_51 : decode prog_12_method_32_code 51 = .ok (.iload_n 2, 1) := by decide +kernel
theorem d_Mod_call_52 : decode prog_12_method_32_code 52 = .ok (.aload_n 0, 1) := by decide +kernel
theorem d_Mod_call_53 : decode prog_12_method_32_code 53 = .ok (.getfield 159, 3) := by decide +kernel
theorem d_Mod_call_56 : decode prog_12_method_32_code 56 = .ok (.iastore, 1) := by decide +kernel
theorem d_Mod_call_57 : decode prog_12_method_32_code 57 = .ok (.aload_n 0, 1) := by decide +kernel
theorem d_Mod_call_58 : decode prog_12_method_32_code 58 = .ok (.invokevirtual 191, 3) := by decide +kernel
theorem d_Mod_call_61 : decode prog_12_method_32_code 61 = .ok (.istore_n 3, 1) := by decide +kernel
theorem d_Mod_call_62 : decode prog_12_method_32_code 62 = .ok (.aload_n 0, 1) := by decide +kernel
theorem d_Mod_call_63 : decode prog_12_method_32_code 63 = .ok (.bipush 8, 2) := by decide +kernel
theorem d_Mod_call_65 : decode prog_12_method_32_code 65 = .ok (.iload_n 1, 1) := by decide +kernel
theorem d_Mod_call_66 : decode prog_12_method_32_code 66 = .ok (.iload_n 3, 1) := by decide +kernel
theorem d_Mod_call_67 : decode prog_12_method_32_code 67 = .ok (.iconst (-1), 1) := by decide +kernel
theorem d_Mod_call_68 : decode prog_12_method_32_code 68 = .ok (.iload_n 2, 1) := by decide +kernel
theorem d_Mod_call_69 : decode prog_12_method_32_code 69 = .ok (.invokevirtual 172, 3) := by decide +kernel
theorem d_Mod_call_72 : decode prog_12_method_32_code 72 = .ok (.istore_n 1, 1) := by decide +kernel
theorem d_Mod_call_73 : decode prog_12_method_32_code 73 = .ok (.aload_n 0, 1) := by decide +kernel
theorem d_Mod_call_74 : decode prog_12_method_32_code 74 = .ok (.getfield 203, 3) := by decide +kernel
theorem d_Mod_call_77 : decode prog_12_method_32_code 77 = .ok (.iload_n 2, 1) := by decide +kernel
theorem d_Mod_call_78 : decode prog_12_method_32_code 78 = .ok (.iload_n 1, 1) := by decide +kernel
theorem d_Mod_call_79 : decode prog_12_method_32_code 79 = .ok (.iastore, 1) := by decide +kernel
theorem d_Mod_call_80 : decode prog_12_method_32_code 80 = .ok (.goto (-75), 3) := by decide +kernel
theorem d_Mod_call_83 : decode prog_12_method_32_code 83 = .ok (.iload_n 1, 1) := by decide +kernel
theorem d_Mod_call_84 : decode prog_12_method_32_code 84 = .ok (.ireturn, 1) := by decide +kernel
def fm_Mod_call_l5 (rc_atom : fa_W → Option (Int × fa_W)) : Nat → Int → fa_W → Option (Int × fa_W)
  | 0, _, _ => none
  | n + 1, x1, w => if fm_Mod_hasFailed w = true then
  some (x1, w)
  else
  (fa_bd (fm_Mod_isAtomAhead w) fun v7 w8 =>
  if v7 = true then
  (fa_l2 (fm_Mod_begins (w8 181 26) w8) fun v11 w12 =>
  if v11 = true then
  (fa_let (w12 181 20) fun x2_14 =>
  fa_let (fa_st w12 181 20 ((w12 181 20) + 1)) fun w15 =>
  (fa_ix x2_14 101).bind fun j16 =>
  fa_let (fa_st w15 195 j16 (w15 181 30)) fun w17 =>
  fa_bd (rc_atom w17) fun v19 w20 =>
  fa_bd (fm_Mod_node 8 x1 v19 (-1) x2_14 w20) fun v22 w23 =>
  (fa_ix x2_14 101).bind fun j24 =>
  fa_let (fa_st w23 194 j24 v22) fun w25 =>
  fm_Mod_call_l5 rc_atom n v22 w25)
  else
  some ((-1), w12))
  else
  some (x1, w8))
set_option maxHeartbeats 4000000 in
set_option maxRecDepth 100000 in
theorem c_Mod_call_l5 {p : Program} {l : Launch} {e : Env} {s : State} {m : MethodId} {args : Array Value} {below : List Frame} {meth : Method} {c : Code} {hh : Nat} {D : va_G} {b : Nat} {aC : Nat → ClassId} {H0 : Heap} {N T : Nat} {dd : Nat} (X : fa_GX p s m args meth c prog_12_method_32_code 4 ((Option.some Jvm.ClassFile.FieldType.int)) y_Mod_call.cls D b aC) (hle : 5 + dd + 1 ≤ hh) (hN : fa_NM ≤ N) (hT : fa_TM ≤ T) {r : Int × fa_W} (rc_atom : fa_W → Option (Int × fa_W)) (Rrc_atom : ∀ (w : fa_W) (r : Int × fa_W), rc_atom w = some r → fa_MC l D b aC H0 N T y_Mod_atom prog_12_method_33_code 4 ((Option.some Jvm.ClassFile.FieldType.int)) (5 + dd) [.ref (b + 181)] w (some (.int (fa_I r.1))) r.2) : ∀ (n : Nat) (x1 : Int) (w : fa_W), fm_Mod_call_l5 rc_atom n x1 w = some r → fa_GJ p l e (fa_rm hh) s m args below meth c 0 0 (MQ below (fa_Qc D b aC H0 N T (some (.int (fa_I r.1))) r.2) args s 0 0 (fun q => b ≤ q)) D b aC H0 N T 4 w 5 [(0, .ref (b + 181)), (1, .int (fa_I x1))] [] := by
  intro n
  induction n with
  | zero => intro x1 w hM; exact fa_no hM
  | succ n ih =>
    intro x1 w hM
    rw [fm_Mod_call_l5] at hM
    refine g_aload_n X 0 rfl d_Mod_call_5 ?_
    refine g_callV_i X ck_10 fo_181 (fn_181 hN) rfl mi_Mod_hasFailed (c_Mod_hasFailed hN hT w _ rfl) wd_1494 rfl (by omega) (st := []) (Nat.le_of_ble_eq_true rfl) rfl d_Mod_call_6 ?_
    refine g_ifb_ne X 83 d_Mod_call_9 (by decide) (fun hc5 => ?_) (fun hc5 => ?_)
    · have hM := fa_ifb_t hM hc5
      refine g_iload_n X 1 rfl d_Mod_call_83 ?_
      cases hM
      exact g_iret X d_Mod_call_84
    · have hM := fa_ifb_f hM hc5
      refine g_aload_n X 0 rfl d_Mod_call_12 ?_
      obtain ⟨v7, w8, e6, hM⟩ := fa_obd hM
      refine g_callV_i X ck_10 fo_181 (fn_181 hN) rfl mi_Mod_isAtomAhead (c_Mod_isAtomAhead hN hT w _ e6) wd_1612 rfl (by omega) (st := []) (Nat.le_of_ble_eq_true rfl) rfl d_Mod_call_13 ?_
      refine g_ifb_eq X 83 d_Mod_call_16 (by decide) (fun hc9 => ?_) (fun hc9 => ?_)
      · have hM := fa_ifb_f hM hc9
        refine g_iload_n X 1 rfl d_Mod_call_83 ?_
        cases hM
        exact g_iret X d_Mod_call_84
      · have hM := fa_ifb_t hM hc9
        refine g_aload_n X 0 rfl d_Mod_call_19 ?_
        refine g_aload_n X 0 rfl d_Mod_call_20 ?_
        refine g_get X ck_10 fo_181 (fn_181 hN) 26 (by decide) wd_1767 rfl (fa_fvI rfl) d_Mod_call_21 ?_
        obtain ⟨⟨v11, w12⟩, e10⟩ : ∃ q, fm_Mod_begins (w8 181 26) w8 = q := ⟨_, rfl⟩
        have hM := fa_l2_e hM e10
        refine g_callV_i X ck_10 fo_181 (fn_181 hN) rfl mi_Mod_begins (c_Mod_begins hN hT (w8 181 26) w8 _ e10) wd_1568 rfl (by omega) (st := []) (Nat.le_of_ble_eq_true rfl) rfl d_Mod_call_24 ?_
        refine g_ifb_ne X 32 d_Mod_call_27 (by decide) (fun hc13 => ?_) (fun hc13 => ?_)
        · have hM := fa_ifb_t hM hc13
          refine g_aload_n X 0 rfl d_Mod_call_32 ?_
          refine g_get X ck_10 fo_181 (fn_181 hN) 20 (by decide) wd_1762 rfl (fa_fvI rfl) d_Mod_call_33 ?_
          refine g_istore_n X (fun x2_14 => [(2, .int (fa_I x2_14)), (0, .ref (b + 181)), (1, .int (fa_I x1))]) d_Mod_call_36 (by decide) (fun _ => rfl) (fun x2_14 ex2_14 => ?_)
          have hM := fa_let_to hM ex2_14
          refine g_aload_n X 1 rfl d_Mod_call_37 ?_
          refine g_dup X rfl d_Mod_call_38 ?_
          refine g_get X ck_10 fo_181 (fn_181 hN) 20 (by decide) wd_1762 rfl (fa_fvI rfl) d_Mod_call_39 ?_
          refine g_iconst X d_Mod_call_42 ?_
          refine g_iadd X d_Mod_call_43 ?_
          refine g_put X ck_10 fo_181 (fn_181 hN) 20 (z := ((w12 181 20) + 1)) (by decide) wd_1762 rfl (fa_fvI' rfl) rfl rfl rfl d_Mod_call_44 (fun w15 ew15 => ?_)
          have hM := fa_let_to hM ew15
          refine g_aload_n X 1 rfl d_Mod_call_47 ?_
          refine g_get X ck_10 fo_181 (fn_181 hN) 15 (by decide) wd_1757 rfl (fr_181_15 rfl hT) d_Mod_call_48 ?_
          refine g_iload_n X 0 rfl d_Mod_call_51 ?_
          refine g_aload_n X 1 rfl d_Mod_call_52 ?_
          refine g_get X ck_10 fo_181 (fn_181 hN) 30 (by decide) wd_1771 rfl (fa_fvI rfl) d_Mod_call_53 ?_
          obtain ⟨j16, ej16, hM⟩ := fa_ob hM
          refine g_iast X fs_195 (fn_195 hN) ej16 d_Mod_call_56 (fun w17 ew17 => ?_)
          have hM := fa_let_to hM ew17
          refine g_aload_n X 1 rfl d_Mod_call_57 ?_
          obtain ⟨v19, w20, e18, hM⟩ := fa_obd hM
          refine g_callV_i X ck_10 fo_181 (fn_181 hN) rfl mi_Mod_atom (Rrc_atom w17 _ e18) wd_1604 rfl (by omega) (st := []) (Nat.le_of_ble_eq_true rfl) rfl d_Mod_call_58 ?_
          refine g_istorec_n X [(3, .int (fa_I v19)), (2, .int (fa_I x2_14)), (0, .ref (b + 181)), (1, .int (fa_I x1))] d_Mod_call_61 (by decide) rfl ?_
          refine g_aload_n X 2 rfl d_Mod_call_62 ?_
          refine g_bipush X (by decide) d_Mod_call_63 ?_
          refine g_iload_n X 3 rfl d_Mod_call_65 ?_
          refine g_iload_n X 0 rfl d_Mod_call_66 ?_
          refine g_iconst X d_Mod_call_67 ?_
          refine g_iload_n X 1 rfl d_Mod_call_68 ?_
          obtain ⟨v22, w23, e21, hM⟩ := fa_obd hM
          refine g_callV_i X ck_10 fo_181 (fn_181 hN) rfl mi_Mod_node (c_Mod_node hN hT 8 x1 v19 (-1) x2_14 w20 _ e21) wd_1576 rfl (by omega) (st := []) (Nat.le_of_ble_eq_true rfl) rfl d_Mod_call_69 ?_
          refine g_istorec_n X [(1, .int (fa_I v22)), (3, .int (fa_I v19)), (2, .int (fa_I x2_14)), (0, .ref (b + 181))] d_Mod_call_72 (by decide) rfl ?_
          refine g_aload_n X 3 rfl d_Mod_call_73 ?_
          refine g_get X ck_10 fo_181 (fn_181 hN) 14 (by decide) wd_1756 rfl (fr_181_14 rfl hT) d_Mod_call_74 ?_
          refine g_iload_n X 2 rfl d_Mod_call_77 ?_
          refine g_iload_n X 0 rfl d_Mod_call_78 ?_
          obtain ⟨j24, ej24, hM⟩ := fa_ob hM
          refine g_iast X fs_194 (fn_194 hN) ej24 d_Mod_call_79 (fun w25 ew25 => ?_)
          have hM := fa_let_to hM ew25
          refine g_goto X 5 d_Mod_call_80 (by decide) ?_
          exact g_lv [3, 0] rfl (ih _ _ hM)
        · have hM := fa_ifb_f hM hc13
          refine g_iconst X d_Mod_call_30 ?_
          cases hM
          exact g_iret X d_Mod_call_31
def fm_Mod_call_b (rc_atom : fa_W → Option (Int × fa_W)) (w : fa_W) : Option (Int × fa_W) :=
  fa_bd (rc_atom w) fun v2 w3 =>
  fm_Mod_call_l5 rc_atom fa_FU v2 w3
set_option maxHeartbeats 4000000 in
set_option maxRecDepth 100000 in
theorem c_Mod_call_b {l : Launch} {D : va_G} {b : Nat} {aC : Nat → ClassId} {H0 : Heap} {N T : Nat} (hN : fa_NM ≤ N) (hT : fa_TM ≤ T) (dd : Nat) (rc_atom : fa_W → Option (Int × fa_W)) (Rrc_atom : ∀ (w : fa_W) (r : Int × fa_W), rc_atom w = some r → fa_MC l D b aC H0 N T y_Mod_atom prog_12_method_33_code 4 ((Option.some Jvm.ClassFile.FieldType.int)) (5 + dd) [.ref (b + 181)] w (some (.int (fa_I r.1))) r.2)  (w : fa_W) (r : Int × fa_W) (hM : fm_Mod_call_b rc_atom w = some r) : fa_MC l D b aC H0 N T y_Mod_call prog_12_method_32_code 4 ((Option.some Jvm.ClassFile.FieldType.int)) (5 + dd + 1) [.ref (b + 181)] w (some (.int (fa_I r.1))) r.2 := by
  refine fa_enter (lv := [(0, .ref (b + 181))]) (by decide +kernel) (Nat.le_of_ble_eq_true rfl) rfl (fun hh hle hnm X => ?_)
  unfold fm_Mod_call_b at hM
  refine g_aload_n X 0 rfl d_Mod_call_0 ?_
  obtain ⟨v2, w3, e1, hM⟩ := fa_obd hM
  refine g_callV_i X ck_10 fo_181 (fn_181 hN) rfl mi_Mod_atom (Rrc_atom w _ e1) wd_1604 rfl (by omega) (st := []) (Nat.le_of_ble_eq_true rfl) rfl d_Mod_call_1 ?_
  refine g_istorec_n X [(1, .int (fa_I v2)), (0, .ref (b + 181))] d_Mod_call_4 (by decide) rfl ?_
  exact g_lv [1, 0] rfl (c_Mod_call_l5 X hle hN hT rc_atom Rrc_atom  fa_FU _ _ hM)
theorem d_Mod_atom_0 : decode prog_12_method_33_code 0 = .ok (.aload_n 0, 1) := by decide +kernel
theorem d_Mod_atom_1 : decode prog_12_method_33_code 1 = .ok (.invokevirtual 41, 3) := by decide +kernel
theorem d_Mod_atom_4 : decode prog_12_method_33_code 4 = .ok (.ifCond .eq 5, 3) := by decide +kernel
theorem d_Mod_atom_7 : decode prog_12_method_33_code 7 = .ok (.iconst (-1), 1) := by decide +kernel
theorem d_Mod_atom_8 : decode prog_12_method_33_code 8 = .ok (.ireturn, 1) := by decide +kernel
theorem d_Mod_atom_9 : decode prog_12_method_33_code 9 = .ok (.aload_n 0, 1) := by decide +kernel
theorem d_Mod_atom_10 : decode prog_12_method_33_code 10 = .ok (.invokevirtual 37, 3) := by decide +kernel
theorem d_Mod_atom_13 : decode prog_12_method_33_code 13 = .ok (.aload_n 0, 1) := by decide +kernel
theorem d_Mod_atom_14 : decode prog_12_method_33_code 14 = .ok (.bipush 40, 2) := by decide +kernel
theorem d_Mod_atom_16 : decode prog_12_method_33_code 16 = .ok (.bipush 40, 2) := by decide +kernel
theorem d_Mod_atom_18 : decode prog_12_method_33_code 18 = .ok (.invokevirtual 27, 3) := by decide +kernel
theorem d_Mod_atom_21 : decode prog_12_method_33_code 21 = .ok (.ifCond .eq 49, 3) := by decide +kernel
theorem d_Mod_atom_24 : decode prog_12_method_33_code 24 = .ok (.aload_n 0, 1) := by decide +kernel
theorem d_Mod_atom_25 : decode prog_12_method_33_code 25 = .ok (.aload_n 0, 1) := by decide +kernel
theorem d_Mod_atom_26 : decode prog_12_method_33_code 26 = .ok (.getfield 18, 3) := by decide +kernel
theorem d_Mod_atom_29 : decode prog_12_method_33_code 29 = .ok (.invokevirtual 146, 3) := by decide +kernel
theorem d_Mod_atom_32 : decode prog_12_method_33_code 32 = .ok (.ifCond .ne 5, 3) := by decide +kernel
theorem d_Mod_atom_35 : decode prog_12_method_33_code 35 = .ok (.iconst (-1), 1) := by decide +kernel
theorem d_Mod_atom_36 : decode prog_12_method_33_code 36 = .ok (.ireturn, 1) := by decide +kernel
theorem d_Mod_atom_37 : decode prog_12_method_33_code 37 = .ok (.aload_n 0, 1) := by decide +kernel
theorem d_Mod_atom_38 : decode prog_12_method_33_code 38 = .ok (.dup, 1) := by decide +kernel
theorem d_Mod_atom_39 : decode prog_12_method_33_code 39 = .ok (.getfield 18, 3) := by decide +kernel
theorem d_Mod_atom_42 : decode prog_12_method_33_code 42 = .ok (.iconst 1, 1) := by decide +kernel
theorem d_Mod_atom_43 : decode prog_12_method_33_code 43 = .ok (.iadd, 1) := by decide +kernel
theorem d_Mod_atom_44 : decode prog_12_method_33_code 44 = .ok (.putfield 18, 3) := by decide +kernel
theorem d_Mod_atom_47 : decode prog_12_method_33_code 47 = .ok (.aload_n 0, 1) := by decide +kernel
theorem d_Mod_atom_48 : decode prog_12_method_33_code 48 = .ok (.invokevirtual 169, 3) := by decide +kernel
theorem d_Mod_atom_51 : decode prog_12_method_33_code 51 = .ok (.istore_n 1, 1) := by decide +kernel
theorem d_Mod_atom_52 : decode prog_12_method_33_code 52 = .ok (.aload_n 0, 1) := by decide +kernel
theorem d_Mod_atom_53 : decode prog_12_method_33_code 53 = .ok (.bipush 41, 2) := by decide +kernel
theorem d_Mod_atom_55 : decode prog_12_method_33_code 55 = .ok (.invokevirtual 152, 3) := by decide +kernel
theorem d_Mod_atom_58 : decode prog_12_method_33_code 58 = .ok (.aload_n 0, 1) := by decide +kernel
theorem d_Mod_atom_59 : decode prog_12_method_33_code 59 = .ok (.dup, 1) := by decide +kernel
theorem d_Mod_atom_60 : decode prog_12_method_33_code 60 = .ok (.getfield 109, 3) := by decide +kernel
theorem d_Mod_atom_63 : decode prog_12_method_33_code 63 = .ok (.iconst 1, 1) := by decide +kernel
theorem d_Mod_atom_64 : decode prog_12_method_33_code 64 = .ok (.isub, 1) := by decide +kernel
theorem d_Mod_atom_65 : decode prog_12_method_33_code 65 = .ok (.putfield 109, 3) := by decide +kernel
theorem d_Mod_atom_68 : decode prog_12_method_33_code 68 = .ok (.iload_n 1, 1) := by decide +kernel
theorem d_Mod_atom_69 : decode prog_12_method_33_code 69 = .ok (.ireturn, 1) := by decide +kernel
theorem d_Mod_atom_70 : decode prog_12_method_33_code 70 = .ok (.aload_n 0, 1) := by decide +kernel
theorem d_Mod_atom_71 : decode prog_12_method_33_code 71 = .ok (.bipush 48, 2) := by decide +kernel
theorem d_Mod_atom_73 : decode prog_12_method_33_code 73 = .ok (.bipush 57, 2) := by decide +kernel
theorem d_Mod_atom_75 : decode prog_12_method_33_code 75 = .ok (.invokevirtual 27, 3) := by decide +kernel
theorem d_Mod_atom_78 : decode prog_12_method_33_code 78 = .ok (.ifCond .eq 8, 3) := by decide +kernel
theorem d_Mod_atom_81 : decode prog_12_method_33_code 81 = .ok (.aload_n 0, 1) := by decide +kernel
theorem d_Mod_atom_82 : decode prog_12_method_33_code 82 = .ok (.invokevirtual 206, 3) := by decide +kernel
theorem d_Mod_atom_85 : decode prog_12_method_33_code 85 = .ok (.ireturn, 1) := by decide +kernel
theorem d_Mod_atom_86 : decode prog_12_method_33_code 86 = .ok (.aload_n 0, 1) := by decide +kernel
theorem d_Mod_atom_87 : decode prog_12_method_33_code 87 = .ok (.invokevirtual 78, 3) := by decide +kernel
theorem d_Mod_atom_90 : decode prog_12_method_33_code 90 = .ok (.istore_n 1, 1) := by decide +kernel
theorem d_Mod_atom_91 : decode prog_12_method_33_code 91 = .ok (.iload_n 1, 1) := by decide +kernel
theorem d_Mod_atom_92 : decode prog_12_method_33_code 92 = .ok (.ifCond .eq 23, 3) := by decide +kernel
theorem d_Mod_atom_95 : decode prog_12_method_33_code 95 = .ok (.iload_n 1, 1) := by decide +kernel
theorem d_Mod_atom_96 : decode prog_12_method_33_code 96 = .ok (.ldc 56, 2) := by decide +kernel
theorem d_Mod_atom_98 : decode prog_12_method_33_code 98 = .ok (.if_icmp .gt 17, 3) := by decide +kernel
theorem d_Mod_atom_101 : decode prog_12_method_33_code 101 = .ok (.iload_n 1, 1) := by decide +kernel
theorem d_Mod_atom_102 : decode prog_12_method_33_code 102 = .ok (.invokestatic 85, 3) := by decide +kernel
theorem d_Mod_atom_105 : decode prog_12_method_33_code 105 = .ok (.ifCond .eq 19, 3) := by decide +kernel
theorem d_Mod_atom_108 : decode prog_12_method_33_code 108 = .ok (.iload_n 1, 1) := by decide +kernel
theorem d_Mod_atom_109 : decode prog_12_method_33_code 109 = .ok (.getstatic 75, 3) := by decide +kernel
theorem d_Mod_atom_112 : decode prog_12_method_33_code 112 = .ok (.if_icmp .eq 12, 3) := by decide +kernel
theorem d_Mod_atom_115 : decode prog_12_method_33_code 115 = .ok (.aload_n 0, 1) := by decide +kernel
theorem d_Mod_atom_116 : decode prog_12_method_33_code 116 = .ok (.aload_n 0, 1) := by decide +kernel
theorem d_Mod_atom_117 : decode prog_12_method_33_code 117 = .ok (.getfield 18, 3) := by decide +kernel
theorem d_Mod_atom_120 : decode prog_12_method_33_code 120 = .ok (.invokevirtual 49, 3) := by decide +kernel
theorem d_Mod_atom_123 : decode prog_12_method_33_code 123 = .ok (.ireturn, 1) := by decide +kernel
theorem d_Mod_atom_124 : decode prog_12_method_33_code 124 = .ok (.aload_n 0, 1) := by decide +kernel
theorem d_Mod_atom_125 : decode prog_12_method_33_code 125 = .ok (.aload_n 0, 1) := by decide +kernel
theorem d_Mod_atom_126 : decode prog_12_method_33_code 126 = .ok (.getfield 18, 3) := by decide +kernel
theorem d_Mod_atom_129 : decode prog_12_method_33_code 129 = .ok (.invokevirtual 143, 3) := by decide +kernel
theorem d_Mod_atom_132 : decode prog_12_method_33_code 132 = .ok (.ifCond .ne 5, 3) := by decide +kernel
theorem d_Mod_atom_135 : decode prog_12_method_33_code 135 = .ok (.iconst (-1), 1) := by decide +kernel
theorem d_Mod_atom_136 : decode prog_12_method_33_code 136 = .ok (.ireturn, 1) := by decide +kernel
theorem d_Mod_atom_137 : decode prog_12_method_33_code 137 = .ok (.aload_n 0, 1) := by decide +kernel
theorem d_Mod_atom_138 : decode prog_12_method_33_code 138 = .ok (.getfield 18, 3) := by decide +kernel
theorem d_Mod_atom_141 : decode prog_12_method_33_code 141 = .ok (.istore_n 2, 1) := by decide +kernel
theorem d_Mod_atom_142 : decode prog_12_method_33_code 142 = .ok (.aload_n 0, 1) := by decide +kernel
theorem d_Mod_atom_143 : decode prog_12_method_33_code 143 = .ok (.dup, 1) := by decide +kernel
theorem d_Mod_atom_144 : decode prog_12_method_33_code 144 = .ok (.getfield 18, 3) := by decide +kernel
theorem d_Mod_atom_147 : decode prog_12_method_33_code 147 = .ok (.aload_n 0, 1) := by decide +kernel
theorem d_Mod_atom_148 : decode prog_12_method_33_code 148 = .ok (.getfield 53, 3) := by decide +kernel
theorem d_Mod_atom_151 : decode prog_12_method_33_code 151 = .ok (.iadd, 1) := by decide +kernel
theorem d_Mod_atom_152 : decode prog_12_method_33_code 152 = .ok (.putfield 18, 3) := by decide +kernel
theorem d_Mod_atom_155 : decode prog_12_method_33_code 155 = .ok (.iload_n 1, 1) := by decide +kernel
theorem d_Mod_atom_156 : decode prog_12_method_33_code 156 = .ok (.getstatic 75, 3) := by decide +kernel
theorem d_Mod_atom_159 : decode prog_12_method_33_code 159 = .ok (.if_icmp .ne 13, 3) := by decide +kernel
theorem d_Mod_atom_162 : decode prog_12_method_33_code 162 = .ok (.aload_n 0, 1) := by decide +kernel
theorem d_Mod_atom_163 : decode prog_12_method_33_code 163 = .ok (.iconst 3, 1) := by decide +kernel
theorem d_Mod_atom_164 : decode prog_12_method_33_code 164 = .ok (.iconst (-1), 1) := by decide +kernel
theorem d_Mod_atom_165 : decode prog_12_method_33_code 165 = .ok (.iconst (-1), 1) := by decide +kernel
theorem d_Mod_atom_166 : decode prog_12_method_33_code 166 = .ok (.iconst (-1), 1) := by decide +kernel
theorem d_Mod_atom_167 : decode prog_12_method_33_code 167 = .ok (.iconst 0, 1) := by decide +kernel
theorem d_Mod_atom_168 : decode prog_12_method_33_code 168 = .ok (.invokevirtual 172, 3) := by decide +kernel
theorem d_Mod_atom_171 : decode prog_12_method_33_code 171 = .ok (.ireturn, 1) := by decide +kernel
theorem d_Mod_atom_172 : decode prog_12_method_33_code 172 = .ok (.aload_n 0, 1) := by decide +kernel
theorem d_Mod_atom_173 : decode prog_12_method_33_code 173 = .ok (.getfield 125, 3) := by decide +kernel
theorem d_Mod_atom_176 : decode prog_12_method_33_code 176 = .ok (.iconst 1, 1) := by decide +kernel
theorem d_Mod_atom_177 : decode prog_12_method_33_code 177 = .ok (.isub, 1) := by decide +kernel
theorem d_Mod_atom_178 : decode prog_12_method_33_code 178 = .ok (.istore_n 3, 1) := by decide +kernel
theorem d_Mod_atom_179 : decode prog_12_method_33_code 179 = .ok (.iload_n 3, 1) := by decide +kernel
theorem d_Mod_atom_180 : decode prog_12_method_33_code 180 = .ok (.ifCond .lt 39, 3) := by decide +kernel
theorem d_Mod_atom_183 : decode prog_12_method_33_code 183 = .ok (.aload_n 0, 1) := by decide +kernel
theorem d_Mod_atom_184 : decode prog_12_method_33_code 184 = .ok (.getfield 116, 3) := by decide +kernel
theorem d_Mod_atom_187 : decode prog_12_method_33_code 187 = .ok (.aload_n 0, 1) := by decide +kernel
theorem d_Mod_atom_188 : decode prog_12_method_33_code 188 = .ok (.getfield 122, 3) := by decide +kernel
theorem d_Mod_atom_191 : decode prog_12_method_33_code 191 = .ok (.iload_n 3, 1) := by decide +kernel
theorem d_Mod_atom_192 : decode prog_12_method_33_code 192 = .ok (.iaload, 1) := by decide +kernel
theorem d_Mod_atom_193 : decode prog_12_method_33_code 193 = .ok (.iaload, 1) := by decide +kernel
theorem d_Mod_atom_194 : decode prog_12_method_33_code 194 = .ok (.iload_n 1, 1) := by decide +kernel
theorem d_Mod_atom_195 : decode prog_12_method_33_code 195 = .ok (.if_icmp .ne 18, 3) := by decide +kernel
theorem d_Mod_atom_198 : decode prog_12_method_33_code 198 = .ok (.aload_n 0, 1) := by decide +kernel
theorem d_Mod_atom_199 : decode prog_12_method_33_code 199 = .ok (.iconst 1, 1) := by decide +kernel
theorem d_Mod_atom_200 : decode prog_12_method_33_code 200 = .ok (.aload_n 0, 1) := by decide +kernel
theorem d_Mod_atom_201 : decode prog_12_method_33_code 201 = .ok (.getfield 122, 3) := by decide +kernel
theorem d_Mod_atom_204 : decode prog_12_method_33_code 204 = .ok (.iload_n 3, 1) := by decide +kernel
theorem d_Mod_atom_205 : decode prog_12_method_33_code 205 = .ok (.iaload, 1) := by decide +kernel
theorem d_Mod_atom_206 : decode prog_12_method_33_code 206 = .ok (.iconst (-1), 1) := by decide +kernel
theorem d_Mod_atom_207 : decode prog_12_method_33_code 207 = .ok (.iconst (-1), 1) := by decide +kernel
theorem d_Mod_atom_208 : decode prog_12_method_33_code 208 = .ok (.iconst 0, 1) := by decide +kernel
theorem d_Mod_atom_209 : decode prog_12_method_33_code 209 = .ok (.invokevirtual 172, 3) := by decide +kernel
theorem d_Mod_atom_212 : decode prog_12_method_33_code 212 = .ok (.ireturn, 1) := by decide +kernel
theorem d_Mod_atom_213 : decode prog_12_method_33_code 213 = .ok (.iinc 3 (-1), 3) := by decide +kernel
theorem d_Mod_atom_216 : decode prog_12_method_33_code 216 = .ok (.goto (-37), 3) := by decide +kernel
theorem d_Mod_atom_219 : decode prog_12_method_33_code 219 = .ok (.iconst 0, 1) := by decide +kernel
theorem d_Mod_atom_220 : decode prog_12_method_33_code 220 = .ok (.istore_n 3, 1) := by decide +kernel
theorem d_Mod_atom_221 : decode prog_12_method_33_code 221 = .ok (.iload_n 3, 1) := by decide +kernel
theorem d_Mod_atom_222 : decode prog_12_method_33_code 222 = .ok (.aload_n 0, 1) := by decide +kernel
theorem d_Mod_atom_223 : decode prog_12_method_33_code 223 = .ok (.getfield 209, 3) := by decide +kernel
theorem d_Mod_atom_226 : decode prog_12_method_33_code 226 = .ok (.if_icmp .ge 29, 3) := by decide +kernel
theorem d_Mod_atom_229 : decode prog_12_method_33_code 229 = .ok (.aload_n 0, 1) := by decide +kernel
theorem d_Mod_atom_230 : decode prog_12_method_33_code 230 = .ok (.getfield 212, 3) := by decide +kernel
theorem d_Mod_atom_233 : decode prog_12_method_33_code 233 = .ok (.iload_n 3, 1) := by decide +kernel
theorem d_Mod_atom_234 : decode prog_12_method_33_code 234 = .ok (.iaload, 1) := by decide +kernel
theorem d_Mod_atom_235 : decode prog_12_method_33_code 235 = .ok (.iload_n 1, 1) := by decide +kernel
theorem d_Mod_atom_236 : decode prog_12_method_33_code 236 = .ok (.if_icmp .ne 13, 3) := by decide +kernel
theorem d_Mod_atom_239 : decode prog_12_method_33_code 239 = .ok (.aload_n 0, 1) := by decide +kernel
theorem d_Mod_atom_240 : decode prog_12_method_33_code 240 = .ok (.iconst 2, 1) := by decide +kernel
theorem d_Mod_atom_241 : decode prog_12_method_33_code 241 = .ok (.iload_n 3, 1) := by decide +kernel
theorem d_Mod_atom_242 : decode prog_12_method_33_code 242 = .ok (.iconst (-1), 1) := by decide +kernel
theorem d_Mod_atom_243 : decode prog_12_method_33_code 243 = .ok (.iconst (-1), 1) := by decide +kernel
theorem d_Mod_atom_244 : decode prog_12_method_33_code 244 = .ok (.iconst 0, 1) := by decide +kernel
theorem d_Mod_atom_245 : decode prog_12_method_33_code 245 = .ok (.invokevirtual 172, 3) := by decide +kernel
theorem d_Mod_atom_248 : decode prog_12_method_33_code 248 = .ok (.ireturn, 1) := by decide +kernel
theorem d_Mod_atom_249 : decode prog_12_method_33_code 249 = .ok (.iinc 3 1, 3) := by decide +kernel
theorem d_Mod_atom_252 : decode prog_12_method_33_code 252 = .ok (.goto (-31), 3) := by decide +kernel
theorem d_Mod_atom_255 : decode prog_12_method_33_code 255 = .ok (.aload_n 0, 1) := by decide +kernel
theorem d_Mod_atom_256 : decode prog_12_method_33_code 256 = .ok (.iload_n 2, 1) := by decide +kernel
theorem d_Mod_atom_257 : decode prog_12_method_33_code 257 = .ok (.invokevirtual 49, 3) := by decide +kernel
theorem d_Mod_atom_260 : decode prog_12_method_33_code 260 = .ok (.ireturn, 1) := by decide +kernel
def fm_Mod_atom_j115 (rc_expression : fa_W → Option (Int × fa_W)) (w : fa_W) : Option (Int × fa_W) :=
  fa_l2 (fm_Mod_fails (w 181 26) w) fun v16 w17 =>
  some (v16, w17)
set_option maxHeartbeats 4000000 in
set_option maxRecDepth 100000 in
theorem c_Mod_atom_j115 {p : Program} {l : Launch} {e : Env} {s : State} {m : MethodId} {args : Array Value} {below : List Frame} {meth : Method} {c : Code} {hh : Nat} {D : va_G} {b : Nat} {aC : Nat → ClassId} {H0 : Heap} {N T : Nat} {dd : Nat} (X : fa_GX p s m args meth c prog_12_method_33_code 4 ((Option.some Jvm.ClassFile.FieldType.int)) y_Mod_atom.cls D b aC) (hle : 5 + dd + 1 ≤ hh) (hN : fa_NM ≤ N) (hT : fa_TM ≤ T) {r : Int × fa_W} (rc_expression : fa_W → Option (Int × fa_W)) (Rrc_expression : ∀ (w : fa_W) (r : Int × fa_W), rc_expression w = some r → fa_MC l D b aC H0 N T y_Mod_expression prog_12_method_24_code 2 ((Option.some Jvm.ClassFile.FieldType.int)) (5 + dd) [.ref (b + 181)] w (some (.int (fa_I r.1))) r.2) : ∀ (w : fa_W) (_ : fm_Mod_atom_j115 rc_expression w = some r), fa_GJ p l e (fa_rm hh) s m args below meth c 0 0 (MQ below (fa_Qc D b aC H0 N T (some (.int (fa_I r.1))) r.2) args s 0 0 (fun q => b ≤ q)) D b aC H0 N T 4 w 115 [(0, .ref (b + 181))] [] := by
  intro w hM
  unfold fm_Mod_atom_j115 at hM
  refine g_aload_n X 0 rfl d_Mod_atom_115 ?_
  refine g_aload_n X 0 rfl d_Mod_atom_116 ?_
  refine g_get X ck_10 fo_181 (fn_181 hN) 26 (by decide) wd_1767 rfl (fa_fvI rfl) d_Mod_atom_117 ?_
  obtain ⟨⟨v16, w17⟩, e15⟩ : ∃ q, fm_Mod_fails (w 181 26) w = q := ⟨_, rfl⟩
  have hM := fa_l2_e hM e15
  refine g_callV_i X ck_10 fo_181 (fn_181 hN) rfl mi_Mod_fails (c_Mod_fails hN hT (w 181 26) w _ e15) wd_1517 rfl (by omega) (st := []) (Nat.le_of_ble_eq_true rfl) rfl d_Mod_atom_120 ?_
  cases hM
  exact g_iret X d_Mod_atom_123
def fm_Mod_atom_l221 (rc_expression : fa_W → Option (Int × fa_W)) : Nat → Int → Int → Int → fa_W → Option (Int × fa_W)
  | 0, _, _, _, _ => none
  | n + 1, x1, x2, x3, w => if fa_wr (w 181 17) ≤ fa_wr x3 then
  (fa_l2 (fm_Mod_fails x2 w) fun v32 w33 =>
  some (v32, w33))
  else
  ((fa_ix x3 6).bind fun j34 =>
  if fa_wr (w 190 j34) = fa_wr x1 then
  (fa_bd (fm_Mod_node 2 x3 (-1) (-1) 0 w) fun v38 w39 =>
  some (v38, w39))
  else
  (fa_let (x3 + 1) fun x3_36 =>
  fm_Mod_atom_l221 rc_expression n x1 x2 x3_36 w))
set_option maxHeartbeats 4000000 in
set_option maxRecDepth 100000 in
theorem c_Mod_atom_l221 {p : Program} {l : Launch} {e : Env} {s : State} {m : MethodId} {args : Array Value} {below : List Frame} {meth : Method} {c : Code} {hh : Nat} {D : va_G} {b : Nat} {aC : Nat → ClassId} {H0 : Heap} {N T : Nat} {dd : Nat} (X : fa_GX p s m args meth c prog_12_method_33_code 4 ((Option.some Jvm.ClassFile.FieldType.int)) y_Mod_atom.cls D b aC) (hle : 5 + dd + 1 ≤ hh) (hN : fa_NM ≤ N) (hT : fa_TM ≤ T) {r : Int × fa_W} (rc_expression : fa_W → Option (Int × fa_W)) (Rrc_expression : ∀ (w : fa_W) (r : Int × fa_W), rc_expression w = some r → fa_MC l D b aC H0 N T y_Mod_expression prog_12_method_24_code 2 ((Option.some Jvm.ClassFile.FieldType.int)) (5 + dd) [.ref (b + 181)] w (some (.int (fa_I r.1))) r.2) : ∀ (n : Nat) (x1 : Int) (x2 : Int) (x3 : Int) (w : fa_W), fm_Mod_atom_l221 rc_expression n x1 x2 x3 w = some r → fa_GJ p l e (fa_rm hh) s m args below meth c 0 0 (MQ below (fa_Qc D b aC H0 N T (some (.int (fa_I r.1))) r.2) args s 0 0 (fun q => b ≤ q)) D b aC H0 N T 4 w 221 [(0, .ref (b + 181)), (1, .int (fa_I x1)), (2, .int (fa_I x2)), (3, .int (fa_I x3))] [] := by
  intro n
  induction n with
  | zero => intro x1 x2 x3 w hM; exact fa_no hM
  | succ n ih =>
    intro x1 x2 x3 w hM
    rw [fm_Mod_atom_l221] at hM
    refine g_iload_n X 3 rfl d_Mod_atom_221 ?_
    refine g_aload_n X 0 rfl d_Mod_atom_222 ?_
    refine g_get X ck_10 fo_181 (fn_181 hN) 17 (by decide) wd_1759 rfl (fa_fvI rfl) d_Mod_atom_223 ?_
    refine g_icmp_ge X 255 d_Mod_atom_226 (by decide) (fun hc30 => ?_) (fun hc30 => ?_)
    · have hM := fa_if_t hM hc30
      refine g_aload_n X 0 rfl d_Mod_atom_255 ?_
      refine g_iload_n X 2 rfl d_Mod_atom_256 ?_
      obtain ⟨⟨v32, w33⟩, e31⟩ : ∃ q, fm_Mod_fails x2 w = q := ⟨_, rfl⟩
      have hM := fa_l2_e hM e31
      refine g_callV_i X ck_10 fo_181 (fn_181 hN) rfl mi_Mod_fails (c_Mod_fails hN hT x2 w _ e31) wd_1517 rfl (by omega) (st := []) (Nat.le_of_ble_eq_true rfl) rfl d_Mod_atom_257 ?_
      cases hM
      exact g_iret X d_Mod_atom_260
    · have hM := fa_if_f hM hc30
      refine g_aload_n X 0 rfl d_Mod_atom_229 ?_
      refine g_get X ck_10 fo_181 (fn_181 hN) 10 (by decide) wd_1752 rfl (fr_181_10 rfl hT) d_Mod_atom_230 ?_
      refine g_iload_n X 3 rfl d_Mod_atom_233 ?_
      obtain ⟨j34, ej34, hM⟩ := fa_ob hM
      refine g_iald X fs_190 (fn_190 hN) ej34 d_Mod_atom_234 ?_
      refine g_iload_n X 1 rfl d_Mod_atom_235 ?_
      refine g_icmp_ne X 249 d_Mod_atom_236 (by decide) (fun hc35 => ?_) (fun hc35 => ?_)
      · have hM := fa_if_f hM hc35
        refine g_iinc X 3 (fun x3_36 => [(3, .int (fa_I x3_36)), (0, .ref (b + 181)), (1, .int (fa_I x1)), (2, .int (fa_I x2))]) d_Mod_atom_249 rfl (by decide) (fun _ => rfl) (fun x3_36 ex3_36 => ?_)
        have hM := fa_let_to hM ex3_36
        refine g_goto X 221 d_Mod_atom_252 (by decide) ?_
        exact g_lv [1, 2, 3, 0] rfl (ih _ _ _ _ hM)
      · have hM := fa_if_t hM hc35
        refine g_aload_n X 0 rfl d_Mod_atom_239 ?_
        refine g_iconst X d_Mod_atom_240 ?_
        refine g_iload_n X 3 rfl d_Mod_atom_241 ?_
        refine g_iconst X d_Mod_atom_242 ?_
        refine g_iconst X d_Mod_atom_243 ?_
        refine g_iconst X d_Mod_atom_244 ?_
        obtain ⟨v38, w39, e37, hM⟩ := fa_obd hM
        refine g_callV_i X ck_10 fo_181 (fn_181 hN) rfl mi_Mod_node (c_Mod_node hN hT 2 x3 (-1) (-1) 0 w _ e37) wd_1576 rfl (by omega) (st := []) (Nat.le_of_ble_eq_true rfl) rfl d_Mod_atom_245 ?_
        cases hM
        exact g_iret X d_Mod_atom_248
def fm_Mod_atom_l179 (rc_expression : fa_W → Option (Int × fa_W)) : Nat → Int → Int → Int → fa_W → Option (Int × fa_W)
  | 0, _, _, _, _ => none
  | n + 1, x1, x2, x3, w => if fa_wr x3 < 0 then
  fm_Mod_atom_l221 rc_expression fa_FU x1 x2 0 w
  else
  ((fa_ix x3 124).bind fun j40 =>
  (fa_ix (w 198 j40) 124).bind fun j41 =>
  if fa_wr (w 192 j41) = fa_wr x1 then
  ((fa_ix x3 124).bind fun j44 =>
  fa_bd (fm_Mod_node 1 (w 198 j44) (-1) (-1) 0 w) fun v46 w47 =>
  some (v46, w47))
  else
  (fa_let (x3 + (-1)) fun x3_43 =>
  fm_Mod_atom_l179 rc_expression n x1 x2 x3_43 w))
set_option maxHeartbeats 4000000 in
set_option maxRecDepth 100000 in
theorem c_Mod_atom_l179 {p : Program} {l : Launch} {e : Env} {s : State} {m : MethodId} {args : Array Value} {below : List Frame} {meth : Method} {c : Code} {hh : Nat} {D : va_G} {b : Nat} {aC : Nat → ClassId} {H0 : Heap} {N T : Nat} {dd : Nat} (X : fa_GX p s m args meth c prog_12_method_33_code 4 ((Option.some Jvm.ClassFile.FieldType.int)) y_Mod_atom.cls D b aC) (hle : 5 + dd + 1 ≤ hh) (hN : fa_NM ≤ N) (hT : fa_TM ≤ T) {r : Int × fa_W} (rc_expression : fa_W → Option (Int × fa_W)) (Rrc_expression : ∀ (w : fa_W) (r : Int × fa_W), rc_expression w = some r → fa_MC l D b aC H0 N T y_Mod_expression prog_12_method_24_code 2 ((Option.some Jvm.ClassFile.FieldType.int)) (5 + dd) [.ref (b + 181)] w (some (.int (fa_I r.1))) r.2) : ∀ (n : Nat) (x1 : Int) (x2 : Int) (x3 : Int) (w : fa_W), fm_Mod_atom_l179 rc_expression n x1 x2 x3 w = some r → fa_GJ p l e (fa_rm hh) s m args below meth c 0 0 (MQ below (fa_Qc D b aC H0 N T (some (.int (fa_I r.1))) r.2) args s 0 0 (fun q => b ≤ q)) D b aC H0 N T 4 w 179 [(0, .ref (b + 181)), (1, .int (fa_I x1)), (2, .int (fa_I x2)), (3, .int (fa_I x3))] [] := by
  intro n
  induction n with
  | zero => intro x1 x2 x3 w hM; exact fa_no hM
  | succ n ih =>
    intro x1 x2 x3 w hM
    rw [fm_Mod_atom_l179] at hM
    refine g_iload_n X 3 rfl d_Mod_atom_179 ?_
    refine g_if_lt X 219 d_Mod_atom_180 (by decide) (fun hc29 => ?_) (fun hc29 => ?_)
    · have hM := fa_if_t hM hc29
      refine g_iconst X d_Mod_atom_219 ?_
      refine g_istorec_n X [(3, .int (fa_I 0)), (0, .ref (b + 181)), (1, .int (fa_I x1)), (2, .int (fa_I x2))] d_Mod_atom_220 (by decide) rfl ?_
      exact g_lv [1, 2, 3, 0] rfl (c_Mod_atom_l221 X hle hN hT rc_expression Rrc_expression  fa_FU _ _ _ _ hM)
    · have hM := fa_if_f hM hc29
      refine g_aload_n X 0 rfl d_Mod_atom_183 ?_
      refine g_get X ck_10 fo_181 (fn_181 hN) 12 (by decide) wd_1754 rfl (fr_181_12 rfl hT) d_Mod_atom_184 ?_
      refine g_aload_n X 0 rfl d_Mod_atom_187 ?_
      refine g_get X ck_10 fo_181 (fn_181 hN) 32 (by decide) wd_1773 rfl (fr_181_32 rfl hT) d_Mod_atom_188 ?_
      refine g_iload_n X 3 rfl d_Mod_atom_191 ?_
      obtain ⟨j40, ej40, hM⟩ := fa_ob hM
      refine g_iald X fs_198 (fn_198 hN) ej40 d_Mod_atom_192 ?_
      obtain ⟨j41, ej41, hM⟩ := fa_ob hM
      refine g_iald X fs_192 (fn_192 hN) ej41 d_Mod_atom_193 ?_
      refine g_iload_n X 1 rfl d_Mod_atom_194 ?_
      refine g_icmp_ne X 213 d_Mod_atom_195 (by decide) (fun hc42 => ?_) (fun hc42 => ?_)
      · have hM := fa_if_f hM hc42
        refine g_iinc X 3 (fun x3_43 => [(3, .int (fa_I x3_43)), (0, .ref (b + 181)), (1, .int (fa_I x1)), (2, .int (fa_I x2))]) d_Mod_atom_213 rfl (by decide) (fun _ => rfl) (fun x3_43 ex3_43 => ?_)
        have hM := fa_let_to hM ex3_43
        refine g_goto X 179 d_Mod_atom_216 (by decide) ?_
        exact g_lv [1, 2, 3, 0] rfl (ih _ _ _ _ hM)
      · have hM := fa_if_t hM hc42
        refine g_aload_n X 0 rfl d_Mod_atom_198 ?_
        refine g_iconst X d_Mod_atom_199 ?_
        refine g_aload_n X 0 rfl d_Mod_atom_200 ?_
        refine g_get X ck_10 fo_181 (fn_181 hN) 32 (by decide) wd_1773 rfl (fr_181_32 rfl hT) d_Mod_atom_201 ?_
        refine g_iload_n X 3 rfl d_Mod_atom_204 ?_
        obtain ⟨j44, ej44, hM⟩ := fa_ob hM
        refine g_iald X fs_198 (fn_198 hN) ej44 d_Mod_atom_205 ?_
        refine g_iconst X d_Mod_atom_206 ?_
        refine g_iconst X d_Mod_atom_207 ?_
        refine g_iconst X d_Mod_atom_208 ?_
        obtain ⟨v46, w47, e45, hM⟩ := fa_obd hM
        refine g_callV_i X ck_10 fo_181 (fn_181 hN) rfl mi_Mod_node (c_Mod_node hN hT 1 (w 198 j44) (-1) (-1) 0 w _ e45) wd_1576 rfl (by omega) (st := []) (Nat.le_of_ble_eq_true rfl) rfl d_Mod_atom_209 ?_
        cases hM
        exact g_iret X d_Mod_atom_212
def fm_Mod_atom_j124 (rc_expression : fa_W → Option (Int × fa_W)) (x1 : Int) (w : fa_W) : Option (Int × fa_W) :=
  fa_l2 (fm_Mod_begins (w 181 26) w) fun v22 w23 =>
  if v22 = true then
  (fa_let (w23 181 26) fun x2_25 =>
  fa_let (fa_st w23 181 26 ((w23 181 26) + (w23 181 34))) fun w26 =>
  if fa_wr x1 = 82408 then
  (fa_bd (fm_Mod_node 3 (-1) (-1) (-1) 0 w26) fun v49 w50 =>
  some (v49, w50))
  else
  (fa_let ((w26 181 33) - 1) fun x3_28 =>
  fm_Mod_atom_l179 rc_expression fa_FU x1 x2_25 x3_28 w26))
  else
  some ((-1), w23)
set_option maxHeartbeats 4000000 in
set_option maxRecDepth 100000 in
theorem c_Mod_atom_j124 {p : Program} {l : Launch} {e : Env} {s : State} {m : MethodId} {args : Array Value} {below : List Frame} {meth : Method} {c : Code} {hh : Nat} {D : va_G} {b : Nat} {aC : Nat → ClassId} {H0 : Heap} {N T : Nat} {dd : Nat} (X : fa_GX p s m args meth c prog_12_method_33_code 4 ((Option.some Jvm.ClassFile.FieldType.int)) y_Mod_atom.cls D b aC) (hle : 5 + dd + 1 ≤ hh) (hN : fa_NM ≤ N) (hT : fa_TM ≤ T) {r : Int × fa_W} (rc_expression : fa_W → Option (Int × fa_W)) (Rrc_expression : ∀ (w : fa_W) (r : Int × fa_W), rc_expression w = some r → fa_MC l D b aC H0 N T y_Mod_expression prog_12_method_24_code 2 ((Option.some Jvm.ClassFile.FieldType.int)) (5 + dd) [.ref (b + 181)] w (some (.int (fa_I r.1))) r.2) : ∀ (x1 : Int) (w : fa_W) (_ : fm_Mod_atom_j124 rc_expression x1 w = some r), fa_GJ p l e (fa_rm hh) s m args below meth c 0 0 (MQ below (fa_Qc D b aC H0 N T (some (.int (fa_I r.1))) r.2) args s 0 0 (fun q => b ≤ q)) D b aC H0 N T 4 w 124 [(0, .ref (b + 181)), (1, .int (fa_I x1))] [] := by
  intro x1 w hM
  unfold fm_Mod_atom_j124 at hM
  refine g_aload_n X 0 rfl d_Mod_atom_124 ?_
  refine g_aload_n X 0 rfl d_Mod_atom_125 ?_
  refine g_get X ck_10 fo_181 (fn_181 hN) 26 (by decide) wd_1767 rfl (fa_fvI rfl) d_Mod_atom_126 ?_
  obtain ⟨⟨v22, w23⟩, e21⟩ : ∃ q, fm_Mod_begins (w 181 26) w = q := ⟨_, rfl⟩
  have hM := fa_l2_e hM e21
  refine g_callV_i X ck_10 fo_181 (fn_181 hN) rfl mi_Mod_begins (c_Mod_begins hN hT (w 181 26) w _ e21) wd_1568 rfl (by omega) (st := []) (Nat.le_of_ble_eq_true rfl) rfl d_Mod_atom_129 ?_
  refine g_ifb_ne X 137 d_Mod_atom_132 (by decide) (fun hc24 => ?_) (fun hc24 => ?_)
  · have hM := fa_ifb_t hM hc24
    refine g_aload_n X 0 rfl d_Mod_atom_137 ?_
    refine g_get X ck_10 fo_181 (fn_181 hN) 26 (by decide) wd_1767 rfl (fa_fvI rfl) d_Mod_atom_138 ?_
    refine g_istore_n X (fun x2_25 => [(2, .int (fa_I x2_25)), (0, .ref (b + 181)), (1, .int (fa_I x1))]) d_Mod_atom_141 (by decide) (fun _ => rfl) (fun x2_25 ex2_25 => ?_)
    have hM := fa_let_to hM ex2_25
    refine g_aload_n X 1 rfl d_Mod_atom_142 ?_
    refine g_dup X rfl d_Mod_atom_143 ?_
    refine g_get X ck_10 fo_181 (fn_181 hN) 26 (by decide) wd_1767 rfl (fa_fvI rfl) d_Mod_atom_144 ?_
    refine g_aload_n X 1 rfl d_Mod_atom_147 ?_
    refine g_get X ck_10 fo_181 (fn_181 hN) 34 (by decide) wd_1775 rfl (fa_fvI rfl) d_Mod_atom_148 ?_
    refine g_iadd X d_Mod_atom_151 ?_
    refine g_put X ck_10 fo_181 (fn_181 hN) 26 (z := ((w23 181 26) + (w23 181 34))) (by decide) wd_1767 rfl (fa_fvI' rfl) rfl rfl rfl d_Mod_atom_152 (fun w26 ew26 => ?_)
    have hM := fa_let_to hM ew26
    refine g_iload_n X 2 rfl d_Mod_atom_155 ?_
    refine g_gets X (n := "DEADS") (v := 82408) (z := 82408) (by decide) wd_1546 rfl d_Mod_atom_156 ?_
    refine g_icmp_ne X 172 d_Mod_atom_159 (by decide) (fun hc27 => ?_) (fun hc27 => ?_)
    · have hM := fa_if_f hM hc27
      refine g_aload_n X 1 rfl d_Mod_atom_172 ?_
      refine g_get X ck_10 fo_181 (fn_181 hN) 33 (by decide) wd_1774 rfl (fa_fvI rfl) d_Mod_atom_173 ?_
      refine g_iconst X d_Mod_atom_176 ?_
      refine g_isub X d_Mod_atom_177 ?_
      refine g_istore_n X (fun x3_28 => [(3, .int (fa_I x3_28)), (2, .int (fa_I x2_25)), (0, .ref (b + 181)), (1, .int (fa_I x1))]) d_Mod_atom_178 (by decide) (fun _ => rfl) (fun x3_28 ex3_28 => ?_)
      have hM := fa_let_to hM ex3_28
      exact g_lv [2, 3, 1, 0] rfl (c_Mod_atom_l179 X hle hN hT rc_expression Rrc_expression  fa_FU _ _ _ _ hM)
    · have hM := fa_if_t hM hc27
      refine g_aload_n X 1 rfl d_Mod_atom_162 ?_
      refine g_iconst X d_Mod_atom_163 ?_
      refine g_iconst X d_Mod_atom_164 ?_
      refine g_iconst X d_Mod_atom_165 ?_
      refine g_iconst X d_Mod_atom_166 ?_
      refine g_iconst X d_Mod_atom_167 ?_
      obtain ⟨v49, w50, e48, hM⟩ := fa_obd hM
      refine g_callV_i X ck_10 fo_181 (fn_181 hN) rfl mi_Mod_node (c_Mod_node hN hT 3 (-1) (-1) (-1) 0 w26 _ e48) wd_1576 rfl (by omega) (st := []) (Nat.le_of_ble_eq_true rfl) rfl d_Mod_atom_168 ?_
      cases hM
      exact g_iret X d_Mod_atom_171
  · have hM := fa_ifb_f hM hc24
    refine g_iconst X d_Mod_atom_135 ?_
    cases hM
    exact g_iret X d_Mod_atom_136
def fm_Mod_atom_b (rc_expression : fa_W → Option (Int × fa_W)) (w : fa_W) : Option (Int × fa_W) :=
  if fm_Mod_hasFailed w = true then
  some ((-1), w)
  else
  ((fm_Mod_blanks w).bind fun w4 =>
  (fm_Mod_isAt 40 40 w4).bind fun v6 =>
  if v6 = true then
  (fa_l2 (fm_Mod_opens (w4 181 26) w4) fun v56 w57 =>
  if v56 = true then
  (fa_let (fa_st w57 181 26 ((w57 181 26) + 1)) fun w59 =>
  fa_bd (rc_expression w59) fun v61 w62 =>
  (fm_Mod_asks 41 w62).bind fun w64 =>
  fa_let (fa_st w64 181 29 ((w64 181 29) - 1)) fun w65 =>
  some (v61, w65))
  else
  some ((-1), w57))
  else
  ((fm_Mod_isAt 48 57 w4).bind fun v9 =>
  if v9 = true then
  (fa_bd (fm_Mod_number w4) fun v53 w54 =>
  some (v53, w54))
  else
  (fa_bd (fm_Mod_wordAhead w4) fun v12 w13 =>
  if fa_wr v12 = 0 then
  fm_Mod_atom_j115 rc_expression w13
  else
  (if 1048576 < fa_wr v12 then
  fm_Mod_atom_j115 rc_expression w13
  else
  (if fm_Mod_isOwn v12 w13 = true then
  (if fa_wr v12 = 82408 then
  fm_Mod_atom_j124 rc_expression v12 w13
  else
  fm_Mod_atom_j115 rc_expression w13)
  else
  fm_Mod_atom_j124 rc_expression v12 w13)))))
set_option maxHeartbeats 4000000 in
set_option maxRecDepth 100000 in
theorem c_Mod_atom_b {l : Launch} {D : va_G} {b : Nat} {aC : Nat → ClassId} {H0 : Heap} {N T : Nat} (hN : fa_NM ≤ N) (hT : fa_TM ≤ T) (dd : Nat) (rc_expression : fa_W → Option (Int × fa_W)) (Rrc_expression : ∀ (w : fa_W) (r : Int × fa_W), rc_expression w = some r → fa_MC l D b aC H0 N T y_Mod_expression prog_12_method_24_code 2 ((Option.some Jvm.ClassFile.FieldType.int)) (5 + dd) [.ref (b + 181)] w (some (.int (fa_I r.1))) r.2)  (w : fa_W) (r : Int × fa_W) (hM : fm_Mod_atom_b rc_expression w = some r) : fa_MC l D b aC H0 N T y_Mod_atom prog_12_method_33_code 4 ((Option.some Jvm.ClassFile.FieldType.int)) (5 + dd + 1) [.ref (b + 181)] w (some (.int (fa_I r.1))) r.2 := by
  refine fa_enter (lv := [(0, .ref (b + 181))]) (by decide +kernel) (Nat.le_of_ble_eq_true rfl) rfl (fun hh hle hnm X => ?_)
  unfold fm_Mod_atom_b at hM
  refine g_aload_n X 0 rfl d_Mod_atom_0 ?_
  refine g_callV_i X ck_10 fo_181 (fn_181 hN) rfl mi_Mod_hasFailed (c_Mod_hasFailed hN hT w _ rfl) wd_1494 rfl (by omega) (st := []) (Nat.le_of_ble_eq_true rfl) rfl d_Mod_atom_1 ?_
  refine g_ifb_eq X 9 d_Mod_atom_4 (by decide) (fun hc2 => ?_) (fun hc2 => ?_)
  · have hM := fa_ifb_f hM hc2
    refine g_aload_n X 0 rfl d_Mod_atom_9 ?_
    obtain ⟨w4, e3, hM⟩ := fa_ob hM
    refine g_callV_v X ck_10 fo_181 (fn_181 hN) rfl mi_Mod_blanks (c_Mod_blanks hN hT w _ e3) wd_1502 rfl (by omega) (st := []) (Nat.le_of_ble_eq_true rfl) rfl d_Mod_atom_10 ?_
    refine g_aload_n X 0 rfl d_Mod_atom_13 ?_
    refine g_bipush X (by decide) d_Mod_atom_14 ?_
    refine g_bipush X (by decide) d_Mod_atom_16 ?_
    obtain ⟨v6, e5, hM⟩ := fa_ob hM
    refine g_callV_i X ck_10 fo_181 (fn_181 hN) rfl mi_Mod_isAt (c_Mod_isAt hN hT 40 40 w4 _ e5) wd_1506 rfl (by omega) (st := []) (Nat.le_of_ble_eq_true rfl) rfl d_Mod_atom_18 ?_
    refine g_ifb_eq X 70 d_Mod_atom_21 (by decide) (fun hc7 => ?_) (fun hc7 => ?_)
    · have hM := fa_ifb_f hM hc7
      refine g_aload_n X 0 rfl d_Mod_atom_70 ?_
      refine g_bipush X (by decide) d_Mod_atom_71 ?_
      refine g_bipush X (by decide) d_Mod_atom_73 ?_
      obtain ⟨v9, e8, hM⟩ := fa_ob hM
      refine g_callV_i X ck_10 fo_181 (fn_181 hN) rfl mi_Mod_isAt (c_Mod_isAt hN hT 48 57 w4 _ e8) wd_1506 rfl (by omega) (st := []) (Nat.le_of_ble_eq_true rfl) rfl d_Mod_atom_75 ?_
      refine g_ifb_eq X 86 d_Mod_atom_78 (by decide) (fun hc10 => ?_) (fun hc10 => ?_)
      · have hM := fa_ifb_f hM hc10
        refine g_aload_n X 0 rfl d_Mod_atom_86 ?_
        obtain ⟨v12, w13, e11, hM⟩ := fa_obd hM
        refine g_callV_i X ck_10 fo_181 (fn_181 hN) rfl mi_Mod_wordAhead (c_Mod_wordAhead hN hT w4 _ e11) wd_1498 rfl (by omega) (st := []) (Nat.le_of_ble_eq_true rfl) rfl d_Mod_atom_87 ?_
        refine g_istorec_n X [(1, .int (fa_I v12)), (0, .ref (b + 181))] d_Mod_atom_90 (by decide) rfl ?_
        refine g_iload_n X 0 rfl d_Mod_atom_91 ?_
        refine g_if_eq X 115 d_Mod_atom_92 (by decide) (fun hc14 => ?_) (fun hc14 => ?_)
        · have hM := fa_if_t hM hc14
          exact g_lv [1] rfl (c_Mod_atom_j115 X hle hN hT rc_expression Rrc_expression   _ hM)
        · have hM := fa_if_f hM hc14
          refine g_iload_n X 0 rfl d_Mod_atom_95 ?_
          refine g_ldc X (n := 1048576) wd_1510 (by decide) d_Mod_atom_96 ?_
          refine g_icmp_gt X 115 d_Mod_atom_98 (by decide) (fun hc18 => ?_) (fun hc18 => ?_)
          · have hM := fa_if_t hM hc18
            exact g_lv [1] rfl (c_Mod_atom_j115 X hle hN hT rc_expression Rrc_expression   _ hM)
          · have hM := fa_if_f hM hc18
            refine g_iload_n X 0 rfl d_Mod_atom_101 ?_
            refine g_callS_i X mi_Mod_isOwn (c_Mod_isOwn hN hT v12 w13 _ rfl) wd_1533 rfl (by omega) (st := []) (Nat.le_of_ble_eq_true rfl) rfl d_Mod_atom_102 ?_
            refine g_ifb_eq X 124 d_Mod_atom_105 (by decide) (fun hc20 => ?_) (fun hc20 => ?_)
            · have hM := fa_ifb_f hM hc20
              exact g_lv [1, 0] rfl (c_Mod_atom_j124 X hle hN hT rc_expression Rrc_expression   _ _ hM)
            · have hM := fa_ifb_t hM hc20
              refine g_iload_n X 0 rfl d_Mod_atom_108 ?_
              refine g_gets X (n := "DEADS") (v := 82408) (z := 82408) (by decide) wd_1546 rfl d_Mod_atom_109 ?_
              refine g_icmp_eq X 124 d_Mod_atom_112 (by decide) (fun hc51 => ?_) (fun hc51 => ?_)
              · have hM := fa_if_t hM hc51
                exact g_lv [1, 0] rfl (c_Mod_atom_j124 X hle hN hT rc_expression Rrc_expression   _ _ hM)
              · have hM := fa_if_f hM hc51
                exact g_lv [1] rfl (c_Mod_atom_j115 X hle hN hT rc_expression Rrc_expression   _ hM)
      · have hM := fa_ifb_t hM hc10
        refine g_aload_n X 0 rfl d_Mod_atom_81 ?_
        obtain ⟨v53, w54, e52, hM⟩ := fa_obd hM
        refine g_callV_i X ck_10 fo_181 (fn_181 hN) rfl mi_Mod_number (c_Mod_number hN hT w4 _ e52) wd_1608 rfl (by omega) (st := []) (Nat.le_of_ble_eq_true rfl) rfl d_Mod_atom_82 ?_
        cases hM
        exact g_iret X d_Mod_atom_85
    · have hM := fa_ifb_t hM hc7
      refine g_aload_n X 0 rfl d_Mod_atom_24 ?_
      refine g_aload_n X 0 rfl d_Mod_atom_25 ?_
      refine g_get X ck_10 fo_181 (fn_181 hN) 26 (by decide) wd_1767 rfl (fa_fvI rfl) d_Mod_atom_26 ?_
      obtain ⟨⟨v56, w57⟩, e55⟩ : ∃ q, fm_Mod_opens (w4 181 26) w4 = q := ⟨_, rfl⟩
      have hM := fa_l2_e hM e55
      refine g_callV_i X ck_10 fo_181 (fn_181 hN) rfl mi_Mod_opens (c_Mod_opens hN hT (w4 181 26) w4 _ e55) wd_1572 rfl (by omega) (st := []) (Nat.le_of_ble_eq_true rfl) rfl d_Mod_atom_29 ?_
      refine g_ifb_ne X 37 d_Mod_atom_32 (by decide) (fun hc58 => ?_) (fun hc58 => ?_)
      · have hM := fa_ifb_t hM hc58
        refine g_aload_n X 0 rfl d_Mod_atom_37 ?_
        refine g_dup X rfl d_Mod_atom_38 ?_
        refine g_get X ck_10 fo_181 (fn_181 hN) 26 (by decide) wd_1767 rfl (fa_fvI rfl) d_Mod_atom_39 ?_
        refine g_iconst X d_Mod_atom_42 ?_
        refine g_iadd X d_Mod_atom_43 ?_
        refine g_put X ck_10 fo_181 (fn_181 hN) 26 (z := ((w57 181 26) + 1)) (by decide) wd_1767 rfl (fa_fvI' rfl) rfl rfl rfl d_Mod_atom_44 (fun w59 ew59 => ?_)
        have hM := fa_let_to hM ew59
        refine g_aload_n X 0 rfl d_Mod_atom_47 ?_
        obtain ⟨v61, w62, e60, hM⟩ := fa_obd hM
        refine g_callV_i X ck_10 fo_181 (fn_181 hN) rfl mi_Mod_expression (Rrc_expression w59 _ e60) wd_1560 rfl (by omega) (st := []) (Nat.le_of_ble_eq_true rfl) rfl d_Mod_atom_48 ?_
        refine g_istorec_n X [(1, .int (fa_I v61)), (0, .ref (b + 181))] d_Mod_atom_51 (by decide) rfl ?_
        refine g_aload_n X 1 rfl d_Mod_atom_52 ?_
        refine g_bipush X (by decide) d_Mod_atom_53 ?_
        obtain ⟨w64, e63, hM⟩ := fa_ob hM
        refine g_callV_v X ck_10 fo_181 (fn_181 hN) rfl mi_Mod_asks (c_Mod_asks hN hT 41 w62 _ e63) wd_1548 rfl (by omega) (st := []) (Nat.le_of_ble_eq_true rfl) rfl d_Mod_atom_55 ?_
        refine g_aload_n X 1 rfl d_Mod_atom_58 ?_
        refine g_dup X rfl d_Mod_atom_59 ?_
        refine g_get X ck_10 fo_181 (fn_181 hN) 29 (by decide) wd_1770 rfl (fa_fvI rfl) d_Mod_atom_60 ?_
        refine g_iconst X d_Mod_atom_63 ?_
        refine g_isub X d_Mod_atom_64 ?_
        refine g_put X ck_10 fo_181 (fn_181 hN) 29 (z := ((w64 181 29) - 1)) (by decide) wd_1770 rfl (fa_fvI' rfl) rfl rfl rfl d_Mod_atom_65 (fun w65 ew65 => ?_)
        have hM := fa_let_to hM ew65
        refine g_iload_n X 0 rfl d_Mod_atom_68 ?_
        cases hM
        exact g_iret X d_Mod_atom_69
      · have hM := fa_ifb_f hM hc58
        refine g_iconst X d_Mod_atom_35 ?_
        cases hM
        exact g_iret X d_Mod_atom_36
  · have hM := fa_ifb_t hM hc2
    refine g_iconst X d_Mod_atom_7 ?_
    cases hM
    exact g_iret X d_Mod_atom_8
def fm_Mparse_t : Nat → Nat → fa_W → Option (Int × fa_W)
  | 0, _, _ => none
  | n + 1, t, w => match t with
    | 0 => fm_Mod_expression_b (fun w9 => fm_Mparse_t n 1 w9) (fun w9 => fm_Mparse_t n 2 w9) (fun w9 => fm_Mparse_t n 3 w9) (fun w9 => fm_Mparse_t n 4 w9) w
    | 1 => fm_Mod_lambda_b (fun w9 => fm_Mparse_t n 0 w9) w
    | 2 => fm_Mod_choice_b (fun w9 => fm_Mparse_t n 0 w9) w
    | 3 => fm_Mod_let_b (fun w9 => fm_Mparse_t n 0 w9) w
    | 4 => fm_Mod_test_b (fun w9 => fm_Mparse_t n 5 w9) w
    | 5 => fm_Mod_sum_b (fun w9 => fm_Mparse_t n 6 w9) w
    | 6 => fm_Mod_product_b (fun w9 => fm_Mparse_t n 7 w9) w
    | 7 => fm_Mod_call_b (fun w9 => fm_Mparse_t n 8 w9) w
    | 8 => fm_Mod_atom_b (fun w9 => fm_Mparse_t n 0 w9) w
    | _ => none
def fm_Mod_expression (n : Nat)  (w : fa_W) : Option (Int × fa_W) := fm_Mparse_t n 0 w
def fm_Mod_lambda (n : Nat)  (w : fa_W) : Option (Int × fa_W) := fm_Mparse_t n 1 w
def fm_Mod_choice (n : Nat)  (w : fa_W) : Option (Int × fa_W) := fm_Mparse_t n 2 w
def fm_Mod_let (n : Nat)  (w : fa_W) : Option (Int × fa_W) := fm_Mparse_t n 3 w
def fm_Mod_test (n : Nat)  (w : fa_W) : Option (Int × fa_W) := fm_Mparse_t n 4 w
def fm_Mod_sum (n : Nat)  (w : fa_W) : Option (Int × fa_W) := fm_Mparse_t n 5 w
def fm_Mod_product (n : Nat)  (w : fa_W) : Option (Int × fa_W) := fm_Mparse_t n 6 w
def fm_Mod_call (n : Nat)  (w : fa_W) : Option (Int × fa_W) := fm_Mparse_t n 7 w
def fm_Mod_atom (n : Nat)  (w : fa_W) : Option (Int × fa_W) := fm_Mparse_t n 8 w
set_option maxHeartbeats 4000000 in
set_option maxRecDepth 100000 in
theorem c_Mparse_t {l : Launch} {D : va_G} {b : Nat} {aC : Nat → ClassId} {H0 : Heap} {N T : Nat} (hN : fa_NM ≤ N) (hT : fa_TM ≤ T) : ∀ (n : Nat), (∀  (w : fa_W) (r : Int × fa_W), fm_Mod_expression n w = some r → fa_MC l D b aC H0 N T y_Mod_expression prog_12_method_24_code 2 ((Option.some Jvm.ClassFile.FieldType.int)) (5 + n) [.ref (b + 181)] w (some (.int (fa_I r.1))) r.2) ∧ (∀  (w : fa_W) (r : Int × fa_W), fm_Mod_lambda n w = some r → fa_MC l D b aC H0 N T y_Mod_lambda prog_12_method_25_code 6 ((Option.some Jvm.ClassFile.FieldType.int)) (5 + n) [.ref (b + 181)] w (some (.int (fa_I r.1))) r.2) ∧ (∀  (w : fa_W) (r : Int × fa_W), fm_Mod_choice n w = some r → fa_MC l D b aC H0 N T y_Mod_choice prog_12_method_26_code 5 ((Option.some Jvm.ClassFile.FieldType.int)) (5 + n) [.ref (b + 181)] w (some (.int (fa_I r.1))) r.2) ∧ (∀  (w : fa_W) (r : Int × fa_W), fm_Mod_let n w = some r → fa_MC l D b aC H0 N T y_Mod_let prog_12_method_27_code 6 ((Option.some Jvm.ClassFile.FieldType.int)) (5 + n) [.ref (b + 181)] w (some (.int (fa_I r.1))) r.2) ∧ (∀  (w : fa_W) (r : Int × fa_W), fm_Mod_test n w = some r → fa_MC l D b aC H0 N T y_Mod_test prog_12_method_28_code 3 ((Option.some Jvm.ClassFile.FieldType.int)) (5 + n) [.ref (b + 181)] w (some (.int (fa_I r.1))) r.2) ∧ (∀  (w : fa_W) (r : Int × fa_W), fm_Mod_sum n w = some r → fa_MC l D b aC H0 N T y_Mod_sum prog_12_method_29_code 4 ((Option.some Jvm.ClassFile.FieldType.int)) (5 + n) [.ref (b + 181)] w (some (.int (fa_I r.1))) r.2) ∧ (∀  (w : fa_W) (r : Int × fa_W), fm_Mod_product n w = some r → fa_MC l D b aC H0 N T y_Mod_product prog_12_method_30_code 4 ((Option.some Jvm.ClassFile.FieldType.int)) (5 + n) [.ref (b + 181)] w (some (.int (fa_I r.1))) r.2) ∧ (∀  (w : fa_W) (r : Int × fa_W), fm_Mod_call n w = some r → fa_MC l D b aC H0 N T y_Mod_call prog_12_method_32_code 4 ((Option.some Jvm.ClassFile.FieldType.int)) (5 + n) [.ref (b + 181)] w (some (.int (fa_I r.1))) r.2) ∧ (∀  (w : fa_W) (r : Int × fa_W), fm_Mod_atom n w = some r → fa_MC l D b aC H0 N T y_Mod_atom prog_12_method_33_code 4 ((Option.some Jvm.ClassFile.FieldType.int)) (5 + n) [.ref (b + 181)] w (some (.int (fa_I r.1))) r.2) := by
  intro n
  induction n with
  | zero =>
    refine ⟨?_, ?_, ?_, ?_, ?_, ?_, ?_, ?_, ?_⟩ <;> (intros; rename_i hM; exact fa_no hM)
  | succ n ih =>
    obtain ⟨i0, i1, i2, i3, i4, i5, i6, i7, i8⟩ := ih
    refine ⟨?_, ?_, ?_, ?_, ?_, ?_, ?_, ?_, ?_⟩
    · intro w r hM; exact c_Mod_expression_b hN hT n _ i1 _ i2 _ i3 _ i4 w r hM
    · intro w r hM; exact c_Mod_lambda_b hN hT n _ i0 w r hM
    · intro w r hM; exact c_Mod_choice_b hN hT n _ i0 w r hM
    · intro w r hM; exact c_Mod_let_b hN hT n _ i0 w r hM
    · intro w r hM; exact c_Mod_test_b hN hT n _ i5 w r hM
    · intro w r hM; exact c_Mod_sum_b hN hT n _ i6 w r hM
    · intro w r hM; exact c_Mod_product_b hN hT n _ i7 w r hM
    · intro w r hM; exact c_Mod_call_b hN hT n _ i8 w r hM
    · intro w r hM; exact c_Mod_atom_b hN hT n _ i0 w r hM
theorem c_Mod_expression {l : Launch} {D : va_G} {b : Nat} {aC : Nat → ClassId} {H0 : Heap} {N T : Nat} (hN : fa_NM ≤ N) (hT : fa_TM ≤ T) (n : Nat)  (w : fa_W) (r : Int × fa_W) (hM : fm_Mod_expression n w = some r) : fa_MC l D b aC H0 N T y_Mod_expression prog_12_method_24_code 2 ((Option.some Jvm.ClassFile.FieldType.int)) (5 + n) [.ref (b + 181)] w (some (.int (fa_I r.1))) r.2 := (c_Mparse_t hN hT n).1 w r hM
theorem c_Mod_lambda {l : Launch} {D : va_G} {b : Nat} {aC : Nat → ClassId} {H0 : Heap} {N T : Nat} (hN : fa_NM ≤ N) (hT : fa_TM ≤ T) (n : Nat)  (w : fa_W) (r : Int × fa_W) (hM : fm_Mod_lambda n w = some r) : fa_MC l D b aC H0 N T y_Mod_lambda prog_12_method_25_code 6 ((Option.some Jvm.ClassFile.FieldType.int)) (5 + n) [.ref (b + 181)] w (some (.int (fa_I r.1))) r.2 := (c_Mparse_t hN hT n).2.1 w r hM
theorem c_Mod_choice {l : Launch} {D : va_G} {b : Nat} {aC : Nat → ClassId} {H0 : Heap} {N T : Nat} (hN : fa_NM ≤ N) (hT : fa_TM ≤ T) (n : Nat)  (w : fa_W) (r : Int × fa_W) (hM : fm_Mod_choice n w = some r) : fa_MC l D b aC H0 N T y_Mod_choice prog_12_method_26_code 5 ((Option.some Jvm.ClassFile.FieldType.int)) (5 + n) [.ref (b + 181)] w (some (.int (fa_I r.1))) r.2 := (c_Mparse_t hN hT n).2.2.1 w r hM
theorem c_Mod_let {l : Launch} {D : va_G} {b : Nat} {aC : Nat → ClassId} {H0 : Heap} {N T : Nat} (hN : fa_NM ≤ N) (hT : fa_TM ≤ T) (n : Nat)  (w : fa_W) (r : Int × fa_W) (hM : fm_Mod_let n w = some r) : fa_MC l D b aC H0 N T y_Mod_let prog_12_method_27_code 6 ((Option.some Jvm.ClassFile.FieldType.int)) (5 + n) [.ref (b + 181)] w (some (.int (fa_I r.1))) r.2 := (c_Mparse_t hN hT n).2.2.2.1 w r hM
theorem c_Mod_test {l : Launch} {D : va_G} {b : Nat} {aC : Nat → ClassId} {H0 : Heap} {N T : Nat} (hN : fa_NM ≤ N) (hT : fa_TM ≤ T) (n : Nat)  (w : fa_W) (r : Int × fa_W) (hM : fm_Mod_test n w = some r) : fa_MC l D b aC H0 N T y_Mod_test prog_12_method_28_code 3 ((Option.some Jvm.ClassFile.FieldType.int)) (5 + n) [.ref (b + 181)] w (some (.int (fa_I r.1))) r.2 := (c_Mparse_t hN hT n).2.2.2.2.1 w r hM
theorem c_Mod_sum {l : Launch} {D : va_G} {b : Nat} {aC : Nat → ClassId} {H0 : Heap} {N T : Nat} (hN : fa_NM ≤ N) (hT : fa_TM ≤ T) (n : Nat)  (w : fa_W) (r : Int × fa_W) (hM : fm_Mod_sum n w = some r) : fa_MC l D b aC H0 N T y_Mod_sum prog_12_method_29_code 4 ((Option.some Jvm.ClassFile.FieldType.int)) (5 + n) [.ref (b + 181)] w (some (.int (fa_I r.1))) r.2 := (c_Mparse_t hN hT n).2.2.2.2.2.1 w r hM
theorem c_Mod_product {l : Launch} {D : va_G} {b : Nat} {aC : Nat → ClassId} {H0 : Heap} {N T : Nat} (hN : fa_NM ≤ N) (hT : fa_TM ≤ T) (n : Nat)  (w : fa_W) (r : Int × fa_W) (hM : fm_Mod_product n w = some r) : fa_MC l D b aC H0 N T y_Mod_product prog_12_method_30_code 4 ((Option.some Jvm.ClassFile.FieldType.int)) (5 + n) [.ref (b + 181)] w (some (.int (fa_I r.1))) r.2 := (c_Mparse_t hN hT n).2.2.2.2.2.2.1 w r hM
theorem c_Mod_call {l : Launch} {D : va_G} {b : Nat} {aC : Nat → ClassId} {H0 : Heap} {N T : Nat} (hN : fa_NM ≤ N) (hT : fa_TM ≤ T) (n : Nat)  (w : fa_W) (r : Int × fa_W) (hM : fm_Mod_call n w = some r) : fa_MC l D b aC H0 N T y_Mod_call prog_12_method_32_code 4 ((Option.some Jvm.ClassFile.FieldType.int)) (5 + n) [.ref (b + 181)] w (some (.int (fa_I r.1))) r.2 := (c_Mparse_t hN hT n).2.2.2.2.2.2.2.1 w r hM
theorem c_Mod_atom {l : Launch} {D : va_G} {b : Nat} {aC : Nat → ClassId} {H0 : Heap} {N T : Nat} (hN : fa_NM ≤ N) (hT : fa_TM ≤ T) (n : Nat)  (w : fa_W) (r : Int × fa_W) (hM : fm_Mod_atom n w = some r) : fa_MC l D b aC H0 N T y_Mod_atom prog_12_method_33_code 4 ((Option.some Jvm.ClassFile.FieldType.int)) (5 + n) [.ref (b + 181)] w (some (.int (fa_I r.1))) r.2 := (c_Mparse_t hN hT n).2.2.2.2.2.2.2.2 w r hM
theorem d_Mod_global_0 : decode prog_12_method_35_code 0 = .ok (.aload_n 0, 1) := by decide +kernel
theorem d_Mod_global_1 : decode prog_12_method_35_code 1 = .ok (.getfield 209, 3) := by decide +kernel
theorem d_Mod_global_4 : decode prog_12_method_35_code 4 = .ok (.bipush 6, 2) := by decide +kernel
theorem d_Mod_global_6 : decode prog_12_method_35_code 6 = .ok (.if_icmp .ne 13, 3) := by decide +kernel
theorem d_Mod_global_9 : decode prog_12_method_35_code 9 = .ok (.aload_n 0, 1) := by decide +kernel
theorem d_Mod_global_10 : decode prog_12_method_35_code 10 = .ok (.aload_n 0, 1) := by decide +kernel
theorem d_Mod_global_11 : decode prog_12_method_35_code 11 = .ok (.getfield 18, 3) := by decide +kernel
theorem d_Mod_global_14 : decode prog_12_method_35_code 14 = .ok (.invokevirtual 49, 3) := by decide +kernel
theorem d_Mod_global_17 : decode prog_12_method_35_code 17 = .ok (.istore_n 1, 1) := by decide +kernel
theorem d_Mod_global_18 : decode prog_12_method_35_code 18 = .ok (.return_, 1) := by decide +kernel
theorem d_Mod_global_19 : decode prog_12_method_35_code 19 = .ok (.aload_n 0, 1) := by decide +kernel
theorem d_Mod_global_20 : decode prog_12_method_35_code 20 = .ok (.getstatic 57, 3) := by decide +kernel
theorem d_Mod_global_23 : decode prog_12_method_35_code 23 = .ok (.invokevirtual 176, 3) := by decide +kernel
theorem d_Mod_global_26 : decode prog_12_method_35_code 26 = .ok (.aload_n 0, 1) := by decide +kernel
theorem d_Mod_global_27 : decode prog_12_method_35_code 27 = .ok (.invokevirtual 149, 3) := by decide +kernel
theorem d_Mod_global_30 : decode prog_12_method_35_code 30 = .ok (.istore_n 1, 1) := by decide +kernel
theorem d_Mod_global_31 : decode prog_12_method_35_code 31 = .ok (.aload_n 0, 1) := by decide +kernel
theorem d_Mod_global_32 : decode prog_12_method_35_code 32 = .ok (.invokevirtual 41, 3) := by decide +kernel
theorem d_Mod_global_35 : decode prog_12_method_35_code 35 = .ok (.ifCond .eq 4, 3) := by decide +kernel
theorem d_Mod_global_38 : decode prog_12_method_35_code 38 = .ok (.return_, 1) := by decide +kernel
theorem d_Mod_global_39 : decode prog_12_method_35_code 39 = .ok (.iconst 0, 1) := by decide +kernel
theorem d_Mod_global_40 : decode prog_12_method_35_code 40 = .ok (.istore_n 2, 1) := by decide +kernel
theorem d_Mod_global_41 : decode prog_12_method_35_code 41 = .ok (.iload_n 2, 1) := by decide +kernel
theorem d_Mod_global_42 : decode prog_12_method_35_code 42 = .ok (.aload_n 0, 1) := by decide +kernel
theorem d_Mod_global_43 : decode prog_12_method_35_code 43 = .ok (.getfield 209, 3) := by decide +kernel
theorem d_Mod_global_46 : decode prog_12_method_35_code 46 = .ok (.if_icmp .ge 37, 3) := by decide +kernel
theorem d_Mod_global_49 : decode prog_12_method_35_code 49 = .ok (.aload_n 0, 1) := by decide +kernel
theorem d_Mod_global_50 : decode prog_12_method_35_code 50 = .ok (.getfield 212, 3) := by decide +kernel
theorem d_Mod_global_53 : decode prog_12_method_35_code 53 = .ok (.iload_n 2, 1) := by decide +kernel
theorem d_Mod_global_54 : decode prog_12_method_35_code 54 = .ok (.iaload, 1) := by decide +kernel
theorem d_Mod_global_55 : decode prog_12_method_35_code 55 = .ok (.iload_n 1, 1) := by decide +kernel
theorem d_Mod_global_56 : decode prog_12_method_35_code 56 = .ok (.if_icmp .eq 6, 3) := by decide +kernel
theorem d_Mod_global_59 : decode prog_12_method_35_code 59 = .ok (.goto 18, 3) := by decide +kernel
theorem d_Mod_global_62 : decode prog_12_method_35_code 62 = .ok (.aload_n 0, 1) := by decide +kernel
theorem d_Mod_global_63 : decode prog_12_method_35_code 63 = .ok (.aload_n 0, 1) := by decide +kernel
theorem d_Mod_global_64 : decode prog_12_method_35_code 64 = .ok (.getfield 18, 3) := by decide +kernel
theorem d_Mod_global_67 : decode prog_12_method_35_code 67 = .ok (.aload_n 0, 1) := by decide +kernel
theorem d_Mod_global_68 : decode prog_12_method_35_code 68 = .ok (.getfield 53, 3) := by decide +kernel
theorem d_Mod_global_71 : decode prog_12_method_35_code 71 = .ok (.isub, 1) := by decide +kernel
theorem d_Mod_global_72 : decode prog_12_method_35_code 72 = .ok (.invokevirtual 49, 3) := by decide +kernel
theorem d_Mod_global_75 : decode prog_12_method_35_code 75 = .ok (.istore_n 3, 1) := by decide +kernel
theorem d_Mod_global_76 : decode prog_12_method_35_code 76 = .ok (.return_, 1) := by decide +kernel
theorem d_Mod_global_77 : decode prog_12_method_35_code 77 = .ok (.iinc 2 1, 3) := by decide +kernel
theorem d_Mod_global_80 : decode prog_12_method_35_code 80 = .ok (.goto (-39), 3) := by decide +kernel
theorem d_Mod_global_83 : decode prog_12_method_35_code 83 = .ok (.aload_n 0, 1) := by decide +kernel
theorem d_Mod_global_84 : decode prog_12_method_35_code 84 = .ok (.getfield 209, 3) := by decide +kernel
theorem d_Mod_global_87 : decode prog_12_method_35_code 87 = .ok (.istore_n 2, 1) := by decide +kernel
theorem d_Mod_global_88 : decode prog_12_method_35_code 88 = .ok (.aload_n 0, 1) := by decide +kernel
theorem d_Mod_global_89 : decode prog_12_method_35_code 89 = .ok (.getfield 212, 3) := by decide +kernel
theorem d_Mod_global_92 : decode prog_12_method_35_code 92 = .ok (.iload_n 2, 1) := by decide +kernel
theorem d_Mod_global_93 : decode prog_12_method_35_code 93 = .ok (.iload_n 1, 1) := by decide +kernel
theorem d_Mod_global_94 : decode prog_12_method_35_code 94 = .ok (.iastore, 1) := by decide +kernel
theorem d_Mod_global_95 : decode prog_12_method_35_code 95 = .ok (.aload_n 0, 1) := by decide +kernel
theorem d_Mod_global_96 : decode prog_12_method_35_code 96 = .ok (.dup, 1) := by decide +kernel
theorem d_Mod_global_97 : decode prog_12_method_35_code 97 = .ok (.getfield 209, 3) := by decide +kernel
theorem d_Mod_global_100 : decode prog_12_method_35_code 100 = .ok (.iconst 1, 1) := by decide +kernel
theorem d_Mod_global_101 : decode prog_12_method_35_code 101 = .ok (.iadd, 1) := by decide +kernel
theorem d_Mod_global_102 : decode prog_12_method_35_code 102 = .ok (.putfield 209, 3) := by decide +kernel
theorem d_Mod_global_105 : decode prog_12_method_35_code 105 = .ok (.aload_n 0, 1) := by decide +kernel
theorem d_Mod_global_106 : decode prog_12_method_35_code 106 = .ok (.invokevirtual 149, 3) := by decide +kernel
theorem d_Mod_global_109 : decode prog_12_method_35_code 109 = .ok (.istore_n 3, 1) := by decide +kernel
theorem d_Mod_global_110 : decode prog_12_method_35_code 110 = .ok (.aload_n 0, 1) := by decide +kernel
theorem d_Mod_global_111 : decode prog_12_method_35_code 111 = .ok (.bipush 61, 2) := by decide +kernel
theorem d_Mod_global_113 : decode prog_12_method_35_code 113 = .ok (.invokevirtual 152, 3) := by decide +kernel
theorem d_Mod_global_116 : decode prog_12_method_35_code 116 = .ok (.aload_n 0, 1) := by decide +kernel
theorem d_Mod_global_117 : decode prog_12_method_35_code 117 = .ok (.invokevirtual 41, 3) := by decide +kernel
theorem d_Mod_global_120 : decode prog_12_method_35_code 120 = .ok (.ifCond .eq 4, 3) := by decide +kernel
theorem d_Mod_global_123 : decode prog_12_method_35_code 123 = .ok (.return_, 1) := by decide +kernel
theorem d_Mod_global_124 : decode prog_12_method_35_code 124 = .ok (.aload_n 0, 1) := by decide +kernel
theorem d_Mod_global_125 : decode prog_12_method_35_code 125 = .ok (.getfield 156, 3) := by decide +kernel
theorem d_Mod_global_128 : decode prog_12_method_35_code 128 = .ok (.iload_n 2, 1) := by decide +kernel
theorem d_Mod_global_129 : decode prog_12_method_35_code 129 = .ok (.iconst (-1), 1) := by decide +kernel
theorem d_Mod_global_130 : decode prog_12_method_35_code 130 = .ok (.iastore, 1) := by decide +kernel
theorem d_Mod_global_131 : decode prog_12_method_35_code 131 = .ok (.aload_n 0, 1) := by decide +kernel
theorem d_Mod_global_132 : decode prog_12_method_35_code 132 = .ok (.iload_n 2, 1) := by decide +kernel
theorem d_Mod_global_133 : decode prog_12_method_35_code 133 = .ok (.putfield 159, 3) := by decide +kernel
theorem d_Mod_global_136 : decode prog_12_method_35_code 136 = .ok (.aload_n 0, 1) := by decide +kernel
theorem d_Mod_global_137 : decode prog_12_method_35_code 137 = .ok (.iload_n 2, 1) := by decide +kernel
theorem d_Mod_global_138 : decode prog_12_method_35_code 138 = .ok (.iload_n 3, 1) := by decide +kernel
theorem d_Mod_global_139 : decode prog_12_method_35_code 139 = .ok (.iload_n 2, 1) := by decide +kernel
theorem d_Mod_global_140 : decode prog_12_method_35_code 140 = .ok (.invokevirtual 162, 3) := by decide +kernel
theorem d_Mod_global_143 : decode prog_12_method_35_code 143 = .ok (.istore 4, 2) := by decide +kernel
theorem d_Mod_global_145 : decode prog_12_method_35_code 145 = .ok (.aload_n 0, 1) := by decide +kernel
theorem d_Mod_global_146 : decode prog_12_method_35_code 146 = .ok (.getfield 166, 3) := by decide +kernel
theorem d_Mod_global_149 : decode prog_12_method_35_code 149 = .ok (.iload_n 2, 1) := by decide +kernel
theorem d_Mod_global_150 : decode prog_12_method_35_code 150 = .ok (.aload_n 0, 1) := by decide +kernel
theorem d_Mod_global_151 : decode prog_12_method_35_code 151 = .ok (.invokevirtual 169, 3) := by decide +kernel
theorem d_Mod_global_154 : decode prog_12_method_35_code 154 = .ok (.iastore, 1) := by decide +kernel
theorem d_Mod_global_155 : decode prog_12_method_35_code 155 = .ok (.aload_n 0, 1) := by decide +kernel
theorem d_Mod_global_156 : decode prog_12_method_35_code 156 = .ok (.dup, 1) := by decide +kernel
theorem d_Mod_global_157 : decode prog_12_method_35_code 157 = .ok (.getfield 125, 3) := by decide +kernel
theorem d_Mod_global_160 : decode prog_12_method_35_code 160 = .ok (.iconst 1, 1) := by decide +kernel
theorem d_Mod_global_161 : decode prog_12_method_35_code 161 = .ok (.isub, 1) := by decide +kernel
theorem d_Mod_global_162 : decode prog_12_method_35_code 162 = .ok (.putfield 125, 3) := by decide +kernel
theorem d_Mod_global_165 : decode prog_12_method_35_code 165 = .ok (.aload_n 0, 1) := by decide +kernel
theorem d_Mod_global_166 : decode prog_12_method_35_code 166 = .ok (.iconst (-1), 1) := by decide +kernel
theorem d_Mod_global_167 : decode prog_12_method_35_code 167 = .ok (.putfield 159, 3) := by decide +kernel
theorem d_Mod_global_170 : decode prog_12_method_35_code 170 = .ok (.aload_n 0, 1) := by decide +kernel
theorem d_Mod_global_171 : decode prog_12_method_35_code 171 = .ok (.bipush 59, 2) := by decide +kernel
theorem d_Mod_global_173 : decode prog_12_method_35_code 173 = .ok (.invokevirtual 152, 3) := by decide +kernel
theorem d_Mod_global_176 : decode prog_12_method_35_code 176 = .ok (.return_, 1) := by decide +kernel
def fm_Mod_global_l41  : Nat → Int → Int → fa_W → Option fa_W
  | 0, _, _, _ => none
  | n + 1, x1, x2, w => if fa_wr (w 181 17) ≤ fa_wr x2 then
  (fa_let (w 181 17) fun x2_10 =>
  (fa_ix x2_10 6).bind fun j11 =>
  fa_let (fa_st w 190 j11 x1) fun w12 =>
  fa_let (fa_st w12 181 17 ((w12 181 17) + 1)) fun w13 =>
  fa_bd (fm_Mod_gives w13) fun v15 w16 =>
  (fm_Mod_asks 61 w16).bind fun w18 =>
  if fm_Mod_hasFailed w18 = true then
  some w18
  else
  ((fa_ix x2_10 24).bind fun j21 =>
  fa_let (fa_st w18 191 j21 (-1)) fun w22 =>
  fa_let (fa_st w22 181 30 x2_10) fun w23 =>
  fa_bd (fm_Mod_sees x2_10 v15 x2_10 w23) fun v25 w26 =>
  fa_bd (fm_Mod_expression 900 w26) fun v28 w29 =>
  (fa_ix x2_10 24).bind fun j30 =>
  fa_let (fa_st w29 189 j30 v28) fun w31 =>
  fa_let (fa_st w31 181 33 ((w31 181 33) - 1)) fun w32 =>
  fa_let (fa_st w32 181 30 (-1)) fun w33 =>
  (fm_Mod_asks 59 w33).bind fun w35 =>
  some w35))
  else
  ((fa_ix x2 6).bind fun j36 =>
  if fa_wr (w 190 j36) = fa_wr x1 then
  (fa_l2 (fm_Mod_fails ((w 181 26) - (w 181 34)) w) fun v39 w40 =>
  some w40)
  else
  (fa_let (x2 + 1) fun x2_41 =>
  fm_Mod_global_l41 n x1 x2_41 w))
set_option maxHeartbeats 4000000 in
set_option maxRecDepth 100000 in
theorem c_Mod_global_l41 {p : Program} {l : Launch} {e : Env} {s : State} {m : MethodId} {args : Array Value} {below : List Frame} {meth : Method} {c : Code} {hh : Nat} {D : va_G} {b : Nat} {aC : Nat → ClassId} {H0 : Heap} {N T : Nat} (X : fa_GX p s m args meth c prog_12_method_35_code 5 ((Option.none : Option Jvm.ClassFile.FieldType)) y_Mod_global.cls D b aC) (hle : 906 ≤ hh) (hN : fa_NM ≤ N) (hT : fa_TM ≤ T) {r : fa_W}  : ∀ (n : Nat) (x1 : Int) (x2 : Int) (w : fa_W), fm_Mod_global_l41 n x1 x2 w = some r → fa_GJ p l e (fa_rm hh) s m args below meth c 0 0 (MQ below (fa_Qc D b aC H0 N T (none) r) args s 0 0 (fun q => b ≤ q)) D b aC H0 N T 5 w 41 [(0, .ref (b + 181)), (1, .int (fa_I x1)), (2, .int (fa_I x2))] [] := by
  intro n
  induction n with
  | zero => intro x1 x2 w hM; exact fa_no hM
  | succ n ih =>
    intro x1 x2 w hM
    rw [fm_Mod_global_l41] at hM
    refine g_iload_n X 2 rfl d_Mod_global_41 ?_
    refine g_aload_n X 0 rfl d_Mod_global_42 ?_
    refine g_get X ck_10 fo_181 (fn_181 hN) 17 (by decide) wd_1759 rfl (fa_fvI rfl) d_Mod_global_43 ?_
    refine g_icmp_ge X 83 d_Mod_global_46 (by decide) (fun hc9 => ?_) (fun hc9 => ?_)
    · have hM := fa_if_t hM hc9
      refine g_aload_n X 0 rfl d_Mod_global_83 ?_
      refine g_get X ck_10 fo_181 (fn_181 hN) 17 (by decide) wd_1759 rfl (fa_fvI rfl) d_Mod_global_84 ?_
      refine g_istore_n X (fun x2_10 => [(2, .int (fa_I x2_10)), (0, .ref (b + 181)), (1, .int (fa_I x1))]) d_Mod_global_87 (by decide) (fun _ => rfl) (fun x2_10 ex2_10 => ?_)
      have hM := fa_let_to hM ex2_10
      refine g_aload_n X 1 rfl d_Mod_global_88 ?_
      refine g_get X ck_10 fo_181 (fn_181 hN) 10 (by decide) wd_1752 rfl (fr_181_10 rfl hT) d_Mod_global_89 ?_
      refine g_iload_n X 0 rfl d_Mod_global_92 ?_
      refine g_iload_n X 2 rfl d_Mod_global_93 ?_
      obtain ⟨j11, ej11, hM⟩ := fa_ob hM
      refine g_iast X fs_190 (fn_190 hN) ej11 d_Mod_global_94 (fun w12 ew12 => ?_)
      have hM := fa_let_to hM ew12
      refine g_aload_n X 1 rfl d_Mod_global_95 ?_
      refine g_dup X rfl d_Mod_global_96 ?_
      refine g_get X ck_10 fo_181 (fn_181 hN) 17 (by decide) wd_1759 rfl (fa_fvI rfl) d_Mod_global_97 ?_
      refine g_iconst X d_Mod_global_100 ?_
      refine g_iadd X d_Mod_global_101 ?_
      refine g_put X ck_10 fo_181 (fn_181 hN) 17 (z := ((w12 181 17) + 1)) (by decide) wd_1759 rfl (fa_fvI' rfl) rfl rfl rfl d_Mod_global_102 (fun w13 ew13 => ?_)
      have hM := fa_let_to hM ew13
      refine g_aload_n X 1 rfl d_Mod_global_105 ?_
      obtain ⟨v15, w16, e14, hM⟩ := fa_obd hM
      refine g_callV_i X ck_10 fo_181 (fn_181 hN) rfl mi_Mod_gives (c_Mod_gives hN hT w13 _ e14) wd_1529 rfl (Nat.le_trans (Nat.le_of_ble_eq_true rfl) hle) (st := []) (Nat.le_of_ble_eq_true rfl) rfl d_Mod_global_106 ?_
      refine g_istorec_n X [(3, .int (fa_I v15)), (2, .int (fa_I x2_10)), (0, .ref (b + 181)), (1, .int (fa_I x1))] d_Mod_global_109 (by decide) rfl ?_
      refine g_aload_n X 2 rfl d_Mod_global_110 ?_
      refine g_bipush X (by decide) d_Mod_global_111 ?_
      obtain ⟨w18, e17, hM⟩ := fa_ob hM
      refine g_callV_v X ck_10 fo_181 (fn_181 hN) rfl mi_Mod_asks (c_Mod_asks hN hT 61 w16 _ e17) wd_1548 rfl (Nat.le_trans (Nat.le_of_ble_eq_true rfl) hle) (st := []) (Nat.le_of_ble_eq_true rfl) rfl d_Mod_global_113 ?_
      refine g_aload_n X 2 rfl d_Mod_global_116 ?_
      refine g_callV_i X ck_10 fo_181 (fn_181 hN) rfl mi_Mod_hasFailed (c_Mod_hasFailed hN hT w18 _ rfl) wd_1494 rfl (Nat.le_trans (Nat.le_of_ble_eq_true rfl) hle) (st := []) (Nat.le_of_ble_eq_true rfl) rfl d_Mod_global_117 ?_
      refine g_ifb_eq X 124 d_Mod_global_120 (by decide) (fun hc20 => ?_) (fun hc20 => ?_)
      · have hM := fa_ifb_f hM hc20
        refine g_aload_n X 2 rfl d_Mod_global_124 ?_
        refine g_get X ck_10 fo_181 (fn_181 hN) 11 (by decide) wd_1753 rfl (fr_181_11 rfl hT) d_Mod_global_125 ?_
        refine g_iload_n X 1 rfl d_Mod_global_128 ?_
        refine g_iconst X d_Mod_global_129 ?_
        obtain ⟨j21, ej21, hM⟩ := fa_ob hM
        refine g_iast X fs_191 (fn_191 hN) ej21 d_Mod_global_130 (fun w22 ew22 => ?_)
        have hM := fa_let_to hM ew22
        refine g_aload_n X 2 rfl d_Mod_global_131 ?_
        refine g_iload_n X 1 rfl d_Mod_global_132 ?_
        refine g_put X ck_10 fo_181 (fn_181 hN) 30 (z := x2_10) (by decide) wd_1771 rfl (fa_fvI' rfl) rfl rfl rfl d_Mod_global_133 (fun w23 ew23 => ?_)
        have hM := fa_let_to hM ew23
        refine g_aload_n X 2 rfl d_Mod_global_136 ?_
        refine g_iload_n X 1 rfl d_Mod_global_137 ?_
        refine g_iload_n X 0 rfl d_Mod_global_138 ?_
        refine g_iload_n X 1 rfl d_Mod_global_139 ?_
        obtain ⟨v25, w26, e24, hM⟩ := fa_obd hM
        refine g_callV_i X ck_10 fo_181 (fn_181 hN) rfl mi_Mod_sees (c_Mod_sees hN hT x2_10 v15 x2_10 w23 _ e24) wd_1556 rfl (Nat.le_trans (Nat.le_of_ble_eq_true rfl) hle) (st := []) (Nat.le_of_ble_eq_true rfl) rfl d_Mod_global_140 ?_
        refine g_istorec X [(4, .int (fa_I v25)), (3, .int (fa_I v15)), (2, .int (fa_I x2_10)), (0, .ref (b + 181)), (1, .int (fa_I x1))] d_Mod_global_143 (by decide) rfl ?_
        refine g_aload_n X 3 rfl d_Mod_global_145 ?_
        refine g_get X ck_10 fo_181 (fn_181 hN) 9 (by decide) wd_1751 rfl (fr_181_9 rfl hT) d_Mod_global_146 ?_
        refine g_iload_n X 2 rfl d_Mod_global_149 ?_
        refine g_aload_n X 3 rfl d_Mod_global_150 ?_
        obtain ⟨v28, w29, e27, hM⟩ := fa_obd hM
        refine g_callV_i X ck_10 fo_181 (fn_181 hN) rfl mi_Mod_expression (c_Mod_expression hN hT 900 w26 _ e27) wd_1560 rfl (Nat.le_trans (Nat.le_of_ble_eq_true rfl) hle) (st := [.int (fa_I x2_10), .ref (b + 189)]) (Nat.le_of_ble_eq_true rfl) rfl d_Mod_global_151 ?_
        obtain ⟨j30, ej30, hM⟩ := fa_ob hM
        refine g_iast X fs_189 (fn_189 hN) ej30 d_Mod_global_154 (fun w31 ew31 => ?_)
        have hM := fa_let_to hM ew31
        refine g_aload_n X 3 rfl d_Mod_global_155 ?_
        refine g_dup X rfl d_Mod_global_156 ?_
        refine g_get X ck_10 fo_181 (fn_181 hN) 33 (by decide) wd_1774 rfl (fa_fvI rfl) d_Mod_global_157 ?_
        refine g_iconst X d_Mod_global_160 ?_
        refine g_isub X d_Mod_global_161 ?_
        refine g_put X ck_10 fo_181 (fn_181 hN) 33 (z := ((w31 181 33) - 1)) (by decide) wd_1774 rfl (fa_fvI' rfl) rfl rfl rfl d_Mod_global_162 (fun w32 ew32 => ?_)
        have hM := fa_let_to hM ew32
        refine g_aload_n X 3 rfl d_Mod_global_165 ?_
        refine g_iconst X d_Mod_global_166 ?_
        refine g_put X ck_10 fo_181 (fn_181 hN) 30 (z := (-1)) (by decide) wd_1771 rfl (fa_fvI' rfl) rfl rfl rfl d_Mod_global_167 (fun w33 ew33 => ?_)
        have hM := fa_let_to hM ew33
        refine g_aload_n X 3 rfl d_Mod_global_170 ?_
        refine g_bipush X (by decide) d_Mod_global_171 ?_
        obtain ⟨w35, e34, hM⟩ := fa_ob hM
        refine g_callV_v X ck_10 fo_181 (fn_181 hN) rfl mi_Mod_asks (c_Mod_asks hN hT 59 w33 _ e34) wd_1548 rfl (Nat.le_trans (Nat.le_of_ble_eq_true rfl) hle) (st := []) (Nat.le_of_ble_eq_true rfl) rfl d_Mod_global_173 ?_
        cases hM
        exact g_vret X d_Mod_global_176
      · have hM := fa_ifb_t hM hc20
        cases hM
        exact g_vret X d_Mod_global_123
    · have hM := fa_if_f hM hc9
      refine g_aload_n X 0 rfl d_Mod_global_49 ?_
      refine g_get X ck_10 fo_181 (fn_181 hN) 10 (by decide) wd_1752 rfl (fr_181_10 rfl hT) d_Mod_global_50 ?_
      refine g_iload_n X 2 rfl d_Mod_global_53 ?_
      obtain ⟨j36, ej36, hM⟩ := fa_ob hM
      refine g_iald X fs_190 (fn_190 hN) ej36 d_Mod_global_54 ?_
      refine g_iload_n X 1 rfl d_Mod_global_55 ?_
      refine g_icmp_eq X 62 d_Mod_global_56 (by decide) (fun hc37 => ?_) (fun hc37 => ?_)
      · have hM := fa_if_t hM hc37
        refine g_aload_n X 0 rfl d_Mod_global_62 ?_
        refine g_aload_n X 0 rfl d_Mod_global_63 ?_
        refine g_get X ck_10 fo_181 (fn_181 hN) 26 (by decide) wd_1767 rfl (fa_fvI rfl) d_Mod_global_64 ?_
        refine g_aload_n X 0 rfl d_Mod_global_67 ?_
        refine g_get X ck_10 fo_181 (fn_181 hN) 34 (by decide) wd_1775 rfl (fa_fvI rfl) d_Mod_global_68 ?_
        refine g_isub X d_Mod_global_71 ?_
        obtain ⟨⟨v39, w40⟩, e38⟩ : ∃ q, fm_Mod_fails ((w 181 26) - (w 181 34)) w = q := ⟨_, rfl⟩
        have hM := fa_l2_e hM e38
        refine g_callV_i X ck_10 fo_181 (fn_181 hN) rfl mi_Mod_fails (c_Mod_fails hN hT ((w 181 26) - (w 181 34)) w _ e38) wd_1517 rfl (Nat.le_trans (Nat.le_of_ble_eq_true rfl) hle) (st := []) (Nat.le_of_ble_eq_true rfl) rfl d_Mod_global_72 ?_
        refine g_istorec_n X [(3, .int (fa_I v39)), (0, .ref (b + 181)), (1, .int (fa_I x1)), (2, .int (fa_I x2))] d_Mod_global_75 (by decide) rfl ?_
        cases hM
        exact g_vret X d_Mod_global_76
      · have hM := fa_if_f hM hc37
        refine g_goto X 77 d_Mod_global_59 (by decide) ?_
        refine g_iinc X 2 (fun x2_41 => [(2, .int (fa_I x2_41)), (0, .ref (b + 181)), (1, .int (fa_I x1))]) d_Mod_global_77 rfl (by decide) (fun _ => rfl) (fun x2_41 ex2_41 => ?_)
        have hM := fa_let_to hM ex2_41
        refine g_goto X 41 d_Mod_global_80 (by decide) ?_
        exact g_lv [1, 2, 0] rfl (ih _ _ _ hM)
def fm_Mod_global (w : fa_W) : Option fa_W :=
  if fa_wr (w 181 17) = 6 then
  (fa_l2 (fm_Mod_fails (w 181 26) w) fun v43 w44 =>
  some w44)
  else
  ((fm_Mod_asksWord 4955 w).bind fun w3 =>
  fa_bd (fm_Mod_gives w3) fun v5 w6 =>
  if fm_Mod_hasFailed w6 = true then
  some w6
  else
  fm_Mod_global_l41 fa_FU v5 0 w6)
set_option maxHeartbeats 4000000 in
set_option maxRecDepth 100000 in
theorem c_Mod_global {l : Launch} {D : va_G} {b : Nat} {aC : Nat → ClassId} {H0 : Heap} {N T : Nat} (hN : fa_NM ≤ N) (hT : fa_TM ≤ T)   (w : fa_W) (r : fa_W) (hM : fm_Mod_global w = some r) : fa_MC l D b aC H0 N T y_Mod_global prog_12_method_35_code 5 ((Option.none : Option Jvm.ClassFile.FieldType)) (906) [.ref (b + 181)] w (none) r := by
  refine fa_enter (lv := [(0, .ref (b + 181))]) (by decide +kernel) (Nat.le_of_ble_eq_true rfl) rfl (fun hh hle hnm X => ?_)
  unfold fm_Mod_global at hM
  refine g_aload_n X 0 rfl d_Mod_global_0 ?_
  refine g_get X ck_10 fo_181 (fn_181 hN) 17 (by decide) wd_1759 rfl (fa_fvI rfl) d_Mod_global_1 ?_
  refine g_bipush X (by decide) d_Mod_global_4 ?_
  refine g_icmp_ne X 19 d_Mod_global_6 (by decide) (fun hc1 => ?_) (fun hc1 => ?_)
  · have hM := fa_if_f hM hc1
    refine g_aload_n X 0 rfl d_Mod_global_19 ?_
    refine g_gets X (n := "FUN") (v := 4955) (z := 4955) (by decide) wd_1511 rfl d_Mod_global_20 ?_
    obtain ⟨w3, e2, hM⟩ := fa_ob hM
    refine g_callV_v X ck_10 fo_181 (fn_181 hN) rfl mi_Mod_asksWord (c_Mod_asksWord hN hT 4955 w _ e2) wd_1521 rfl (Nat.le_trans (Nat.le_of_ble_eq_true rfl) hle) (st := []) (Nat.le_of_ble_eq_true rfl) rfl d_Mod_global_23 ?_
    refine g_aload_n X 0 rfl d_Mod_global_26 ?_
    obtain ⟨v5, w6, e4, hM⟩ := fa_obd hM
    refine g_callV_i X ck_10 fo_181 (fn_181 hN) rfl mi_Mod_gives (c_Mod_gives hN hT w3 _ e4) wd_1529 rfl (Nat.le_trans (Nat.le_of_ble_eq_true rfl) hle) (st := []) (Nat.le_of_ble_eq_true rfl) rfl d_Mod_global_27 ?_
    refine g_istorec_n X [(1, .int (fa_I v5)), (0, .ref (b + 181))] d_Mod_global_30 (by decide) rfl ?_
    refine g_aload_n X 1 rfl d_Mod_global_31 ?_
    refine g_callV_i X ck_10 fo_181 (fn_181 hN) rfl mi_Mod_hasFailed (c_Mod_hasFailed hN hT w6 _ rfl) wd_1494 rfl (Nat.le_trans (Nat.le_of_ble_eq_true rfl) hle) (st := []) (Nat.le_of_ble_eq_true rfl) rfl d_Mod_global_32 ?_
    refine g_ifb_eq X 39 d_Mod_global_35 (by decide) (fun hc8 => ?_) (fun hc8 => ?_)
    · have hM := fa_ifb_f hM hc8
      refine g_iconst X d_Mod_global_39 ?_
      refine g_istorec_n X [(2, .int (fa_I 0)), (1, .int (fa_I v5)), (0, .ref (b + 181))] d_Mod_global_40 (by decide) rfl ?_
      exact g_lv [2, 1, 0] rfl (c_Mod_global_l41 X hle hN hT   fa_FU _ _ _ hM)
    · have hM := fa_ifb_t hM hc8
      cases hM
      exact g_vret X d_Mod_global_38
  · have hM := fa_if_t hM hc1
    refine g_aload_n X 0 rfl d_Mod_global_9 ?_
    refine g_aload_n X 0 rfl d_Mod_global_10 ?_
    refine g_get X ck_10 fo_181 (fn_181 hN) 26 (by decide) wd_1767 rfl (fa_fvI rfl) d_Mod_global_11 ?_
    obtain ⟨⟨v43, w44⟩, e42⟩ : ∃ q, fm_Mod_fails (w 181 26) w = q := ⟨_, rfl⟩
    have hM := fa_l2_e hM e42
    refine g_callV_i X ck_10 fo_181 (fn_181 hN) rfl mi_Mod_fails (c_Mod_fails hN hT (w 181 26) w _ e42) wd_1517 rfl (Nat.le_trans (Nat.le_of_ble_eq_true rfl) hle) (st := []) (Nat.le_of_ble_eq_true rfl) rfl d_Mod_global_14 ?_
    refine g_istorec_n X [(1, .int (fa_I v43)), (0, .ref (b + 181))] d_Mod_global_17 (by decide) rfl ?_
    cases hM
    exact g_vret X d_Mod_global_18
theorem d_Mod_numbered_0 : decode prog_12_method_37_code 0 = .ok (.iload_n 1, 1) := by decide +kernel
theorem d_Mod_numbered_1 : decode prog_12_method_37_code 1 = .ok (.bipush 6, 2) := by decide +kernel
theorem d_Mod_numbered_3 : decode prog_12_method_37_code 3 = .ok (.if_icmp .ge 7, 3) := by decide +kernel
theorem d_Mod_numbered_6 : decode prog_12_method_37_code 6 = .ok (.iload_n 1, 1) := by decide +kernel
theorem d_Mod_numbered_7 : decode prog_12_method_37_code 7 = .ok (.goto 12, 3) := by decide +kernel
theorem d_Mod_numbered_10 : decode prog_12_method_37_code 10 = .ok (.aload_n 0, 1) := by decide +kernel
theorem d_Mod_numbered_11 : decode prog_12_method_37_code 11 = .ok (.getfield 209, 3) := by decide +kernel
theorem d_Mod_numbered_14 : decode prog_12_method_37_code 14 = .ok (.iload_n 1, 1) := by decide +kernel
theorem d_Mod_numbered_15 : decode prog_12_method_37_code 15 = .ok (.iadd, 1) := by decide +kernel
theorem d_Mod_numbered_16 : decode prog_12_method_37_code 16 = .ok (.bipush 6, 2) := by decide +kernel
theorem d_Mod_numbered_18 : decode prog_12_method_37_code 18 = .ok (.isub, 1) := by decide +kernel
theorem d_Mod_numbered_19 : decode prog_12_method_37_code 19 = .ok (.ireturn, 1) := by decide +kernel
def fm_Mod_numbered (a1 : Int) (w : fa_W) : Int :=
  if 6 ≤ fa_wr a1 then
  ((w 181 17) + a1) - 6
  else
  a1
set_option maxHeartbeats 4000000 in
set_option maxRecDepth 100000 in
theorem c_Mod_numbered {l : Launch} {D : va_G} {b : Nat} {aC : Nat → ClassId} {H0 : Heap} {N T : Nat} (hN : fa_NM ≤ N) (hT : fa_TM ≤ T) (a1 : Int)  (w : fa_W) (r : Int) (hM : fm_Mod_numbered a1 w = r) : fa_MC l D b aC H0 N T y_Mod_numbered prog_12_method_37_code 2 ((Option.some Jvm.ClassFile.FieldType.int)) (0) [.ref (b + 181), .int (fa_I a1)] w (some (.int (fa_I r))) w := by
  refine fa_enter (lv := [(0, .ref (b + 181)), (1, .int (fa_I a1))]) (by decide +kernel) (Nat.le_of_ble_eq_true rfl) rfl (fun hh hle hnm X => ?_)
  unfold fm_Mod_numbered at hM
  refine g_iload_n X 1 rfl d_Mod_numbered_0 ?_
  refine g_bipush X (by decide) d_Mod_numbered_1 ?_
  refine g_icmp_ge X 10 d_Mod_numbered_3 (by decide) (fun hc1 => ?_) (fun hc1 => ?_)
  · have hM := fa_if_t hM hc1
    refine g_aload_n X 0 rfl d_Mod_numbered_10 ?_
    refine g_get X ck_10 fo_181 (fn_181 hN) 17 (by decide) wd_1759 rfl (fa_fvI rfl) d_Mod_numbered_11 ?_
    refine g_iload_n X 1 rfl d_Mod_numbered_14 ?_
    refine g_iadd X d_Mod_numbered_15 ?_
    refine g_bipush X (by decide) d_Mod_numbered_16 ?_
    refine g_isub X d_Mod_numbered_18 ?_
    subst hM
    exact g_iret X d_Mod_numbered_19
  · have hM := fa_if_f hM hc1
    refine g_iload_n X 1 rfl d_Mod_numbered_6 ?_
    refine g_goto X 19 d_Mod_numbered_7 (by decide) ?_
    subst hM
    exact g_iret X d_Mod_numbered_19
theorem d_Mod_binderNumbered_0 : decode prog_12_method_38_code 0 = .ok (.iload_n 1, 1) := by decide +kernel
theorem d_Mod_binderNumbered_1 : decode prog_12_method_38_code 1 = .ok (.bipush 24, 2) := by decide +kernel
theorem d_Mod_binderNumbered_3 : decode prog_12_method_38_code 3 = .ok (.if_icmp .ge 11, 3) := by decide +kernel
theorem d_Mod_binderNumbered_6 : decode prog_12_method_38_code 6 = .ok (.aload_n 0, 1) := by decide +kernel
theorem d_Mod_binderNumbered_7 : decode prog_12_method_38_code 7 = .ok (.iload_n 1, 1) := by decide +kernel
theorem d_Mod_binderNumbered_8 : decode prog_12_method_38_code 8 = .ok (.invokevirtual 224, 3) := by decide +kernel
theorem d_Mod_binderNumbered_11 : decode prog_12_method_38_code 11 = .ok (.goto 4, 3) := by decide +kernel
theorem d_Mod_binderNumbered_14 : decode prog_12_method_38_code 14 = .ok (.iload_n 1, 1) := by decide +kernel
theorem d_Mod_binderNumbered_15 : decode prog_12_method_38_code 15 = .ok (.ireturn, 1) := by decide +kernel
def fm_Mod_binderNumbered (a1 : Int) (w : fa_W) : Int :=
  if 24 ≤ fa_wr a1 then
  a1
  else
  fm_Mod_numbered a1 w
set_option maxHeartbeats 4000000 in
set_option maxRecDepth 100000 in
theorem c_Mod_binderNumbered {l : Launch} {D : va_G} {b : Nat} {aC : Nat → ClassId} {H0 : Heap} {N T : Nat} (hN : fa_NM ≤ N) (hT : fa_TM ≤ T) (a1 : Int)  (w : fa_W) (r : Int) (hM : fm_Mod_binderNumbered a1 w = r) : fa_MC l D b aC H0 N T y_Mod_binderNumbered prog_12_method_38_code 2 ((Option.some Jvm.ClassFile.FieldType.int)) (1) [.ref (b + 181), .int (fa_I a1)] w (some (.int (fa_I r))) w := by
  refine fa_enter (lv := [(0, .ref (b + 181)), (1, .int (fa_I a1))]) (by decide +kernel) (Nat.le_of_ble_eq_true rfl) rfl (fun hh hle hnm X => ?_)
  unfold fm_Mod_binderNumbered at hM
  refine g_iload_n X 1 rfl d_Mod_binderNumbered_0 ?_
  refine g_bipush X (by decide) d_Mod_binderNumbered_1 ?_
  refine g_icmp_ge X 14 d_Mod_binderNumbered_3 (by decide) (fun hc1 => ?_) (fun hc1 => ?_)
  · have hM := fa_if_t hM hc1
    refine g_iload_n X 1 rfl d_Mod_binderNumbered_14 ?_
    subst hM
    exact g_iret X d_Mod_binderNumbered_15
  · have hM := fa_if_f hM hc1
    refine g_aload_n X 0 rfl d_Mod_binderNumbered_6 ?_
    refine g_iload_n X 1 rfl d_Mod_binderNumbered_7 ?_
    refine g_callV_i X ck_10 fo_181 (fn_181 hN) rfl mi_Mod_numbered (c_Mod_numbered hN hT a1 w _ rfl) wd_1624 rfl (Nat.le_trans (Nat.le_of_ble_eq_true rfl) hle) (st := []) (Nat.le_of_ble_eq_true rfl) rfl d_Mod_binderNumbered_8 ?_
    refine g_goto X 15 d_Mod_binderNumbered_11 (by decide) ?_
    subst hM
    exact g_iret X d_Mod_binderNumbered_15
theorem d_Mod_homeNumbered_0 : decode prog_12_method_39_code 0 = .ok (.iload_n 1, 1) := by decide +kernel
theorem d_Mod_homeNumbered_1 : decode prog_12_method_39_code 1 = .ok (.iconst (-1), 1) := by decide +kernel
theorem d_Mod_homeNumbered_2 : decode prog_12_method_39_code 2 = .ok (.if_icmp .ne 7, 3) := by decide +kernel
theorem d_Mod_homeNumbered_5 : decode prog_12_method_39_code 5 = .ok (.iconst (-1), 1) := by decide +kernel
theorem d_Mod_homeNumbered_6 : decode prog_12_method_39_code 6 = .ok (.goto 8, 3) := by decide +kernel
theorem d_Mod_homeNumbered_9 : decode prog_12_method_39_code 9 = .ok (.aload_n 0, 1) := by decide +kernel
theorem d_Mod_homeNumbered_10 : decode prog_12_method_39_code 10 = .ok (.iload_n 1, 1) := by decide +kernel
theorem d_Mod_homeNumbered_11 : decode prog_12_method_39_code 11 = .ok (.invokevirtual 224, 3) := by decide +kernel
theorem d_Mod_homeNumbered_14 : decode prog_12_method_39_code 14 = .ok (.ireturn, 1) := by decide +kernel
def fm_Mod_homeNumbered (a1 : Int) (w : fa_W) : Int :=
  if fa_wr a1 = (-1) then
  (-1)
  else
  fm_Mod_numbered a1 w
set_option maxHeartbeats 4000000 in
set_option maxRecDepth 100000 in
theorem c_Mod_homeNumbered {l : Launch} {D : va_G} {b : Nat} {aC : Nat → ClassId} {H0 : Heap} {N T : Nat} (hN : fa_NM ≤ N) (hT : fa_TM ≤ T) (a1 : Int)  (w : fa_W) (r : Int) (hM : fm_Mod_homeNumbered a1 w = r) : fa_MC l D b aC H0 N T y_Mod_homeNumbered prog_12_method_39_code 2 ((Option.some Jvm.ClassFile.FieldType.int)) (1) [.ref (b + 181), .int (fa_I a1)] w (some (.int (fa_I r))) w := by
  refine fa_enter (lv := [(0, .ref (b + 181)), (1, .int (fa_I a1))]) (by decide +kernel) (Nat.le_of_ble_eq_true rfl) rfl (fun hh hle hnm X => ?_)
  unfold fm_Mod_homeNumbered at hM
  refine g_iload_n X 1 rfl d_Mod_homeNumbered_0 ?_
  refine g_iconst X d_Mod_homeNumbered_1 ?_
  refine g_icmp_ne X 9 d_Mod_homeNumbered_2 (by decide) (fun hc1 => ?_) (fun hc1 => ?_)
  · have hM := fa_if_f hM hc1
    refine g_aload_n X 0 rfl d_Mod_homeNumbered_9 ?_
    refine g_iload_n X 1 rfl d_Mod_homeNumbered_10 ?_
    refine g_callV_i X ck_10 fo_181 (fn_181 hN) rfl mi_Mod_numbered (c_Mod_numbered hN hT a1 w _ rfl) wd_1624 rfl (Nat.le_trans (Nat.le_of_ble_eq_true rfl) hle) (st := []) (Nat.le_of_ble_eq_true rfl) rfl d_Mod_homeNumbered_11 ?_
    subst hM
    exact g_iret X d_Mod_homeNumbered_14
  · have hM := fa_if_t hM hc1
    refine g_iconst X d_Mod_homeNumbered_5 ?_
    refine g_goto X 14 d_Mod_homeNumbered_6 (by decide) ?_
    subst hM
    exact g_iret X d_Mod_homeNumbered_14
