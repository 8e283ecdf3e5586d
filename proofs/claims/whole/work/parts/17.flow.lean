theorem d_Flow_looked_0 : decode prog_2_method_3_code 0 = .ok (.iload_n 1, 1) := by decide +kernel
theorem d_Flow_looked_1 : decode prog_2_method_3_code 1 = .ok (.iconst (-1), 1) := by decide +kernel
theorem d_Flow_looked_2 : decode prog_2_method_3_code 2 = .ok (.if_icmp .eq 14, 3) := by decide +kernel
theorem d_Flow_looked_5 : decode prog_2_method_3_code 5 = .ok (.aload_n 0, 1) := by decide +kernel
theorem d_Flow_looked_6 : decode prog_2_method_3_code 6 = .ok (.getfield 36, 3) := by decide +kernel
theorem d_Flow_looked_9 : decode prog_2_method_3_code 9 = .ok (.iload_n 1, 1) := by decide +kernel
theorem d_Flow_looked_10 : decode prog_2_method_3_code 10 = .ok (.invokestatic 76, 3) := by decide +kernel
theorem d_Flow_looked_13 : decode prog_2_method_3_code 13 = .ok (.ifCond .eq 7, 3) := by decide +kernel
theorem d_Flow_looked_16 : decode prog_2_method_3_code 16 = .ok (.iconst 1, 1) := by decide +kernel
theorem d_Flow_looked_17 : decode prog_2_method_3_code 17 = .ok (.goto 4, 3) := by decide +kernel
theorem d_Flow_looked_20 : decode prog_2_method_3_code 20 = .ok (.iconst 0, 1) := by decide +kernel
theorem d_Flow_looked_21 : decode prog_2_method_3_code 21 = .ok (.ireturn, 1) := by decide +kernel
def fm_Flow_looked (o : Nat) (a1 : Int) (w : fa_W) : Bool :=
  if fa_wr a1 = (-1) then
  true
  else
  (if fm_Face_hasBit (w o 6) a1 w = true then
  true
  else
  false)
set_option maxHeartbeats 4000000 in
set_option maxRecDepth 100000 in
theorem c_Flow_looked {l : Launch} {D : va_G} {b : Nat} {aC : Nat → ClassId} {H0 : Heap} {N T : Nat} (hN : fa_NX ≤ N) (hT : fa_TX ≤ T) (o : Nat) (a1 : Int) (ho : (fa_sh o).1 = 1)  (w : fa_W) (r : Bool) (hM : fm_Flow_looked o a1 w = r) : fa_MC l D b aC H0 N T y_Flow_looked prog_2_method_3_code 2 ((Option.some Jvm.ClassFile.FieldType.boolean)) (1) [.ref (b + o), .int (fa_I a1)] w (some (.int (fa_I (fa_bi r)))) w := by
  refine fa_enter (lv := [(0, .ref (b + o)), (1, .int (fa_I a1))]) (by decide +kernel) (Nat.le_of_ble_eq_true rfl) rfl (fun hh hle hnm X => ?_)
  unfold fm_Flow_looked at hM
  refine g_iload_n X 1 rfl d_Flow_looked_0 ?_
  refine g_iconst X d_Flow_looked_1 ?_
  refine g_icmp_eq X 16 d_Flow_looked_2 (by decide) (fun hc1 => ?_) (fun hc1 => ?_)
  · have hM := fa_if_t hM hc1
    refine g_iconst X d_Flow_looked_16 ?_
    refine g_goto X 21 d_Flow_looked_17 (by decide) ?_
    subst hM
    exact g_zret X rfl d_Flow_looked_21
  · have hM := fa_if_f hM hc1
    refine g_aload_n X 0 rfl d_Flow_looked_5 ?_
    refine g_get X ck_1 ho (fa_xn ho (by decide) hN) 6 (by decide) wd_344 rfl (fa_fvI rfl) d_Flow_looked_6 ?_
    refine g_iload_n X 1 rfl d_Flow_looked_9 ?_
    refine g_callSN_i X mi_Face_hasBit (c_Face_hasBit hN hT (w o 6) a1 w _ rfl) wd_530 rfl (Nat.le_trans (Nat.le_of_ble_eq_true rfl) hle) (st := []) (Nat.le_of_ble_eq_true rfl) rfl d_Flow_looked_10 ?_
    refine g_ifb_eq X 20 d_Flow_looked_13 (by decide) (fun hc3 => ?_) (fun hc3 => ?_)
    · have hM := fa_ifb_f hM hc3
      refine g_iconst X d_Flow_looked_20 ?_
      subst hM
      exact g_zret X rfl d_Flow_looked_21
    · have hM := fa_ifb_t hM hc3
      refine g_iconst X d_Flow_looked_16 ?_
      refine g_goto X 21 d_Flow_looked_17 (by decide) ?_
      subst hM
      exact g_zret X rfl d_Flow_looked_21
theorem d_Flow_hold_0 : decode prog_2_method_6_code 0 = .ok (.aload_n 0, 1) := by decide +kernel
theorem d_Flow_hold_1 : decode prog_2_method_6_code 1 = .ok (.getfield 20, 3) := by decide +kernel
theorem d_Flow_hold_4 : decode prog_2_method_6_code 4 = .ok (.iload_n 1, 1) := by decide +kernel
theorem d_Flow_hold_5 : decode prog_2_method_6_code 5 = .ok (.invokevirtual 86, 3) := by decide +kernel
theorem d_Flow_hold_8 : decode prog_2_method_6_code 8 = .ok (.iload_n 2, 1) := by decide +kernel
theorem d_Flow_hold_9 : decode prog_2_method_6_code 9 = .ok (.ior, 1) := by decide +kernel
theorem d_Flow_hold_10 : decode prog_2_method_6_code 10 = .ok (.istore_n 3, 1) := by decide +kernel
theorem d_Flow_hold_11 : decode prog_2_method_6_code 11 = .ok (.iload_n 3, 1) := by decide +kernel
theorem d_Flow_hold_12 : decode prog_2_method_6_code 12 = .ok (.aload_n 0, 1) := by decide +kernel
theorem d_Flow_hold_13 : decode prog_2_method_6_code 13 = .ok (.getfield 20, 3) := by decide +kernel
theorem d_Flow_hold_16 : decode prog_2_method_6_code 16 = .ok (.iload_n 1, 1) := by decide +kernel
theorem d_Flow_hold_17 : decode prog_2_method_6_code 17 = .ok (.invokevirtual 86, 3) := by decide +kernel
theorem d_Flow_hold_20 : decode prog_2_method_6_code 20 = .ok (.if_icmp .eq 17, 3) := by decide +kernel
theorem d_Flow_hold_23 : decode prog_2_method_6_code 23 = .ok (.aload_n 0, 1) := by decide +kernel
theorem d_Flow_hold_24 : decode prog_2_method_6_code 24 = .ok (.getfield 20, 3) := by decide +kernel
theorem d_Flow_hold_27 : decode prog_2_method_6_code 27 = .ok (.iload_n 1, 1) := by decide +kernel
theorem d_Flow_hold_28 : decode prog_2_method_6_code 28 = .ok (.iload_n 3, 1) := by decide +kernel
theorem d_Flow_hold_29 : decode prog_2_method_6_code 29 = .ok (.invokevirtual 103, 3) := by decide +kernel
theorem d_Flow_hold_32 : decode prog_2_method_6_code 32 = .ok (.aload_n 0, 1) := by decide +kernel
theorem d_Flow_hold_33 : decode prog_2_method_6_code 33 = .ok (.iconst 1, 1) := by decide +kernel
theorem d_Flow_hold_34 : decode prog_2_method_6_code 34 = .ok (.putfield 39, 3) := by decide +kernel
theorem d_Flow_hold_37 : decode prog_2_method_6_code 37 = .ok (.return_, 1) := by decide +kernel
def fm_Flow_hold (o : Nat) (a1 : Int) (a2 : Int) (w : fa_W) : fa_W :=
  fa_let (fa_ior (fr_bits (fa_rf o 1) a1 w) a2) fun x3_2 =>
  if fa_wr x3_2 = fa_wr (fr_bits (fa_rf o 1) a1 w) then
  w
  else
  (fa_let (fr_set (fa_rf o 1) a1 x3_2 w) fun w6 =>
  fa_let (fa_st w6 o 7 (fa_bi true)) fun w7 =>
  w7)
set_option maxHeartbeats 4000000 in
set_option maxRecDepth 100000 in
theorem c_Flow_hold {l : Launch} {D : va_G} {b : Nat} {aC : Nat → ClassId} {H0 : Heap} {N T : Nat} (hN : fa_NX ≤ N) (hT : fa_TX ≤ T) (o : Nat) (a1 : Int) (a2 : Int) (ho : (fa_sh o).1 = 1)  (w : fa_W) (r : fa_W) (hM : fm_Flow_hold o a1 a2 w = r) : fa_MC l D b aC H0 N T y_Flow_hold prog_2_method_6_code 4 ((Option.none : Option Jvm.ClassFile.FieldType)) (1) [.ref (b + o), .int (fa_I a1), .int (fa_I a2)] w (none) r := by
  refine fa_enter (lv := [(0, .ref (b + o)), (1, .int (fa_I a1)), (2, .int (fa_I a2))]) (by decide +kernel) (Nat.le_of_ble_eq_true rfl) rfl (fun hh hle hnm X => ?_)
  unfold fm_Flow_hold at hM
  refine g_aload_n X 0 rfl d_Flow_hold_0 ?_
  refine g_get X ck_1 ho (fa_xn ho (by decide) hN) 1 (by decide) wd_334 rfl (fa_fvR rfl (fa_xt ho (by decide) hT 1)) d_Flow_hold_1 ?_
  refine g_iload_n X 1 rfl d_Flow_hold_4 ?_
  refine g_callV_i X ck_6 (fa_r1_1 _ ho) (fa_xn (fa_r1_1 _ ho) (by decide) hN) rfl mi_Row_bits (ct_Row_bits (fa_rf o 1) a1 (fa_ro (fa_r1_1 _ ho) hN hT) w _ rfl) wd_539 rfl (Nat.le_trans (Nat.le_of_ble_eq_true rfl) hle) (st := []) (Nat.le_of_ble_eq_true rfl) rfl d_Flow_hold_5 ?_
  refine g_iload_n X 2 rfl d_Flow_hold_8 ?_
  refine g_ior X d_Flow_hold_9 ?_
  refine g_istore_n X (fun x3_2 => [(3, .int (fa_I x3_2)), (0, .ref (b + o)), (1, .int (fa_I a1)), (2, .int (fa_I a2))]) d_Flow_hold_10 (by decide) (fun _ => rfl) (fun x3_2 ex3_2 => ?_)
  have hM := fa_let_to hM ex3_2
  refine g_iload_n X 0 rfl d_Flow_hold_11 ?_
  refine g_aload_n X 1 rfl d_Flow_hold_12 ?_
  refine g_get X ck_1 ho (fa_xn ho (by decide) hN) 1 (by decide) wd_334 rfl (fa_fvR rfl (fa_xt ho (by decide) hT 1)) d_Flow_hold_13 ?_
  refine g_iload_n X 2 rfl d_Flow_hold_16 ?_
  refine g_callV_i X ck_6 (fa_r1_1 _ ho) (fa_xn (fa_r1_1 _ ho) (by decide) hN) rfl mi_Row_bits (ct_Row_bits (fa_rf o 1) a1 (fa_ro (fa_r1_1 _ ho) hN hT) w _ rfl) wd_539 rfl (Nat.le_trans (Nat.le_of_ble_eq_true rfl) hle) (st := [.int (fa_I x3_2)]) (Nat.le_of_ble_eq_true rfl) rfl d_Flow_hold_17 ?_
  refine g_icmp_eq X 37 d_Flow_hold_20 (by decide) (fun hc4 => ?_) (fun hc4 => ?_)
  · have hM := fa_if_t hM hc4
    subst hM
    exact g_vret X d_Flow_hold_37
  · have hM := fa_if_f hM hc4
    refine g_aload_n X 1 rfl d_Flow_hold_23 ?_
    refine g_get X ck_1 ho (fa_xn ho (by decide) hN) 1 (by decide) wd_334 rfl (fa_fvR rfl (fa_xt ho (by decide) hT 1)) d_Flow_hold_24 ?_
    refine g_iload_n X 2 rfl d_Flow_hold_27 ?_
    refine g_iload_n X 0 rfl d_Flow_hold_28 ?_
    obtain ⟨w6, e5⟩ : ∃ q, fr_set (fa_rf o 1) a1 x3_2 w = q := ⟨_, rfl⟩
    have hM := fa_let_to hM e5.symm
    refine g_callV_v X ck_6 (fa_r1_1 _ ho) (fa_xn (fa_r1_1 _ ho) (by decide) hN) rfl mi_Row_set (ct_Row_set (fa_rf o 1) a1 x3_2 (fa_ro (fa_r1_1 _ ho) hN hT) w _ e5) wd_551 rfl (Nat.le_trans (Nat.le_of_ble_eq_true rfl) hle) (st := []) (Nat.le_of_ble_eq_true rfl) rfl d_Flow_hold_29 ?_
    refine g_aload_n X 1 rfl d_Flow_hold_32 ?_
    refine g_iconst X d_Flow_hold_33 ?_
    refine g_put X ck_1 ho (fa_xn ho (by decide) hN) 7 (z := (fa_bi true)) (by decide) wd_348 rfl (fa_fvB' rfl) rfl (fa_nb true).1 (fa_nb true).2 d_Flow_hold_34 (fun w7 ew7 => ?_)
    have hM := fa_let_to hM ew7
    subst hM
    exact g_vret X d_Flow_hold_37
theorem d_Flow_comesOfBody_0 : decode prog_2_method_8_code 0 = .ok (.aload_n 0, 1) := by decide +kernel
theorem d_Flow_comesOfBody_1 : decode prog_2_method_8_code 1 = .ok (.getfield 14, 3) := by decide +kernel
theorem d_Flow_comesOfBody_4 : decode prog_2_method_8_code 4 = .ok (.aload_n 1, 1) := by decide +kernel
theorem d_Flow_comesOfBody_5 : decode prog_2_method_8_code 5 = .ok (.getfield 112, 3) := by decide +kernel
theorem d_Flow_comesOfBody_8 : decode prog_2_method_8_code 8 = .ok (.iload_n 2, 1) := by decide +kernel
theorem d_Flow_comesOfBody_9 : decode prog_2_method_8_code 9 = .ok (.invokevirtual 115, 3) := by decide +kernel
theorem d_Flow_comesOfBody_12 : decode prog_2_method_8_code 12 = .ok (.invokevirtual 86, 3) := by decide +kernel
theorem d_Flow_comesOfBody_15 : decode prog_2_method_8_code 15 = .ok (.ireturn, 1) := by decide +kernel
def fm_Flow_comesOfBody (o : Nat) (a1 : Nat) (a2 : Int) (w : fa_W) : Int :=
  fr_bits (fa_rf o 0) (fr_at (fa_rf a1 9) a2 w) w
set_option maxHeartbeats 4000000 in
set_option maxRecDepth 100000 in
theorem c_Flow_comesOfBody {l : Launch} {D : va_G} {b : Nat} {aC : Nat → ClassId} {H0 : Heap} {N T : Nat} (hN : fa_NX ≤ N) (hT : fa_TX ≤ T) (o : Nat) (a1 : Nat) (a2 : Int) (ho : (fa_sh o).1 = 1) (ha1 : (fa_sh a1).1 = 4)  (w : fa_W) (r : Int) (hM : fm_Flow_comesOfBody o a1 a2 w = r) : fa_MC l D b aC H0 N T y_Flow_comesOfBody prog_2_method_8_code 3 ((Option.some Jvm.ClassFile.FieldType.int)) (1) [.ref (b + o), .ref (b + a1), .int (fa_I a2)] w (some (.int (fa_I r))) w := by
  refine fa_enter (lv := [(0, .ref (b + o)), (1, .ref (b + a1)), (2, .int (fa_I a2))]) (by decide +kernel) (Nat.le_of_ble_eq_true rfl) rfl (fun hh hle hnm X => ?_)
  unfold fm_Flow_comesOfBody at hM
  refine g_aload_n X 0 rfl d_Flow_comesOfBody_0 ?_
  refine g_get X ck_1 ho (fa_xn ho (by decide) hN) 0 (by decide) wd_332 rfl (fa_fvR rfl (fa_xt ho (by decide) hT 0)) d_Flow_comesOfBody_1 ?_
  refine g_aload_n X 1 rfl d_Flow_comesOfBody_4 ?_
  refine g_getN X ck_4 ha1 (fa_xn ha1 (by decide) hN) 9 (by decide) wd_85 rfl (fa_fvR rfl (fa_xt ha1 (by decide) hT 9)) d_Flow_comesOfBody_5 ?_
  refine g_iload_n X 2 rfl d_Flow_comesOfBody_8 ?_
  refine g_callV_i X ck_6 (fa_r4_9 _ ha1) (fa_xn (fa_r4_9 _ ha1) (by decide) hN) rfl mi_Row_at (ct_Row_at (fa_rf a1 9) a2 (fa_ro (fa_r4_9 _ ha1) hN hT) w _ rfl) wd_560 rfl (Nat.le_trans (Nat.le_of_ble_eq_true rfl) hle) (st := [.ref (b + (fa_rf o 0))]) (Nat.le_of_ble_eq_true rfl) rfl d_Flow_comesOfBody_9 ?_
  refine g_callV_i X ck_6 (fa_r1_0 _ ho) (fa_xn (fa_r1_0 _ ho) (by decide) hN) rfl mi_Row_bits (ct_Row_bits (fa_rf o 0) (fr_at (fa_rf a1 9) a2 w) (fa_ro (fa_r1_0 _ ho) hN hT) w _ rfl) wd_539 rfl (Nat.le_trans (Nat.le_of_ble_eq_true rfl) hle) (st := []) (Nat.le_of_ble_eq_true rfl) rfl d_Flow_comesOfBody_12 ?_
  subst hM
  exact g_iret X d_Flow_comesOfBody_15
theorem d_Flow_lookAtSite_0 : decode prog_2_method_5_code 0 = .ok (.iconst 0, 1) := by decide +kernel
theorem d_Flow_lookAtSite_1 : decode prog_2_method_5_code 1 = .ok (.istore_n 3, 1) := by decide +kernel
theorem d_Flow_lookAtSite_2 : decode prog_2_method_5_code 2 = .ok (.aload_n 0, 1) := by decide +kernel
theorem d_Flow_lookAtSite_3 : decode prog_2_method_5_code 3 = .ok (.getfield 14, 3) := by decide +kernel
theorem d_Flow_lookAtSite_6 : decode prog_2_method_5_code 6 = .ok (.aload_n 1, 1) := by decide +kernel
theorem d_Flow_lookAtSite_7 : decode prog_2_method_5_code 7 = .ok (.iload_n 2, 1) := by decide +kernel
theorem d_Flow_lookAtSite_8 : decode prog_2_method_5_code 8 = .ok (.iconst 0, 1) := by decide +kernel
theorem d_Flow_lookAtSite_9 : decode prog_2_method_5_code 9 = .ok (.invokevirtual 92, 3) := by decide +kernel
theorem d_Flow_lookAtSite_12 : decode prog_2_method_5_code 12 = .ok (.invokevirtual 86, 3) := by decide +kernel
theorem d_Flow_lookAtSite_15 : decode prog_2_method_5_code 15 = .ok (.istore 4, 2) := by decide +kernel
theorem d_Flow_lookAtSite_17 : decode prog_2_method_5_code 17 = .ok (.iconst 0, 1) := by decide +kernel
theorem d_Flow_lookAtSite_18 : decode prog_2_method_5_code 18 = .ok (.istore 5, 2) := by decide +kernel
theorem d_Flow_lookAtSite_20 : decode prog_2_method_5_code 20 = .ok (.iload 5, 2) := by decide +kernel
theorem d_Flow_lookAtSite_22 : decode prog_2_method_5_code 22 = .ok (.aload_n 1, 1) := by decide +kernel
theorem d_Flow_lookAtSite_23 : decode prog_2_method_5_code 23 = .ok (.getfield 106, 3) := by decide +kernel
theorem d_Flow_lookAtSite_26 : decode prog_2_method_5_code 26 = .ok (.if_icmp .ge 79, 3) := by decide +kernel
theorem d_Flow_lookAtSite_29 : decode prog_2_method_5_code 29 = .ok (.iload 4, 2) := by decide +kernel
theorem d_Flow_lookAtSite_31 : decode prog_2_method_5_code 31 = .ok (.iload 5, 2) := by decide +kernel
theorem d_Flow_lookAtSite_33 : decode prog_2_method_5_code 33 = .ok (.invokestatic 76, 3) := by decide +kernel
theorem d_Flow_lookAtSite_36 : decode prog_2_method_5_code 36 = .ok (.ifCond .eq 63, 3) := by decide +kernel
theorem d_Flow_lookAtSite_39 : decode prog_2_method_5_code 39 = .ok (.aload_n 0, 1) := by decide +kernel
theorem d_Flow_lookAtSite_40 : decode prog_2_method_5_code 40 = .ok (.getfield 36, 3) := by decide +kernel
theorem d_Flow_lookAtSite_43 : decode prog_2_method_5_code 43 = .ok (.iload 5, 2) := by decide +kernel
theorem d_Flow_lookAtSite_45 : decode prog_2_method_5_code 45 = .ok (.invokestatic 76, 3) := by decide +kernel
theorem d_Flow_lookAtSite_48 : decode prog_2_method_5_code 48 = .ok (.ifCond .ne 22, 3) := by decide +kernel
theorem d_Flow_lookAtSite_51 : decode prog_2_method_5_code 51 = .ok (.aload_n 0, 1) := by decide +kernel
theorem d_Flow_lookAtSite_52 : decode prog_2_method_5_code 52 = .ok (.dup, 1) := by decide +kernel
theorem d_Flow_lookAtSite_53 : decode prog_2_method_5_code 53 = .ok (.getfield 36, 3) := by decide +kernel
theorem d_Flow_lookAtSite_56 : decode prog_2_method_5_code 56 = .ok (.iload 5, 2) := by decide +kernel
theorem d_Flow_lookAtSite_58 : decode prog_2_method_5_code 58 = .ok (.invokestatic 89, 3) := by decide +kernel
theorem d_Flow_lookAtSite_61 : decode prog_2_method_5_code 61 = .ok (.ior, 1) := by decide +kernel
theorem d_Flow_lookAtSite_62 : decode prog_2_method_5_code 62 = .ok (.putfield 36, 3) := by decide +kernel
theorem d_Flow_lookAtSite_65 : decode prog_2_method_5_code 65 = .ok (.aload_n 0, 1) := by decide +kernel
theorem d_Flow_lookAtSite_66 : decode prog_2_method_5_code 66 = .ok (.iconst 1, 1) := by decide +kernel
theorem d_Flow_lookAtSite_67 : decode prog_2_method_5_code 67 = .ok (.putfield 39, 3) := by decide +kernel
theorem d_Flow_lookAtSite_70 : decode prog_2_method_5_code 70 = .ok (.aload_n 0, 1) := by decide +kernel
theorem d_Flow_lookAtSite_71 : decode prog_2_method_5_code 71 = .ok (.iload 5, 2) := by decide +kernel
theorem d_Flow_lookAtSite_73 : decode prog_2_method_5_code 73 = .ok (.aload_n 0, 1) := by decide +kernel
theorem d_Flow_lookAtSite_74 : decode prog_2_method_5_code 74 = .ok (.getfield 14, 3) := by decide +kernel
theorem d_Flow_lookAtSite_77 : decode prog_2_method_5_code 77 = .ok (.aload_n 1, 1) := by decide +kernel
theorem d_Flow_lookAtSite_78 : decode prog_2_method_5_code 78 = .ok (.iload_n 2, 1) := by decide +kernel
theorem d_Flow_lookAtSite_79 : decode prog_2_method_5_code 79 = .ok (.iconst 1, 1) := by decide +kernel
theorem d_Flow_lookAtSite_80 : decode prog_2_method_5_code 80 = .ok (.invokevirtual 92, 3) := by decide +kernel
theorem d_Flow_lookAtSite_83 : decode prog_2_method_5_code 83 = .ok (.invokevirtual 86, 3) := by decide +kernel
theorem d_Flow_lookAtSite_86 : decode prog_2_method_5_code 86 = .ok (.invokevirtual 96, 3) := by decide +kernel
theorem d_Flow_lookAtSite_89 : decode prog_2_method_5_code 89 = .ok (.iload_n 3, 1) := by decide +kernel
theorem d_Flow_lookAtSite_90 : decode prog_2_method_5_code 90 = .ok (.aload_n 0, 1) := by decide +kernel
theorem d_Flow_lookAtSite_91 : decode prog_2_method_5_code 91 = .ok (.aload_n 1, 1) := by decide +kernel
theorem d_Flow_lookAtSite_92 : decode prog_2_method_5_code 92 = .ok (.iload 5, 2) := by decide +kernel
theorem d_Flow_lookAtSite_94 : decode prog_2_method_5_code 94 = .ok (.invokevirtual 109, 3) := by decide +kernel
theorem d_Flow_lookAtSite_97 : decode prog_2_method_5_code 97 = .ok (.ior, 1) := by decide +kernel
theorem d_Flow_lookAtSite_98 : decode prog_2_method_5_code 98 = .ok (.istore_n 3, 1) := by decide +kernel
theorem d_Flow_lookAtSite_99 : decode prog_2_method_5_code 99 = .ok (.iinc 5 1, 3) := by decide +kernel
theorem d_Flow_lookAtSite_102 : decode prog_2_method_5_code 102 = .ok (.goto (-82), 3) := by decide +kernel
theorem d_Flow_lookAtSite_105 : decode prog_2_method_5_code 105 = .ok (.iload_n 3, 1) := by decide +kernel
theorem d_Flow_lookAtSite_106 : decode prog_2_method_5_code 106 = .ok (.ireturn, 1) := by decide +kernel
def fm_Flow_lookAtSite_j70 (o : Nat) (a1 : Nat) (a2 : Int) (k20 : Int → Int → Int → fa_W → Option (Int × fa_W)) (x3 : Int) (x4 : Int) (x5 : Int) (w : fa_W) : Option (Int × fa_W) :=
  fa_let (fm_Flow_hold o x5 (fr_bits (fa_rf o 0) (fm_Program_part a1 a2 1 w) w) w) fun w13 =>
  fa_let (fa_ior x3 (fm_Flow_comesOfBody o a1 x5 w13)) fun x3_15 =>
  fa_let (x5 + 1) fun x5_16 =>
  k20 x3_15 x4 x5_16 w13
set_option maxHeartbeats 4000000 in
set_option maxRecDepth 100000 in
theorem c_Flow_lookAtSite_j70 {p : Program} {l : Launch} {e : Env} {s : State} {m : MethodId} {args : Array Value} {below : List Frame} {meth : Method} {c : Code} {hh : Nat} {D : va_G} {b : Nat} {aC : Nat → ClassId} {H0 : Heap} {N T : Nat} (X : fa_GX p s m args meth c prog_2_method_5_code 6 ((Option.some Jvm.ClassFile.FieldType.int)) y_Flow_lookAtSite.cls D b aC) (hle : 2 ≤ hh) (hN : fa_NX ≤ N) (hT : fa_TX ≤ T) (o : Nat) (a1 : Nat) (a2 : Int) (ho : (fa_sh o).1 = 1) (ha1 : (fa_sh a1).1 = 4) {r : Int × fa_W} (k20 : Int → Int → Int → fa_W → Option (Int × fa_W)) (K20 : ∀ (x3 : Int) (x4 : Int) (x5 : Int) (w : fa_W), k20 x3 x4 x5 w = some r → fa_GJ p l e (fa_rm hh) s m args below meth c 0 0 (MQ below (fa_Qc D b aC H0 N T (some (.int (fa_I r.1))) r.2) args s 0 0 (fun q => b ≤ q)) D b aC H0 N T 6 w 20 [(0, .ref (b + o)), (1, .ref (b + a1)), (2, .int (fa_I a2)), (3, .int (fa_I x3)), (4, .int (fa_I x4)), (5, .int (fa_I x5))] []) : ∀ (x3 : Int) (x4 : Int) (x5 : Int) (w : fa_W) (_ : fm_Flow_lookAtSite_j70 o a1 a2 k20 x3 x4 x5 w = some r), fa_GJ p l e (fa_rm hh) s m args below meth c 0 0 (MQ below (fa_Qc D b aC H0 N T (some (.int (fa_I r.1))) r.2) args s 0 0 (fun q => b ≤ q)) D b aC H0 N T 6 w 70 [(0, .ref (b + o)), (1, .ref (b + a1)), (2, .int (fa_I a2)), (3, .int (fa_I x3)), (4, .int (fa_I x4)), (5, .int (fa_I x5))] [] := by
  intro x3 x4 x5 w hM
  unfold fm_Flow_lookAtSite_j70 at hM
  refine g_aload_n X 0 rfl d_Flow_lookAtSite_70 ?_
  refine g_iload X 5 rfl d_Flow_lookAtSite_71 ?_
  refine g_aload_n X 0 rfl d_Flow_lookAtSite_73 ?_
  refine g_get X ck_1 ho (fa_xn ho (by decide) hN) 0 (by decide) wd_332 rfl (fa_fvR rfl (fa_xt ho (by decide) hT 0)) d_Flow_lookAtSite_74 ?_
  refine g_aload_n X 1 rfl d_Flow_lookAtSite_77 ?_
  refine g_iload_n X 2 rfl d_Flow_lookAtSite_78 ?_
  refine g_iconst X d_Flow_lookAtSite_79 ?_
  refine g_callV_i X ck_4 ha1 (fa_xn ha1 (by decide) hN) rfl mi_Program_part (c_Program_part hN hT a1 a2 1 ha1 w _ rfl) wd_546 rfl (Nat.le_trans (Nat.le_of_ble_eq_true rfl) hle) (st := [.ref (b + (fa_rf o 0)), .int (fa_I x5), .ref (b + o)]) (Nat.le_of_ble_eq_true rfl) rfl d_Flow_lookAtSite_80 ?_
  refine g_callV_i X ck_6 (fa_r1_0 _ ho) (fa_xn (fa_r1_0 _ ho) (by decide) hN) rfl mi_Row_bits (ct_Row_bits (fa_rf o 0) (fm_Program_part a1 a2 1 w) (fa_ro (fa_r1_0 _ ho) hN hT) w _ rfl) wd_539 rfl (Nat.le_trans (Nat.le_of_ble_eq_true rfl) hle) (st := [.int (fa_I x5), .ref (b + o)]) (Nat.le_of_ble_eq_true rfl) rfl d_Flow_lookAtSite_83 ?_
  obtain ⟨w13, e12⟩ : ∃ q, fm_Flow_hold o x5 (fr_bits (fa_rf o 0) (fm_Program_part a1 a2 1 w) w) w = q := ⟨_, rfl⟩
  have hM := fa_let_to hM e12.symm
  refine g_callV_v X ck_1 ho (fa_xn ho (by decide) hN) rfl mi_Flow_hold (c_Flow_hold hN hT o x5 (fr_bits (fa_rf o 0) (fm_Program_part a1 a2 1 w) w) ho w _ e12) wd_547 rfl (Nat.le_trans (Nat.le_of_ble_eq_true rfl) hle) (st := []) (Nat.le_of_ble_eq_true rfl) rfl d_Flow_lookAtSite_86 ?_
  refine g_iload_n X 3 rfl d_Flow_lookAtSite_89 ?_
  refine g_aload_n X 0 rfl d_Flow_lookAtSite_90 ?_
  refine g_aload_n X 1 rfl d_Flow_lookAtSite_91 ?_
  refine g_iload X 5 rfl d_Flow_lookAtSite_92 ?_
  refine g_callV_i X ck_1 ho (fa_xn ho (by decide) hN) rfl mi_Flow_comesOfBody (c_Flow_comesOfBody hN hT o a1 x5 ho ha1 w13 _ rfl) wd_556 rfl (Nat.le_trans (Nat.le_of_ble_eq_true rfl) hle) (st := [.int (fa_I x3)]) (Nat.le_of_ble_eq_true rfl) rfl d_Flow_lookAtSite_94 ?_
  refine g_ior X d_Flow_lookAtSite_97 ?_
  refine g_istore_n X (fun x3_15 => [(3, .int (fa_I x3_15)), (0, .ref (b + o)), (1, .ref (b + a1)), (2, .int (fa_I a2)), (4, .int (fa_I x4)), (5, .int (fa_I x5))]) d_Flow_lookAtSite_98 (by decide) (fun _ => rfl) (fun x3_15 ex3_15 => ?_)
  have hM := fa_let_to hM ex3_15
  refine g_iinc X 5 (fun x5_16 => [(5, .int (fa_I x5_16)), (3, .int (fa_I x3_15)), (0, .ref (b + o)), (1, .ref (b + a1)), (2, .int (fa_I a2)), (4, .int (fa_I x4))]) d_Flow_lookAtSite_99 rfl (by decide) (fun _ => rfl) (fun x5_16 ex5_16 => ?_)
  have hM := fa_let_to hM ex5_16
  refine g_goto X 20 d_Flow_lookAtSite_102 (by decide) ?_
  exact g_lv [2, 3, 4, 1, 5, 0] rfl (K20 _ _ _ _ hM)
def fm_Flow_lookAtSite_l20 (o : Nat) (a1 : Nat) (a2 : Int) : Nat → Int → Int → Int → fa_W → Option (Int × fa_W)
  | 0, _, _, _, _ => none
  | n + 1, x3, x4, x5, w => if fa_wr (w a1 14) ≤ fa_wr x5 then
  some (x3, w)
  else
  (if fm_Face_hasBit x4 x5 w = true then
  (if fm_Face_hasBit (w o 6) x5 w = true then
  fm_Flow_lookAtSite_j70 o a1 a2 (fun x3 x4 x5 w9 => fm_Flow_lookAtSite_l20 o a1 a2 n x3 x4 x5 w9) x3 x4 x5 w
  else
  (fa_let (fa_st w o 6 (fa_ior (w o 6) (fm_Face_bit x5 w))) fun w18 =>
  fa_let (fa_st w18 o 7 (fa_bi true)) fun w19 =>
  fm_Flow_lookAtSite_j70 o a1 a2 (fun x3 x4 x5 w9 => fm_Flow_lookAtSite_l20 o a1 a2 n x3 x4 x5 w9) x3 x4 x5 w19))
  else
  (fa_let (x5 + 1) fun x5_7 =>
  fm_Flow_lookAtSite_l20 o a1 a2 n x3 x4 x5_7 w))
set_option maxHeartbeats 4000000 in
set_option maxRecDepth 100000 in
theorem c_Flow_lookAtSite_l20 {p : Program} {l : Launch} {e : Env} {s : State} {m : MethodId} {args : Array Value} {below : List Frame} {meth : Method} {c : Code} {hh : Nat} {D : va_G} {b : Nat} {aC : Nat → ClassId} {H0 : Heap} {N T : Nat} (X : fa_GX p s m args meth c prog_2_method_5_code 6 ((Option.some Jvm.ClassFile.FieldType.int)) y_Flow_lookAtSite.cls D b aC) (hle : 2 ≤ hh) (hN : fa_NX ≤ N) (hT : fa_TX ≤ T) (o : Nat) (a1 : Nat) (a2 : Int) (ho : (fa_sh o).1 = 1) (ha1 : (fa_sh a1).1 = 4) {r : Int × fa_W}  : ∀ (n : Nat) (x3 : Int) (x4 : Int) (x5 : Int) (w : fa_W), fm_Flow_lookAtSite_l20 o a1 a2 n x3 x4 x5 w = some r → fa_GJ p l e (fa_rm hh) s m args below meth c 0 0 (MQ below (fa_Qc D b aC H0 N T (some (.int (fa_I r.1))) r.2) args s 0 0 (fun q => b ≤ q)) D b aC H0 N T 6 w 20 [(0, .ref (b + o)), (1, .ref (b + a1)), (2, .int (fa_I a2)), (3, .int (fa_I x3)), (4, .int (fa_I x4)), (5, .int (fa_I x5))] [] := by
  intro n
  induction n with
  | zero => intro x3 x4 x5 w hM; exact fa_no hM
  | succ n ih =>
    intro x3 x4 x5 w hM
    rw [fm_Flow_lookAtSite_l20] at hM
    refine g_iload X 5 rfl d_Flow_lookAtSite_20 ?_
    refine g_aload_n X 1 rfl d_Flow_lookAtSite_22 ?_
    refine g_getN X ck_4 ha1 (fa_xn ha1 (by decide) hN) 14 (by decide) wd_100 rfl (fa_fvI rfl) d_Flow_lookAtSite_23 ?_
    refine g_icmp_ge X 105 d_Flow_lookAtSite_26 (by decide) (fun hc4 => ?_) (fun hc4 => ?_)
    · have hM := fa_if_t hM hc4
      refine g_iload_n X 3 rfl d_Flow_lookAtSite_105 ?_
      cases hM
      exact g_iret X d_Flow_lookAtSite_106
    · have hM := fa_if_f hM hc4
      refine g_iload X 4 rfl d_Flow_lookAtSite_29 ?_
      refine g_iload X 5 rfl d_Flow_lookAtSite_31 ?_
      refine g_callSN_i X mi_Face_hasBit (c_Face_hasBit hN hT x4 x5 w _ rfl) wd_530 rfl (Nat.le_trans (Nat.le_of_ble_eq_true rfl) hle) (st := []) (Nat.le_of_ble_eq_true rfl) rfl d_Flow_lookAtSite_33 ?_
      refine g_ifb_eq X 99 d_Flow_lookAtSite_36 (by decide) (fun hc6 => ?_) (fun hc6 => ?_)
      · have hM := fa_ifb_f hM hc6
        refine g_iinc X 5 (fun x5_7 => [(5, .int (fa_I x5_7)), (0, .ref (b + o)), (1, .ref (b + a1)), (2, .int (fa_I a2)), (3, .int (fa_I x3)), (4, .int (fa_I x4))]) d_Flow_lookAtSite_99 rfl (by decide) (fun _ => rfl) (fun x5_7 ex5_7 => ?_)
        have hM := fa_let_to hM ex5_7
        refine g_goto X 20 d_Flow_lookAtSite_102 (by decide) ?_
        exact g_lv [1, 2, 3, 4, 5, 0] rfl (ih _ _ _ _ hM)
      · have hM := fa_ifb_t hM hc6
        refine g_aload_n X 0 rfl d_Flow_lookAtSite_39 ?_
        refine g_get X ck_1 ho (fa_xn ho (by decide) hN) 6 (by decide) wd_344 rfl (fa_fvI rfl) d_Flow_lookAtSite_40 ?_
        refine g_iload X 5 rfl d_Flow_lookAtSite_43 ?_
        refine g_callSN_i X mi_Face_hasBit (c_Face_hasBit hN hT (w o 6) x5 w _ rfl) wd_530 rfl (Nat.le_trans (Nat.le_of_ble_eq_true rfl) hle) (st := []) (Nat.le_of_ble_eq_true rfl) rfl d_Flow_lookAtSite_45 ?_
        refine g_ifb_ne X 70 d_Flow_lookAtSite_48 (by decide) (fun hc9 => ?_) (fun hc9 => ?_)
        · have hM := fa_ifb_t hM hc9
          exact g_lv [0, 1, 2, 3, 4, 5] rfl (c_Flow_lookAtSite_j70 X hle hN hT o a1 a2 ho ha1  (fun x3 x4 x5 w9 => fm_Flow_lookAtSite_l20 o a1 a2 n x3 x4 x5 w9) (fun _ _ _ _ h => ih _ _ _ _ h)  _ _ _ _ hM)
        · have hM := fa_ifb_f hM hc9
          refine g_aload_n X 0 rfl d_Flow_lookAtSite_51 ?_
          refine g_dup X rfl d_Flow_lookAtSite_52 ?_
          refine g_get X ck_1 ho (fa_xn ho (by decide) hN) 6 (by decide) wd_344 rfl (fa_fvI rfl) d_Flow_lookAtSite_53 ?_
          refine g_iload X 5 rfl d_Flow_lookAtSite_56 ?_
          refine g_callSN_i X mi_Face_bit (c_Face_bit hN hT x5 w _ rfl) wd_543 rfl (Nat.le_trans (Nat.le_of_ble_eq_true rfl) hle) (st := [.int (fa_I (w o 6)), .ref (b + o)]) (Nat.le_of_ble_eq_true rfl) rfl d_Flow_lookAtSite_58 ?_
          refine g_ior X d_Flow_lookAtSite_61 ?_
          refine g_put X ck_1 ho (fa_xn ho (by decide) hN) 6 (z := (fa_ior (w o 6) (fm_Face_bit x5 w))) (by decide) wd_344 rfl (fa_fvI' rfl) rfl rfl rfl d_Flow_lookAtSite_62 (fun w18 ew18 => ?_)
          have hM := fa_let_to hM ew18
          refine g_aload_n X 0 rfl d_Flow_lookAtSite_65 ?_
          refine g_iconst X d_Flow_lookAtSite_66 ?_
          refine g_put X ck_1 ho (fa_xn ho (by decide) hN) 7 (z := (fa_bi true)) (by decide) wd_348 rfl (fa_fvB' rfl) rfl (fa_nb true).1 (fa_nb true).2 d_Flow_lookAtSite_67 (fun w19 ew19 => ?_)
          have hM := fa_let_to hM ew19
          exact g_lv [0, 1, 2, 3, 4, 5] rfl (c_Flow_lookAtSite_j70 X hle hN hT o a1 a2 ho ha1  (fun x3 x4 x5 w9 => fm_Flow_lookAtSite_l20 o a1 a2 n x3 x4 x5 w9) (fun _ _ _ _ h => ih _ _ _ _ h)  _ _ _ _ hM)
def fm_Flow_lookAtSite (o : Nat) (a1 : Nat) (a2 : Int) (w : fa_W) : Option (Int × fa_W) :=
  fa_let (fr_bits (fa_rf o 0) (fm_Program_part a1 a2 0 w) w) fun x4_3 =>
  fm_Flow_lookAtSite_l20 o a1 a2 fa_FU 0 x4_3 0 w
set_option maxHeartbeats 4000000 in
set_option maxRecDepth 100000 in
theorem c_Flow_lookAtSite {l : Launch} {D : va_G} {b : Nat} {aC : Nat → ClassId} {H0 : Heap} {N T : Nat} (hN : fa_NX ≤ N) (hT : fa_TX ≤ T) (o : Nat) (a1 : Nat) (a2 : Int) (ho : (fa_sh o).1 = 1) (ha1 : (fa_sh a1).1 = 4)  (w : fa_W) (r : Int × fa_W) (hM : fm_Flow_lookAtSite o a1 a2 w = some r) : fa_MC l D b aC H0 N T y_Flow_lookAtSite prog_2_method_5_code 6 ((Option.some Jvm.ClassFile.FieldType.int)) (2) [.ref (b + o), .ref (b + a1), .int (fa_I a2)] w (some (.int (fa_I r.1))) r.2 := by
  refine fa_enter (lv := [(0, .ref (b + o)), (1, .ref (b + a1)), (2, .int (fa_I a2))]) (by decide +kernel) (Nat.le_of_ble_eq_true rfl) rfl (fun hh hle hnm X => ?_)
  unfold fm_Flow_lookAtSite at hM
  refine g_iconst X d_Flow_lookAtSite_0 ?_
  refine g_istorec_n X [(3, .int (fa_I 0)), (0, .ref (b + o)), (1, .ref (b + a1)), (2, .int (fa_I a2))] d_Flow_lookAtSite_1 (by decide) rfl ?_
  refine g_aload_n X 1 rfl d_Flow_lookAtSite_2 ?_
  refine g_get X ck_1 ho (fa_xn ho (by decide) hN) 0 (by decide) wd_332 rfl (fa_fvR rfl (fa_xt ho (by decide) hT 0)) d_Flow_lookAtSite_3 ?_
  refine g_aload_n X 2 rfl d_Flow_lookAtSite_6 ?_
  refine g_iload_n X 3 rfl d_Flow_lookAtSite_7 ?_
  refine g_iconst X d_Flow_lookAtSite_8 ?_
  refine g_callV_i X ck_4 ha1 (fa_xn ha1 (by decide) hN) rfl mi_Program_part (c_Program_part hN hT a1 a2 0 ha1 w _ rfl) wd_546 rfl (Nat.le_trans (Nat.le_of_ble_eq_true rfl) hle) (st := [.ref (b + (fa_rf o 0))]) (Nat.le_of_ble_eq_true rfl) rfl d_Flow_lookAtSite_9 ?_
  refine g_callV_i X ck_6 (fa_r1_0 _ ho) (fa_xn (fa_r1_0 _ ho) (by decide) hN) rfl mi_Row_bits (ct_Row_bits (fa_rf o 0) (fm_Program_part a1 a2 0 w) (fa_ro (fa_r1_0 _ ho) hN hT) w _ rfl) wd_539 rfl (Nat.le_trans (Nat.le_of_ble_eq_true rfl) hle) (st := []) (Nat.le_of_ble_eq_true rfl) rfl d_Flow_lookAtSite_12 ?_
  refine g_istore X (fun x4_3 => [(4, .int (fa_I x4_3)), (3, .int (fa_I 0)), (0, .ref (b + o)), (1, .ref (b + a1)), (2, .int (fa_I a2))]) d_Flow_lookAtSite_15 (by decide) (fun _ => rfl) (fun x4_3 ex4_3 => ?_)
  have hM := fa_let_to hM ex4_3
  refine g_iconst X d_Flow_lookAtSite_17 ?_
  refine g_istorec X [(5, .int (fa_I 0)), (4, .int (fa_I x4_3)), (3, .int (fa_I 0)), (0, .ref (b + o)), (1, .ref (b + a1)), (2, .int (fa_I a2))] d_Flow_lookAtSite_18 (by decide) rfl ?_
  exact g_lv [3, 4, 5, 2, 1, 0] rfl (c_Flow_lookAtSite_l20 X hle hN hT o a1 a2 ho ha1   fa_FU _ _ _ _ hM)
theorem d_Flow_look_0 : decode prog_2_method_4_code 0 = .ok (.iconst 0, 1) := by decide +kernel
theorem d_Flow_look_1 : decode prog_2_method_4_code 1 = .ok (.istore_n 3, 1) := by decide +kernel
theorem d_Flow_look_2 : decode prog_2_method_4_code 2 = .ok (.aload_n 1, 1) := by decide +kernel
theorem d_Flow_look_3 : decode prog_2_method_4_code 3 = .ok (.iload_n 2, 1) := by decide +kernel
theorem d_Flow_look_4 : decode prog_2_method_4_code 4 = .ok (.invokevirtual 80, 3) := by decide +kernel
theorem d_Flow_look_7 : decode prog_2_method_4_code 7 = .ok (.tableswitch 163 2 9 #[45, 61, 163, 61, 83, 114, 163, 153], 45) := by decide +kernel
theorem d_Flow_look_52 : decode prog_2_method_4_code 52 = .ok (.aload_n 0, 1) := by decide +kernel
theorem d_Flow_look_53 : decode prog_2_method_4_code 53 = .ok (.getfield 20, 3) := by decide +kernel
theorem d_Flow_look_56 : decode prog_2_method_4_code 56 = .ok (.aload_n 1, 1) := by decide +kernel
theorem d_Flow_look_57 : decode prog_2_method_4_code 57 = .ok (.iload_n 2, 1) := by decide +kernel
theorem d_Flow_look_58 : decode prog_2_method_4_code 58 = .ok (.invokevirtual 83, 3) := by decide +kernel
theorem d_Flow_look_61 : decode prog_2_method_4_code 61 = .ok (.invokevirtual 86, 3) := by decide +kernel
theorem d_Flow_look_64 : decode prog_2_method_4_code 64 = .ok (.istore_n 3, 1) := by decide +kernel
theorem d_Flow_look_65 : decode prog_2_method_4_code 65 = .ok (.goto 105, 3) := by decide +kernel
theorem d_Flow_look_68 : decode prog_2_method_4_code 68 = .ok (.aload_n 1, 1) := by decide +kernel
theorem d_Flow_look_69 : decode prog_2_method_4_code 69 = .ok (.iload_n 2, 1) := by decide +kernel
theorem d_Flow_look_70 : decode prog_2_method_4_code 70 = .ok (.invokevirtual 83, 3) := by decide +kernel
theorem d_Flow_look_73 : decode prog_2_method_4_code 73 = .ok (.invokestatic 89, 3) := by decide +kernel
theorem d_Flow_look_76 : decode prog_2_method_4_code 76 = .ok (.istore_n 3, 1) := by decide +kernel
theorem d_Flow_look_77 : decode prog_2_method_4_code 77 = .ok (.aload_n 0, 1) := by decide +kernel
theorem d_Flow_look_78 : decode prog_2_method_4_code 78 = .ok (.dup, 1) := by decide +kernel
theorem d_Flow_look_79 : decode prog_2_method_4_code 79 = .ok (.getfield 32, 3) := by decide +kernel
theorem d_Flow_look_82 : decode prog_2_method_4_code 82 = .ok (.iload_n 3, 1) := by decide +kernel
theorem d_Flow_look_83 : decode prog_2_method_4_code 83 = .ok (.ior, 1) := by decide +kernel
theorem d_Flow_look_84 : decode prog_2_method_4_code 84 = .ok (.putfield 32, 3) := by decide +kernel
theorem d_Flow_look_87 : decode prog_2_method_4_code 87 = .ok (.goto 83, 3) := by decide +kernel
theorem d_Flow_look_90 : decode prog_2_method_4_code 90 = .ok (.aload_n 0, 1) := by decide +kernel
theorem d_Flow_look_91 : decode prog_2_method_4_code 91 = .ok (.getfield 14, 3) := by decide +kernel
theorem d_Flow_look_94 : decode prog_2_method_4_code 94 = .ok (.aload_n 1, 1) := by decide +kernel
theorem d_Flow_look_95 : decode prog_2_method_4_code 95 = .ok (.iload_n 2, 1) := by decide +kernel
theorem d_Flow_look_96 : decode prog_2_method_4_code 96 = .ok (.iconst 1, 1) := by decide +kernel
theorem d_Flow_look_97 : decode prog_2_method_4_code 97 = .ok (.invokevirtual 92, 3) := by decide +kernel
theorem d_Flow_look_100 : decode prog_2_method_4_code 100 = .ok (.invokevirtual 86, 3) := by decide +kernel
theorem d_Flow_look_103 : decode prog_2_method_4_code 103 = .ok (.aload_n 0, 1) := by decide +kernel
theorem d_Flow_look_104 : decode prog_2_method_4_code 104 = .ok (.getfield 14, 3) := by decide +kernel
theorem d_Flow_look_107 : decode prog_2_method_4_code 107 = .ok (.aload_n 1, 1) := by decide +kernel
theorem d_Flow_look_108 : decode prog_2_method_4_code 108 = .ok (.iload_n 2, 1) := by decide +kernel
theorem d_Flow_look_109 : decode prog_2_method_4_code 109 = .ok (.iconst 2, 1) := by decide +kernel
theorem d_Flow_look_110 : decode prog_2_method_4_code 110 = .ok (.invokevirtual 92, 3) := by decide +kernel
theorem d_Flow_look_113 : decode prog_2_method_4_code 113 = .ok (.invokevirtual 86, 3) := by decide +kernel
theorem d_Flow_look_116 : decode prog_2_method_4_code 116 = .ok (.ior, 1) := by decide +kernel
theorem d_Flow_look_117 : decode prog_2_method_4_code 117 = .ok (.istore_n 3, 1) := by decide +kernel
theorem d_Flow_look_118 : decode prog_2_method_4_code 118 = .ok (.goto 52, 3) := by decide +kernel
theorem d_Flow_look_121 : decode prog_2_method_4_code 121 = .ok (.aload_n 0, 1) := by decide +kernel
theorem d_Flow_look_122 : decode prog_2_method_4_code 122 = .ok (.aload_n 1, 1) := by decide +kernel
theorem d_Flow_look_123 : decode prog_2_method_4_code 123 = .ok (.iload_n 2, 1) := by decide +kernel
theorem d_Flow_look_124 : decode prog_2_method_4_code 124 = .ok (.invokevirtual 83, 3) := by decide +kernel
theorem d_Flow_look_127 : decode prog_2_method_4_code 127 = .ok (.aload_n 0, 1) := by decide +kernel
theorem d_Flow_look_128 : decode prog_2_method_4_code 128 = .ok (.getfield 14, 3) := by decide +kernel
theorem d_Flow_look_131 : decode prog_2_method_4_code 131 = .ok (.aload_n 1, 1) := by decide +kernel
theorem d_Flow_look_132 : decode prog_2_method_4_code 132 = .ok (.iload_n 2, 1) := by decide +kernel
theorem d_Flow_look_133 : decode prog_2_method_4_code 133 = .ok (.iconst 0, 1) := by decide +kernel
theorem d_Flow_look_134 : decode prog_2_method_4_code 134 = .ok (.invokevirtual 92, 3) := by decide +kernel
theorem d_Flow_look_137 : decode prog_2_method_4_code 137 = .ok (.invokevirtual 86, 3) := by decide +kernel
theorem d_Flow_look_140 : decode prog_2_method_4_code 140 = .ok (.invokevirtual 96, 3) := by decide +kernel
theorem d_Flow_look_143 : decode prog_2_method_4_code 143 = .ok (.aload_n 0, 1) := by decide +kernel
theorem d_Flow_look_144 : decode prog_2_method_4_code 144 = .ok (.getfield 14, 3) := by decide +kernel
theorem d_Flow_look_147 : decode prog_2_method_4_code 147 = .ok (.aload_n 1, 1) := by decide +kernel
theorem d_Flow_look_148 : decode prog_2_method_4_code 148 = .ok (.iload_n 2, 1) := by decide +kernel
theorem d_Flow_look_149 : decode prog_2_method_4_code 149 = .ok (.iconst 1, 1) := by decide +kernel
theorem d_Flow_look_150 : decode prog_2_method_4_code 150 = .ok (.invokevirtual 92, 3) := by decide +kernel
theorem d_Flow_look_153 : decode prog_2_method_4_code 153 = .ok (.invokevirtual 86, 3) := by decide +kernel
theorem d_Flow_look_156 : decode prog_2_method_4_code 156 = .ok (.istore_n 3, 1) := by decide +kernel
theorem d_Flow_look_157 : decode prog_2_method_4_code 157 = .ok (.goto 13, 3) := by decide +kernel
theorem d_Flow_look_160 : decode prog_2_method_4_code 160 = .ok (.aload_n 0, 1) := by decide +kernel
theorem d_Flow_look_161 : decode prog_2_method_4_code 161 = .ok (.aload_n 1, 1) := by decide +kernel
theorem d_Flow_look_162 : decode prog_2_method_4_code 162 = .ok (.iload_n 2, 1) := by decide +kernel
theorem d_Flow_look_163 : decode prog_2_method_4_code 163 = .ok (.invokevirtual 99, 3) := by decide +kernel
theorem d_Flow_look_166 : decode prog_2_method_4_code 166 = .ok (.istore_n 3, 1) := by decide +kernel
theorem d_Flow_look_167 : decode prog_2_method_4_code 167 = .ok (.goto 3, 3) := by decide +kernel
theorem d_Flow_look_170 : decode prog_2_method_4_code 170 = .ok (.iload_n 3, 1) := by decide +kernel
theorem d_Flow_look_171 : decode prog_2_method_4_code 171 = .ok (.aload_n 0, 1) := by decide +kernel
theorem d_Flow_look_172 : decode prog_2_method_4_code 172 = .ok (.getfield 14, 3) := by decide +kernel
theorem d_Flow_look_175 : decode prog_2_method_4_code 175 = .ok (.iload_n 2, 1) := by decide +kernel
theorem d_Flow_look_176 : decode prog_2_method_4_code 176 = .ok (.invokevirtual 86, 3) := by decide +kernel
theorem d_Flow_look_179 : decode prog_2_method_4_code 179 = .ok (.if_icmp .eq 17, 3) := by decide +kernel
theorem d_Flow_look_182 : decode prog_2_method_4_code 182 = .ok (.aload_n 0, 1) := by decide +kernel
theorem d_Flow_look_183 : decode prog_2_method_4_code 183 = .ok (.getfield 14, 3) := by decide +kernel
theorem d_Flow_look_186 : decode prog_2_method_4_code 186 = .ok (.iload_n 2, 1) := by decide +kernel
theorem d_Flow_look_187 : decode prog_2_method_4_code 187 = .ok (.iload_n 3, 1) := by decide +kernel
theorem d_Flow_look_188 : decode prog_2_method_4_code 188 = .ok (.invokevirtual 103, 3) := by decide +kernel
theorem d_Flow_look_191 : decode prog_2_method_4_code 191 = .ok (.aload_n 0, 1) := by decide +kernel
theorem d_Flow_look_192 : decode prog_2_method_4_code 192 = .ok (.iconst 1, 1) := by decide +kernel
theorem d_Flow_look_193 : decode prog_2_method_4_code 193 = .ok (.putfield 39, 3) := by decide +kernel
theorem d_Flow_look_196 : decode prog_2_method_4_code 196 = .ok (.return_, 1) := by decide +kernel
def fm_Flow_look_j170 (o : Nat) (a1 : Nat) (a2 : Int) (x3 : Int) (w : fa_W) : Option fa_W :=
  if fa_wr x3 = fa_wr (fr_bits (fa_rf o 0) a2 w) then
  some w
  else
  (fa_let (fr_set (fa_rf o 0) a2 x3 w) fun w9 =>
  fa_let (fa_st w9 o 7 (fa_bi true)) fun w10 =>
  some w10)
set_option maxHeartbeats 4000000 in
set_option maxRecDepth 100000 in
theorem c_Flow_look_j170 {p : Program} {l : Launch} {e : Env} {s : State} {m : MethodId} {args : Array Value} {below : List Frame} {meth : Method} {c : Code} {hh : Nat} {D : va_G} {b : Nat} {aC : Nat → ClassId} {H0 : Heap} {N T : Nat} (X : fa_GX p s m args meth c prog_2_method_4_code 4 ((Option.none : Option Jvm.ClassFile.FieldType)) y_Flow_look.cls D b aC) (hle : 3 ≤ hh) (hN : fa_NX ≤ N) (hT : fa_TX ≤ T) (o : Nat) (a1 : Nat) (a2 : Int) (ho : (fa_sh o).1 = 1) (ha1 : (fa_sh a1).1 = 4) {r : fa_W}  : ∀ (x3 : Int) (w : fa_W) (_ : fm_Flow_look_j170 o a1 a2 x3 w = some r), fa_GJ p l e (fa_rm hh) s m args below meth c 0 0 (MQ below (fa_Qc D b aC H0 N T (none) r) args s 0 0 (fun q => b ≤ q)) D b aC H0 N T 4 w 170 [(0, .ref (b + o)), (2, .int (fa_I a2)), (3, .int (fa_I x3))] [] := by
  intro x3 w hM
  unfold fm_Flow_look_j170 at hM
  refine g_iload_n X 2 rfl d_Flow_look_170 ?_
  refine g_aload_n X 0 rfl d_Flow_look_171 ?_
  refine g_get X ck_1 ho (fa_xn ho (by decide) hN) 0 (by decide) wd_332 rfl (fa_fvR rfl (fa_xt ho (by decide) hT 0)) d_Flow_look_172 ?_
  refine g_iload_n X 1 rfl d_Flow_look_175 ?_
  refine g_callV_i X ck_6 (fa_r1_0 _ ho) (fa_xn (fa_r1_0 _ ho) (by decide) hN) rfl mi_Row_bits (ct_Row_bits (fa_rf o 0) a2 (fa_ro (fa_r1_0 _ ho) hN hT) w _ rfl) wd_539 rfl (Nat.le_trans (Nat.le_of_ble_eq_true rfl) hle) (st := [.int (fa_I x3)]) (Nat.le_of_ble_eq_true rfl) rfl d_Flow_look_176 ?_
  refine g_icmp_eq X 196 d_Flow_look_179 (by decide) (fun hc7 => ?_) (fun hc7 => ?_)
  · have hM := fa_if_t hM hc7
    cases hM
    exact g_vret X d_Flow_look_196
  · have hM := fa_if_f hM hc7
    refine g_aload_n X 0 rfl d_Flow_look_182 ?_
    refine g_get X ck_1 ho (fa_xn ho (by decide) hN) 0 (by decide) wd_332 rfl (fa_fvR rfl (fa_xt ho (by decide) hT 0)) d_Flow_look_183 ?_
    refine g_iload_n X 1 rfl d_Flow_look_186 ?_
    refine g_iload_n X 2 rfl d_Flow_look_187 ?_
    obtain ⟨w9, e8⟩ : ∃ q, fr_set (fa_rf o 0) a2 x3 w = q := ⟨_, rfl⟩
    have hM := fa_let_to hM e8.symm
    refine g_callV_v X ck_6 (fa_r1_0 _ ho) (fa_xn (fa_r1_0 _ ho) (by decide) hN) rfl mi_Row_set (ct_Row_set (fa_rf o 0) a2 x3 (fa_ro (fa_r1_0 _ ho) hN hT) w _ e8) wd_551 rfl (Nat.le_trans (Nat.le_of_ble_eq_true rfl) hle) (st := []) (Nat.le_of_ble_eq_true rfl) rfl d_Flow_look_188 ?_
    refine g_aload_n X 0 rfl d_Flow_look_191 ?_
    refine g_iconst X d_Flow_look_192 ?_
    refine g_put X ck_1 ho (fa_xn ho (by decide) hN) 7 (z := (fa_bi true)) (by decide) wd_348 rfl (fa_fvB' rfl) rfl (fa_nb true).1 (fa_nb true).2 d_Flow_look_193 (fun w10 ew10 => ?_)
    have hM := fa_let_to hM ew10
    cases hM
    exact g_vret X d_Flow_look_196
def fm_Flow_look (o : Nat) (a1 : Nat) (a2 : Int) (w : fa_W) : Option fa_W :=
  if fa_wr (fm_Program_kind a1 a2 w) = 2 then
  (fa_let (fr_bits (fa_rf o 1) (fm_Program_value a1 a2 w) w) fun x3_5 =>
  fm_Flow_look_j170 o a1 a2 x3_5 w)
  else
  if fa_wr (fm_Program_kind a1 a2 w) = 3 then
  (fa_let (fm_Face_bit (fm_Program_value a1 a2 w) w) fun x3_14 =>
  fa_let (fa_st w o 5 (fa_ior (w o 5) x3_14)) fun w15 =>
  fm_Flow_look_j170 o a1 a2 x3_14 w15)
  else
  if fa_wr (fm_Program_kind a1 a2 w) = 5 then
  (fa_let (fm_Face_bit (fm_Program_value a1 a2 w) w) fun x3_19 =>
  fa_let (fa_st w o 5 (fa_ior (w o 5) x3_19)) fun w20 =>
  fm_Flow_look_j170 o a1 a2 x3_19 w20)
  else
  if fa_wr (fm_Program_kind a1 a2 w) = 6 then
  (fa_let (fa_ior (fr_bits (fa_rf o 0) (fm_Program_part a1 a2 1 w) w) (fr_bits (fa_rf o 0) (fm_Program_part a1 a2 2 w) w)) fun x3_26 =>
  fm_Flow_look_j170 o a1 a2 x3_26 w)
  else
  if fa_wr (fm_Program_kind a1 a2 w) = 7 then
  (fa_let (fm_Flow_hold o (fm_Program_value a1 a2 w) (fr_bits (fa_rf o 0) (fm_Program_part a1 a2 0 w) w) w) fun w32 =>
  fa_let (fr_bits (fa_rf o 0) (fm_Program_part a1 a2 1 w32) w32) fun x3_35 =>
  fm_Flow_look_j170 o a1 a2 x3_35 w32)
  else
  if fa_wr (fm_Program_kind a1 a2 w) = 9 then
  (fa_bd (fm_Flow_lookAtSite o a1 a2 w) fun v38 w39 =>
  fm_Flow_look_j170 o a1 a2 v38 w39)
  else
  fm_Flow_look_j170 o a1 a2 0 w
set_option maxHeartbeats 4000000 in
set_option maxRecDepth 100000 in
theorem c_Flow_look {l : Launch} {D : va_G} {b : Nat} {aC : Nat → ClassId} {H0 : Heap} {N T : Nat} (hN : fa_NX ≤ N) (hT : fa_TX ≤ T) (o : Nat) (a1 : Nat) (a2 : Int) (ho : (fa_sh o).1 = 1) (ha1 : (fa_sh a1).1 = 4)  (w : fa_W) (r : fa_W) (hM : fm_Flow_look o a1 a2 w = some r) : fa_MC l D b aC H0 N T y_Flow_look prog_2_method_4_code 4 ((Option.none : Option Jvm.ClassFile.FieldType)) (3) [.ref (b + o), .ref (b + a1), .int (fa_I a2)] w (none) r := by
  refine fa_enter (lv := [(0, .ref (b + o)), (1, .ref (b + a1)), (2, .int (fa_I a2))]) (by decide +kernel) (Nat.le_of_ble_eq_true rfl) rfl (fun hh hle hnm X => ?_)
  unfold fm_Flow_look at hM
  refine g_iconst X d_Flow_look_0 ?_
  refine g_istorec_n X [(3, .int (fa_I 0)), (0, .ref (b + o)), (1, .ref (b + a1)), (2, .int (fa_I a2))] d_Flow_look_1 (by decide) rfl ?_
  refine g_aload_n X 2 rfl d_Flow_look_2 ?_
  refine g_iload_n X 3 rfl d_Flow_look_3 ?_
  refine g_callV_i X ck_4 ha1 (fa_xn ha1 (by decide) hN) rfl mi_Program_kind (c_Program_kind hN hT a1 a2 ha1 w _ rfl) wd_537 rfl (Nat.le_trans (Nat.le_of_ble_eq_true rfl) hle) (st := []) (Nat.le_of_ble_eq_true rfl) rfl d_Flow_look_4 ?_
  by_cases hc2 : fa_wr (fm_Program_kind a1 a2 w) = 2
  · have hM := fa_if_t hM hc2
    refine g_tableIn X 2 52 d_Flow_look_7 hc2 (by decide) (by decide) rfl (by decide) ?_
    refine g_aload_n X 1 rfl d_Flow_look_52 ?_
    refine g_get X ck_1 ho (fa_xn ho (by decide) hN) 1 (by decide) wd_334 rfl (fa_fvR rfl (fa_xt ho (by decide) hT 1)) d_Flow_look_53 ?_
    refine g_aload_n X 2 rfl d_Flow_look_56 ?_
    refine g_iload_n X 3 rfl d_Flow_look_57 ?_
    refine g_callV_i X ck_4 ha1 (fa_xn ha1 (by decide) hN) rfl mi_Program_value (c_Program_value hN hT a1 a2 ha1 w _ rfl) wd_538 rfl (Nat.le_trans (Nat.le_of_ble_eq_true rfl) hle) (st := [.ref (b + (fa_rf o 1))]) (Nat.le_of_ble_eq_true rfl) rfl d_Flow_look_58 ?_
    refine g_callV_i X ck_6 (fa_r1_1 _ ho) (fa_xn (fa_r1_1 _ ho) (by decide) hN) rfl mi_Row_bits (ct_Row_bits (fa_rf o 1) (fm_Program_value a1 a2 w) (fa_ro (fa_r1_1 _ ho) hN hT) w _ rfl) wd_539 rfl (Nat.le_trans (Nat.le_of_ble_eq_true rfl) hle) (st := []) (Nat.le_of_ble_eq_true rfl) rfl d_Flow_look_61 ?_
    refine g_istore_n X (fun x3_5 => [(3, .int (fa_I x3_5)), (0, .ref (b + o)), (1, .ref (b + a1)), (2, .int (fa_I a2))]) d_Flow_look_64 (by decide) (fun _ => rfl) (fun x3_5 ex3_5 => ?_)
    have hM := fa_let_to hM ex3_5
    refine g_goto X 170 d_Flow_look_65 (by decide) ?_
    exact g_lv [1, 3, 0] rfl (c_Flow_look_j170 X hle hN hT o a1 a2 ho ha1    _ _ hM)
  have hM := fa_if_f hM hc2
  by_cases hc11 : fa_wr (fm_Program_kind a1 a2 w) = 3
  · have hM := fa_if_t hM hc11
    refine g_tableIn X 3 68 d_Flow_look_7 hc11 (by decide) (by decide) rfl (by decide) ?_
    refine g_aload_n X 2 rfl d_Flow_look_68 ?_
    refine g_iload_n X 3 rfl d_Flow_look_69 ?_
    refine g_callV_i X ck_4 ha1 (fa_xn ha1 (by decide) hN) rfl mi_Program_value (c_Program_value hN hT a1 a2 ha1 w _ rfl) wd_538 rfl (Nat.le_trans (Nat.le_of_ble_eq_true rfl) hle) (st := []) (Nat.le_of_ble_eq_true rfl) rfl d_Flow_look_70 ?_
    refine g_callSN_i X mi_Face_bit (c_Face_bit hN hT (fm_Program_value a1 a2 w) w _ rfl) wd_543 rfl (Nat.le_trans (Nat.le_of_ble_eq_true rfl) hle) (st := []) (Nat.le_of_ble_eq_true rfl) rfl d_Flow_look_73 ?_
    refine g_istore_n X (fun x3_14 => [(3, .int (fa_I x3_14)), (0, .ref (b + o)), (1, .ref (b + a1)), (2, .int (fa_I a2))]) d_Flow_look_76 (by decide) (fun _ => rfl) (fun x3_14 ex3_14 => ?_)
    have hM := fa_let_to hM ex3_14
    refine g_aload_n X 1 rfl d_Flow_look_77 ?_
    refine g_dup X rfl d_Flow_look_78 ?_
    refine g_get X ck_1 ho (fa_xn ho (by decide) hN) 5 (by decide) wd_341 rfl (fa_fvI rfl) d_Flow_look_79 ?_
    refine g_iload_n X 0 rfl d_Flow_look_82 ?_
    refine g_ior X d_Flow_look_83 ?_
    refine g_put X ck_1 ho (fa_xn ho (by decide) hN) 5 (z := (fa_ior (w o 5) x3_14)) (by decide) wd_341 rfl (fa_fvI' rfl) rfl rfl rfl d_Flow_look_84 (fun w15 ew15 => ?_)
    have hM := fa_let_to hM ew15
    refine g_goto X 170 d_Flow_look_87 (by decide) ?_
    exact g_lv [1, 3, 0] rfl (c_Flow_look_j170 X hle hN hT o a1 a2 ho ha1    _ _ hM)
  have hM := fa_if_f hM hc11
  by_cases hc16 : fa_wr (fm_Program_kind a1 a2 w) = 5
  · have hM := fa_if_t hM hc16
    refine g_tableIn X 5 68 d_Flow_look_7 hc16 (by decide) (by decide) rfl (by decide) ?_
    refine g_aload_n X 2 rfl d_Flow_look_68 ?_
    refine g_iload_n X 3 rfl d_Flow_look_69 ?_
    refine g_callV_i X ck_4 ha1 (fa_xn ha1 (by decide) hN) rfl mi_Program_value (c_Program_value hN hT a1 a2 ha1 w _ rfl) wd_538 rfl (Nat.le_trans (Nat.le_of_ble_eq_true rfl) hle) (st := []) (Nat.le_of_ble_eq_true rfl) rfl d_Flow_look_70 ?_
    refine g_callSN_i X mi_Face_bit (c_Face_bit hN hT (fm_Program_value a1 a2 w) w _ rfl) wd_543 rfl (Nat.le_trans (Nat.le_of_ble_eq_true rfl) hle) (st := []) (Nat.le_of_ble_eq_true rfl) rfl d_Flow_look_73 ?_
    refine g_istore_n X (fun x3_19 => [(3, .int (fa_I x3_19)), (0, .ref (b + o)), (1, .ref (b + a1)), (2, .int (fa_I a2))]) d_Flow_look_76 (by decide) (fun _ => rfl) (fun x3_19 ex3_19 => ?_)
    have hM := fa_let_to hM ex3_19
    refine g_aload_n X 1 rfl d_Flow_look_77 ?_
    refine g_dup X rfl d_Flow_look_78 ?_
    refine g_get X ck_1 ho (fa_xn ho (by decide) hN) 5 (by decide) wd_341 rfl (fa_fvI rfl) d_Flow_look_79 ?_
    refine g_iload_n X 0 rfl d_Flow_look_82 ?_
    refine g_ior X d_Flow_look_83 ?_
    refine g_put X ck_1 ho (fa_xn ho (by decide) hN) 5 (z := (fa_ior (w o 5) x3_19)) (by decide) wd_341 rfl (fa_fvI' rfl) rfl rfl rfl d_Flow_look_84 (fun w20 ew20 => ?_)
    have hM := fa_let_to hM ew20
    refine g_goto X 170 d_Flow_look_87 (by decide) ?_
    exact g_lv [1, 3, 0] rfl (c_Flow_look_j170 X hle hN hT o a1 a2 ho ha1    _ _ hM)
  have hM := fa_if_f hM hc16
  by_cases hc21 : fa_wr (fm_Program_kind a1 a2 w) = 6
  · have hM := fa_if_t hM hc21
    refine g_tableIn X 6 90 d_Flow_look_7 hc21 (by decide) (by decide) rfl (by decide) ?_
    refine g_aload_n X 1 rfl d_Flow_look_90 ?_
    refine g_get X ck_1 ho (fa_xn ho (by decide) hN) 0 (by decide) wd_332 rfl (fa_fvR rfl (fa_xt ho (by decide) hT 0)) d_Flow_look_91 ?_
    refine g_aload_n X 2 rfl d_Flow_look_94 ?_
    refine g_iload_n X 3 rfl d_Flow_look_95 ?_
    refine g_iconst X d_Flow_look_96 ?_
    refine g_callV_i X ck_4 ha1 (fa_xn ha1 (by decide) hN) rfl mi_Program_part (c_Program_part hN hT a1 a2 1 ha1 w _ rfl) wd_546 rfl (Nat.le_trans (Nat.le_of_ble_eq_true rfl) hle) (st := [.ref (b + (fa_rf o 0))]) (Nat.le_of_ble_eq_true rfl) rfl d_Flow_look_97 ?_
    refine g_callV_i X ck_6 (fa_r1_0 _ ho) (fa_xn (fa_r1_0 _ ho) (by decide) hN) rfl mi_Row_bits (ct_Row_bits (fa_rf o 0) (fm_Program_part a1 a2 1 w) (fa_ro (fa_r1_0 _ ho) hN hT) w _ rfl) wd_539 rfl (Nat.le_trans (Nat.le_of_ble_eq_true rfl) hle) (st := []) (Nat.le_of_ble_eq_true rfl) rfl d_Flow_look_100 ?_
    refine g_aload_n X 1 rfl d_Flow_look_103 ?_
    refine g_get X ck_1 ho (fa_xn ho (by decide) hN) 0 (by decide) wd_332 rfl (fa_fvR rfl (fa_xt ho (by decide) hT 0)) d_Flow_look_104 ?_
    refine g_aload_n X 2 rfl d_Flow_look_107 ?_
    refine g_iload_n X 3 rfl d_Flow_look_108 ?_
    refine g_iconst X d_Flow_look_109 ?_
    refine g_callV_i X ck_4 ha1 (fa_xn ha1 (by decide) hN) rfl mi_Program_part (c_Program_part hN hT a1 a2 2 ha1 w _ rfl) wd_546 rfl (Nat.le_trans (Nat.le_of_ble_eq_true rfl) hle) (st := [.ref (b + (fa_rf o 0)), .int (fa_I (fr_bits (fa_rf o 0) (fm_Program_part a1 a2 1 w) w))]) (Nat.le_of_ble_eq_true rfl) rfl d_Flow_look_110 ?_
    refine g_callV_i X ck_6 (fa_r1_0 _ ho) (fa_xn (fa_r1_0 _ ho) (by decide) hN) rfl mi_Row_bits (ct_Row_bits (fa_rf o 0) (fm_Program_part a1 a2 2 w) (fa_ro (fa_r1_0 _ ho) hN hT) w _ rfl) wd_539 rfl (Nat.le_trans (Nat.le_of_ble_eq_true rfl) hle) (st := [.int (fa_I (fr_bits (fa_rf o 0) (fm_Program_part a1 a2 1 w) w))]) (Nat.le_of_ble_eq_true rfl) rfl d_Flow_look_113 ?_
    refine g_ior X d_Flow_look_116 ?_
    refine g_istore_n X (fun x3_26 => [(3, .int (fa_I x3_26)), (0, .ref (b + o)), (1, .ref (b + a1)), (2, .int (fa_I a2))]) d_Flow_look_117 (by decide) (fun _ => rfl) (fun x3_26 ex3_26 => ?_)
    have hM := fa_let_to hM ex3_26
    refine g_goto X 170 d_Flow_look_118 (by decide) ?_
    exact g_lv [1, 3, 0] rfl (c_Flow_look_j170 X hle hN hT o a1 a2 ho ha1    _ _ hM)
  have hM := fa_if_f hM hc21
  by_cases hc27 : fa_wr (fm_Program_kind a1 a2 w) = 7
  · have hM := fa_if_t hM hc27
    refine g_tableIn X 7 121 d_Flow_look_7 hc27 (by decide) (by decide) rfl (by decide) ?_
    refine g_aload_n X 1 rfl d_Flow_look_121 ?_
    refine g_aload_n X 2 rfl d_Flow_look_122 ?_
    refine g_iload_n X 3 rfl d_Flow_look_123 ?_
    refine g_callV_i X ck_4 ha1 (fa_xn ha1 (by decide) hN) rfl mi_Program_value (c_Program_value hN hT a1 a2 ha1 w _ rfl) wd_538 rfl (Nat.le_trans (Nat.le_of_ble_eq_true rfl) hle) (st := [.ref (b + o)]) (Nat.le_of_ble_eq_true rfl) rfl d_Flow_look_124 ?_
    refine g_aload_n X 1 rfl d_Flow_look_127 ?_
    refine g_get X ck_1 ho (fa_xn ho (by decide) hN) 0 (by decide) wd_332 rfl (fa_fvR rfl (fa_xt ho (by decide) hT 0)) d_Flow_look_128 ?_
    refine g_aload_n X 2 rfl d_Flow_look_131 ?_
    refine g_iload_n X 3 rfl d_Flow_look_132 ?_
    refine g_iconst X d_Flow_look_133 ?_
    refine g_callV_i X ck_4 ha1 (fa_xn ha1 (by decide) hN) rfl mi_Program_part (c_Program_part hN hT a1 a2 0 ha1 w _ rfl) wd_546 rfl (Nat.le_trans (Nat.le_of_ble_eq_true rfl) hle) (st := [.ref (b + (fa_rf o 0)), .int (fa_I (fm_Program_value a1 a2 w)), .ref (b + o)]) (Nat.le_of_ble_eq_true rfl) rfl d_Flow_look_134 ?_
    refine g_callV_i X ck_6 (fa_r1_0 _ ho) (fa_xn (fa_r1_0 _ ho) (by decide) hN) rfl mi_Row_bits (ct_Row_bits (fa_rf o 0) (fm_Program_part a1 a2 0 w) (fa_ro (fa_r1_0 _ ho) hN hT) w _ rfl) wd_539 rfl (Nat.le_trans (Nat.le_of_ble_eq_true rfl) hle) (st := [.int (fa_I (fm_Program_value a1 a2 w)), .ref (b + o)]) (Nat.le_of_ble_eq_true rfl) rfl d_Flow_look_137 ?_
    obtain ⟨w32, e31⟩ : ∃ q, fm_Flow_hold o (fm_Program_value a1 a2 w) (fr_bits (fa_rf o 0) (fm_Program_part a1 a2 0 w) w) w = q := ⟨_, rfl⟩
    have hM := fa_let_to hM e31.symm
    refine g_callV_v X ck_1 ho (fa_xn ho (by decide) hN) rfl mi_Flow_hold (c_Flow_hold hN hT o (fm_Program_value a1 a2 w) (fr_bits (fa_rf o 0) (fm_Program_part a1 a2 0 w) w) ho w _ e31) wd_547 rfl (Nat.le_trans (Nat.le_of_ble_eq_true rfl) hle) (st := []) (Nat.le_of_ble_eq_true rfl) rfl d_Flow_look_140 ?_
    refine g_aload_n X 1 rfl d_Flow_look_143 ?_
    refine g_get X ck_1 ho (fa_xn ho (by decide) hN) 0 (by decide) wd_332 rfl (fa_fvR rfl (fa_xt ho (by decide) hT 0)) d_Flow_look_144 ?_
    refine g_aload_n X 2 rfl d_Flow_look_147 ?_
    refine g_iload_n X 3 rfl d_Flow_look_148 ?_
    refine g_iconst X d_Flow_look_149 ?_
    refine g_callV_i X ck_4 ha1 (fa_xn ha1 (by decide) hN) rfl mi_Program_part (c_Program_part hN hT a1 a2 1 ha1 w32 _ rfl) wd_546 rfl (Nat.le_trans (Nat.le_of_ble_eq_true rfl) hle) (st := [.ref (b + (fa_rf o 0))]) (Nat.le_of_ble_eq_true rfl) rfl d_Flow_look_150 ?_
    refine g_callV_i X ck_6 (fa_r1_0 _ ho) (fa_xn (fa_r1_0 _ ho) (by decide) hN) rfl mi_Row_bits (ct_Row_bits (fa_rf o 0) (fm_Program_part a1 a2 1 w32) (fa_ro (fa_r1_0 _ ho) hN hT) w32 _ rfl) wd_539 rfl (Nat.le_trans (Nat.le_of_ble_eq_true rfl) hle) (st := []) (Nat.le_of_ble_eq_true rfl) rfl d_Flow_look_153 ?_
    refine g_istore_n X (fun x3_35 => [(3, .int (fa_I x3_35)), (0, .ref (b + o)), (1, .ref (b + a1)), (2, .int (fa_I a2))]) d_Flow_look_156 (by decide) (fun _ => rfl) (fun x3_35 ex3_35 => ?_)
    have hM := fa_let_to hM ex3_35
    refine g_goto X 170 d_Flow_look_157 (by decide) ?_
    exact g_lv [1, 3, 0] rfl (c_Flow_look_j170 X hle hN hT o a1 a2 ho ha1    _ _ hM)
  have hM := fa_if_f hM hc27
  by_cases hc36 : fa_wr (fm_Program_kind a1 a2 w) = 9
  · have hM := fa_if_t hM hc36
    refine g_tableIn X 9 160 d_Flow_look_7 hc36 (by decide) (by decide) rfl (by decide) ?_
    refine g_aload_n X 1 rfl d_Flow_look_160 ?_
    refine g_aload_n X 2 rfl d_Flow_look_161 ?_
    refine g_iload_n X 3 rfl d_Flow_look_162 ?_
    obtain ⟨v38, w39, e37, hM⟩ := fa_obd hM
    refine g_callV_i X ck_1 ho (fa_xn ho (by decide) hN) rfl mi_Flow_lookAtSite (c_Flow_lookAtSite hN hT o a1 a2 ho ha1 w _ e37) wd_552 rfl (Nat.le_trans (Nat.le_of_ble_eq_true rfl) hle) (st := []) (Nat.le_of_ble_eq_true rfl) rfl d_Flow_look_163 ?_
    refine g_istorec_n X [(3, .int (fa_I v38)), (0, .ref (b + o)), (1, .ref (b + a1)), (2, .int (fa_I a2))] d_Flow_look_166 (by decide) rfl ?_
    refine g_goto X 170 d_Flow_look_167 (by decide) ?_
    exact g_lv [1, 3, 0] rfl (c_Flow_look_j170 X hle hN hT o a1 a2 ho ha1    _ _ hM)
  have hM := fa_if_f hM hc36
  refine g_tableDef X 170 d_Flow_look_7 (by
    by_cases h9 : fa_wr (fm_Program_kind a1 a2 w) = 4
    · rw [h9]; exact Or.inr ⟨by decide, by decide, _, rfl, by decide⟩
    by_cases h9 : fa_wr (fm_Program_kind a1 a2 w) = 8
    · rw [h9]; exact Or.inr ⟨by decide, by decide, _, rfl, by decide⟩
    exact Or.inl (by omega)) (by decide) ?_
  exact g_lv [1, 3, 0] rfl (c_Flow_look_j170 X hle hN hT o a1 a2 ho ha1    _ _ hM)
theorem d_Flow_applied_0 : decode prog_2_method_7_code 0 = .ok (.aload_n 0, 1) := by decide +kernel
theorem d_Flow_applied_1 : decode prog_2_method_7_code 1 = .ok (.getfield 14, 3) := by decide +kernel
theorem d_Flow_applied_4 : decode prog_2_method_7_code 4 = .ok (.aload_n 1, 1) := by decide +kernel
theorem d_Flow_applied_5 : decode prog_2_method_7_code 5 = .ok (.iload_n 2, 1) := by decide +kernel
theorem d_Flow_applied_6 : decode prog_2_method_7_code 6 = .ok (.iconst 0, 1) := by decide +kernel
theorem d_Flow_applied_7 : decode prog_2_method_7_code 7 = .ok (.invokevirtual 92, 3) := by decide +kernel
theorem d_Flow_applied_10 : decode prog_2_method_7_code 10 = .ok (.invokevirtual 86, 3) := by decide +kernel
theorem d_Flow_applied_13 : decode prog_2_method_7_code 13 = .ok (.ireturn, 1) := by decide +kernel
def fm_Flow_applied (o : Nat) (a1 : Nat) (a2 : Int) (w : fa_W) : Int :=
  fr_bits (fa_rf o 0) (fm_Program_part a1 a2 0 w) w
set_option maxHeartbeats 4000000 in
set_option maxRecDepth 100000 in
theorem c_Flow_applied {l : Launch} {D : va_G} {b : Nat} {aC : Nat → ClassId} {H0 : Heap} {N T : Nat} (hN : fa_NX ≤ N) (hT : fa_TX ≤ T) (o : Nat) (a1 : Nat) (a2 : Int) (ho : (fa_sh o).1 = 1) (ha1 : (fa_sh a1).1 = 4)  (w : fa_W) (r : Int) (hM : fm_Flow_applied o a1 a2 w = r) : fa_MC l D b aC H0 N T y_Flow_applied prog_2_method_7_code 3 ((Option.some Jvm.ClassFile.FieldType.int)) (2) [.ref (b + o), .ref (b + a1), .int (fa_I a2)] w (some (.int (fa_I r))) w := by
  refine fa_enter (lv := [(0, .ref (b + o)), (1, .ref (b + a1)), (2, .int (fa_I a2))]) (by decide +kernel) (Nat.le_of_ble_eq_true rfl) rfl (fun hh hle hnm X => ?_)
  unfold fm_Flow_applied at hM
  refine g_aload_n X 0 rfl d_Flow_applied_0 ?_
  refine g_get X ck_1 ho (fa_xn ho (by decide) hN) 0 (by decide) wd_332 rfl (fa_fvR rfl (fa_xt ho (by decide) hT 0)) d_Flow_applied_1 ?_
  refine g_aload_n X 1 rfl d_Flow_applied_4 ?_
  refine g_iload_n X 2 rfl d_Flow_applied_5 ?_
  refine g_iconst X d_Flow_applied_6 ?_
  refine g_callV_i X ck_4 ha1 (fa_xn ha1 (by decide) hN) rfl mi_Program_part (c_Program_part hN hT a1 a2 0 ha1 w _ rfl) wd_546 rfl (Nat.le_trans (Nat.le_of_ble_eq_true rfl) hle) (st := [.ref (b + (fa_rf o 0))]) (Nat.le_of_ble_eq_true rfl) rfl d_Flow_applied_7 ?_
  refine g_callV_i X ck_6 (fa_r1_0 _ ho) (fa_xn (fa_r1_0 _ ho) (by decide) hN) rfl mi_Row_bits (ct_Row_bits (fa_rf o 0) (fm_Program_part a1 a2 0 w) (fa_ro (fa_r1_0 _ ho) hN hT) w _ rfl) wd_539 rfl (Nat.le_trans (Nat.le_of_ble_eq_true rfl) hle) (st := []) (Nat.le_of_ble_eq_true rfl) rfl d_Flow_applied_10 ?_
  subst hM
  exact g_iret X d_Flow_applied_13
theorem d_Flow_listCalls_0 : decode prog_2_method_10_code 0 = .ok (.aload_n 0, 1) := by decide +kernel
theorem d_Flow_listCalls_1 : decode prog_2_method_10_code 1 = .ok (.getfield 23, 3) := by decide +kernel
theorem d_Flow_listCalls_4 : decode prog_2_method_10_code 4 = .ok (.aload_n 1, 1) := by decide +kernel
theorem d_Flow_listCalls_5 : decode prog_2_method_10_code 5 = .ok (.getfield 106, 3) := by decide +kernel
theorem d_Flow_listCalls_8 : decode prog_2_method_10_code 8 = .ok (.iconst 0, 1) := by decide +kernel
theorem d_Flow_listCalls_9 : decode prog_2_method_10_code 9 = .ok (.invokevirtual 49, 3) := by decide +kernel
theorem d_Flow_listCalls_12 : decode prog_2_method_10_code 12 = .ok (.iconst 0, 1) := by decide +kernel
theorem d_Flow_listCalls_13 : decode prog_2_method_10_code 13 = .ok (.istore_n 2, 1) := by decide +kernel
theorem d_Flow_listCalls_14 : decode prog_2_method_10_code 14 = .ok (.iload_n 2, 1) := by decide +kernel
theorem d_Flow_listCalls_15 : decode prog_2_method_10_code 15 = .ok (.aload_n 1, 1) := by decide +kernel
theorem d_Flow_listCalls_16 : decode prog_2_method_10_code 16 = .ok (.getfield 121, 3) := by decide +kernel
theorem d_Flow_listCalls_19 : decode prog_2_method_10_code 19 = .ok (.if_icmp .ge 50, 3) := by decide +kernel
theorem d_Flow_listCalls_22 : decode prog_2_method_10_code 22 = .ok (.aload_n 1, 1) := by decide +kernel
theorem d_Flow_listCalls_23 : decode prog_2_method_10_code 23 = .ok (.getfield 124, 3) := by decide +kernel
theorem d_Flow_listCalls_26 : decode prog_2_method_10_code 26 = .ok (.iload_n 2, 1) := by decide +kernel
theorem d_Flow_listCalls_27 : decode prog_2_method_10_code 27 = .ok (.invokevirtual 115, 3) := by decide +kernel
theorem d_Flow_listCalls_30 : decode prog_2_method_10_code 30 = .ok (.istore_n 3, 1) := by decide +kernel
theorem d_Flow_listCalls_31 : decode prog_2_method_10_code 31 = .ok (.aload_n 1, 1) := by decide +kernel
theorem d_Flow_listCalls_32 : decode prog_2_method_10_code 32 = .ok (.iload_n 3, 1) := by decide +kernel
theorem d_Flow_listCalls_33 : decode prog_2_method_10_code 33 = .ok (.invokevirtual 54, 3) := by decide +kernel
theorem d_Flow_listCalls_36 : decode prog_2_method_10_code 36 = .ok (.istore 4, 2) := by decide +kernel
theorem d_Flow_listCalls_38 : decode prog_2_method_10_code 38 = .ok (.aload_n 0, 1) := by decide +kernel
theorem d_Flow_listCalls_39 : decode prog_2_method_10_code 39 = .ok (.getfield 23, 3) := by decide +kernel
theorem d_Flow_listCalls_42 : decode prog_2_method_10_code 42 = .ok (.iload 4, 2) := by decide +kernel
theorem d_Flow_listCalls_44 : decode prog_2_method_10_code 44 = .ok (.aload_n 0, 1) := by decide +kernel
theorem d_Flow_listCalls_45 : decode prog_2_method_10_code 45 = .ok (.getfield 23, 3) := by decide +kernel
theorem d_Flow_listCalls_48 : decode prog_2_method_10_code 48 = .ok (.iload 4, 2) := by decide +kernel
theorem d_Flow_listCalls_50 : decode prog_2_method_10_code 50 = .ok (.invokevirtual 86, 3) := by decide +kernel
theorem d_Flow_listCalls_53 : decode prog_2_method_10_code 53 = .ok (.aload_n 0, 1) := by decide +kernel
theorem d_Flow_listCalls_54 : decode prog_2_method_10_code 54 = .ok (.aload_n 1, 1) := by decide +kernel
theorem d_Flow_listCalls_55 : decode prog_2_method_10_code 55 = .ok (.iload_n 3, 1) := by decide +kernel
theorem d_Flow_listCalls_56 : decode prog_2_method_10_code 56 = .ok (.invokevirtual 127, 3) := by decide +kernel
theorem d_Flow_listCalls_59 : decode prog_2_method_10_code 59 = .ok (.ior, 1) := by decide +kernel
theorem d_Flow_listCalls_60 : decode prog_2_method_10_code 60 = .ok (.invokevirtual 103, 3) := by decide +kernel
theorem d_Flow_listCalls_63 : decode prog_2_method_10_code 63 = .ok (.iinc 2 1, 3) := by decide +kernel
theorem d_Flow_listCalls_66 : decode prog_2_method_10_code 66 = .ok (.goto (-52), 3) := by decide +kernel
theorem d_Flow_listCalls_69 : decode prog_2_method_10_code 69 = .ok (.return_, 1) := by decide +kernel
def fm_Flow_listCalls_l14 (o : Nat) (a1 : Nat) : Nat → Int → fa_W → Option fa_W
  | 0, _, _ => none
  | n + 1, x2, w => if fa_wr (w a1 15) ≤ fa_wr x2 then
  some w
  else
  (fa_let (fr_at (fa_rf a1 5) x2 w) fun x3_5 =>
  fa_let (fm_Program_owner a1 x3_5 w) fun x4_7 =>
  fa_let (fr_set (fa_rf o 2) x4_7 (fa_ior (fr_bits (fa_rf o 2) x4_7 w) (fm_Flow_applied o a1 x3_5 w)) w) fun w11 =>
  fa_let (x2 + 1) fun x2_12 =>
  fm_Flow_listCalls_l14 o a1 n x2_12 w11)
set_option maxHeartbeats 4000000 in
set_option maxRecDepth 100000 in
theorem c_Flow_listCalls_l14 {p : Program} {l : Launch} {e : Env} {s : State} {m : MethodId} {args : Array Value} {below : List Frame} {meth : Method} {c : Code} {hh : Nat} {D : va_G} {b : Nat} {aC : Nat → ClassId} {H0 : Heap} {N T : Nat} (X : fa_GX p s m args meth c prog_2_method_10_code 5 ((Option.none : Option Jvm.ClassFile.FieldType)) y_Flow_listCalls.cls D b aC) (hle : 3 ≤ hh) (hN : fa_NX ≤ N) (hT : fa_TX ≤ T) (o : Nat) (a1 : Nat) (ho : (fa_sh o).1 = 1) (ha1 : (fa_sh a1).1 = 4) {r : fa_W}  : ∀ (n : Nat) (x2 : Int) (w : fa_W), fm_Flow_listCalls_l14 o a1 n x2 w = some r → fa_GJ p l e (fa_rm hh) s m args below meth c 0 0 (MQ below (fa_Qc D b aC H0 N T (none) r) args s 0 0 (fun q => b ≤ q)) D b aC H0 N T 5 w 14 [(0, .ref (b + o)), (1, .ref (b + a1)), (2, .int (fa_I x2))] [] := by
  intro n
  induction n with
  | zero => intro x2 w hM; exact fa_no hM
  | succ n ih =>
    intro x2 w hM
    rw [fm_Flow_listCalls_l14] at hM
    refine g_iload_n X 2 rfl d_Flow_listCalls_14 ?_
    refine g_aload_n X 1 rfl d_Flow_listCalls_15 ?_
    refine g_getN X ck_4 ha1 (fa_xn ha1 (by decide) hN) 15 (by decide) wd_104 rfl (fa_fvI rfl) d_Flow_listCalls_16 ?_
    refine g_icmp_ge X 69 d_Flow_listCalls_19 (by decide) (fun hc3 => ?_) (fun hc3 => ?_)
    · have hM := fa_if_t hM hc3
      cases hM
      exact g_vret X d_Flow_listCalls_69
    · have hM := fa_if_f hM hc3
      refine g_aload_n X 1 rfl d_Flow_listCalls_22 ?_
      refine g_getN X ck_4 ha1 (fa_xn ha1 (by decide) hN) 5 (by decide) wd_72 rfl (fa_fvR rfl (fa_xt ha1 (by decide) hT 5)) d_Flow_listCalls_23 ?_
      refine g_iload_n X 2 rfl d_Flow_listCalls_26 ?_
      refine g_callV_i X ck_6 (fa_r4_5 _ ha1) (fa_xn (fa_r4_5 _ ha1) (by decide) hN) rfl mi_Row_at (ct_Row_at (fa_rf a1 5) x2 (fa_ro (fa_r4_5 _ ha1) hN hT) w _ rfl) wd_560 rfl (Nat.le_trans (Nat.le_of_ble_eq_true rfl) hle) (st := []) (Nat.le_of_ble_eq_true rfl) rfl d_Flow_listCalls_27 ?_
      refine g_istore_n X (fun x3_5 => [(3, .int (fa_I x3_5)), (0, .ref (b + o)), (1, .ref (b + a1)), (2, .int (fa_I x2))]) d_Flow_listCalls_30 (by decide) (fun _ => rfl) (fun x3_5 ex3_5 => ?_)
      have hM := fa_let_to hM ex3_5
      refine g_aload_n X 2 rfl d_Flow_listCalls_31 ?_
      refine g_iload_n X 0 rfl d_Flow_listCalls_32 ?_
      refine g_callV_i X ck_4 ha1 (fa_xn ha1 (by decide) hN) rfl mi_Program_owner (c_Program_owner hN hT a1 x3_5 ha1 w _ rfl) wd_522 rfl (Nat.le_trans (Nat.le_of_ble_eq_true rfl) hle) (st := []) (Nat.le_of_ble_eq_true rfl) rfl d_Flow_listCalls_33 ?_
      refine g_istore X (fun x4_7 => [(4, .int (fa_I x4_7)), (3, .int (fa_I x3_5)), (0, .ref (b + o)), (1, .ref (b + a1)), (2, .int (fa_I x2))]) d_Flow_listCalls_36 (by decide) (fun _ => rfl) (fun x4_7 ex4_7 => ?_)
      have hM := fa_let_to hM ex4_7
      refine g_aload_n X 2 rfl d_Flow_listCalls_38 ?_
      refine g_get X ck_1 ho (fa_xn ho (by decide) hN) 2 (by decide) wd_336 rfl (fa_fvR rfl (fa_xt ho (by decide) hT 2)) d_Flow_listCalls_39 ?_
      refine g_iload X 0 rfl d_Flow_listCalls_42 ?_
      refine g_aload_n X 2 rfl d_Flow_listCalls_44 ?_
      refine g_get X ck_1 ho (fa_xn ho (by decide) hN) 2 (by decide) wd_336 rfl (fa_fvR rfl (fa_xt ho (by decide) hT 2)) d_Flow_listCalls_45 ?_
      refine g_iload X 0 rfl d_Flow_listCalls_48 ?_
      refine g_callV_i X ck_6 (fa_r1_2 _ ho) (fa_xn (fa_r1_2 _ ho) (by decide) hN) rfl mi_Row_bits (ct_Row_bits (fa_rf o 2) x4_7 (fa_ro (fa_r1_2 _ ho) hN hT) w _ rfl) wd_539 rfl (Nat.le_trans (Nat.le_of_ble_eq_true rfl) hle) (st := [.int (fa_I x4_7), .ref (b + (fa_rf o 2))]) (Nat.le_of_ble_eq_true rfl) rfl d_Flow_listCalls_50 ?_
      refine g_aload_n X 2 rfl d_Flow_listCalls_53 ?_
      refine g_aload_n X 3 rfl d_Flow_listCalls_54 ?_
      refine g_iload_n X 1 rfl d_Flow_listCalls_55 ?_
      refine g_callV_i X ck_1 ho (fa_xn ho (by decide) hN) rfl mi_Flow_applied (c_Flow_applied hN hT o a1 x3_5 ho ha1 w _ rfl) wd_565 rfl (Nat.le_trans (Nat.le_of_ble_eq_true rfl) hle) (st := [.int (fa_I (fr_bits (fa_rf o 2) x4_7 w)), .int (fa_I x4_7), .ref (b + (fa_rf o 2))]) (Nat.le_of_ble_eq_true rfl) rfl d_Flow_listCalls_56 ?_
      refine g_ior X d_Flow_listCalls_59 ?_
      obtain ⟨w11, e10⟩ : ∃ q, fr_set (fa_rf o 2) x4_7 (fa_ior (fr_bits (fa_rf o 2) x4_7 w) (fm_Flow_applied o a1 x3_5 w)) w = q := ⟨_, rfl⟩
      have hM := fa_let_to hM e10.symm
      refine g_callV_v X ck_6 (fa_r1_2 _ ho) (fa_xn (fa_r1_2 _ ho) (by decide) hN) rfl mi_Row_set (ct_Row_set (fa_rf o 2) x4_7 (fa_ior (fr_bits (fa_rf o 2) x4_7 w) (fm_Flow_applied o a1 x3_5 w)) (fa_ro (fa_r1_2 _ ho) hN hT) w _ e10) wd_551 rfl (Nat.le_trans (Nat.le_of_ble_eq_true rfl) hle) (st := []) (Nat.le_of_ble_eq_true rfl) rfl d_Flow_listCalls_60 ?_
      refine g_iinc X 4 (fun x2_12 => [(2, .int (fa_I x2_12)), (4, .int (fa_I x4_7)), (3, .int (fa_I x3_5)), (0, .ref (b + o)), (1, .ref (b + a1))]) d_Flow_listCalls_63 rfl (by decide) (fun _ => rfl) (fun x2_12 ex2_12 => ?_)
      have hM := fa_let_to hM ex2_12
      refine g_goto X 14 d_Flow_listCalls_66 (by decide) ?_
      exact g_lv [3, 4, 0] rfl (ih _ _ hM)
def fm_Flow_listCalls (o : Nat) (a1 : Nat) (w : fa_W) : Option fa_W :=
  fa_let (fr_refill (fa_rf o 2) (w a1 14) 0 w) fun w2 =>
  fm_Flow_listCalls_l14 o a1 fa_FU 0 w2
set_option maxHeartbeats 4000000 in
set_option maxRecDepth 100000 in
theorem c_Flow_listCalls {l : Launch} {D : va_G} {b : Nat} {aC : Nat → ClassId} {H0 : Heap} {N T : Nat} (hN : fa_NX ≤ N) (hT : fa_TX ≤ T) (o : Nat) (a1 : Nat) (ho : (fa_sh o).1 = 1) (ha1 : (fa_sh a1).1 = 4)  (w : fa_W) (r : fa_W) (hM : fm_Flow_listCalls o a1 w = some r) : fa_MC l D b aC H0 N T y_Flow_listCalls prog_2_method_10_code 5 ((Option.none : Option Jvm.ClassFile.FieldType)) (3) [.ref (b + o), .ref (b + a1)] w (none) r := by
  refine fa_enter (lv := [(0, .ref (b + o)), (1, .ref (b + a1))]) (by decide +kernel) (Nat.le_of_ble_eq_true rfl) rfl (fun hh hle hnm X => ?_)
  unfold fm_Flow_listCalls at hM
  refine g_aload_n X 0 rfl d_Flow_listCalls_0 ?_
  refine g_get X ck_1 ho (fa_xn ho (by decide) hN) 2 (by decide) wd_336 rfl (fa_fvR rfl (fa_xt ho (by decide) hT 2)) d_Flow_listCalls_1 ?_
  refine g_aload_n X 1 rfl d_Flow_listCalls_4 ?_
  refine g_getN X ck_4 ha1 (fa_xn ha1 (by decide) hN) 14 (by decide) wd_100 rfl (fa_fvI rfl) d_Flow_listCalls_5 ?_
  refine g_iconst X d_Flow_listCalls_8 ?_
  obtain ⟨w2, e1⟩ : ∃ q, fr_refill (fa_rf o 2) (w a1 14) 0 w = q := ⟨_, rfl⟩
  have hM := fa_let_to hM e1.symm
  refine g_callV_v X ck_6 (fa_r1_2 _ ho) (fa_xn (fa_r1_2 _ ho) (by decide) hN) rfl mi_Row_refill (ct_Row_refill (fa_rf o 2) (w a1 14) 0 (fa_ro (fa_r1_2 _ ho) hN hT) w _ e1) wd_520 rfl (Nat.le_trans (Nat.le_of_ble_eq_true rfl) hle) (st := []) (Nat.le_of_ble_eq_true rfl) rfl d_Flow_listCalls_9 ?_
  refine g_iconst X d_Flow_listCalls_12 ?_
  refine g_istorec_n X [(2, .int (fa_I 0)), (0, .ref (b + o)), (1, .ref (b + a1))] d_Flow_listCalls_13 (by decide) rfl ?_
  exact g_lv [1, 2, 0] rfl (c_Flow_listCalls_l14 X hle hN hT o a1 ho ha1   fa_FU _ _ hM)
theorem d_Flow_closeCalls_0 : decode prog_2_method_11_code 0 = .ok (.aload_n 0, 1) := by decide +kernel
theorem d_Flow_closeCalls_1 : decode prog_2_method_11_code 1 = .ok (.getfield 26, 3) := by decide +kernel
theorem d_Flow_closeCalls_4 : decode prog_2_method_11_code 4 = .ok (.invokevirtual 130, 3) := by decide +kernel
theorem d_Flow_closeCalls_7 : decode prog_2_method_11_code 7 = .ok (.iconst 0, 1) := by decide +kernel
theorem d_Flow_closeCalls_8 : decode prog_2_method_11_code 8 = .ok (.istore_n 2, 1) := by decide +kernel
theorem d_Flow_closeCalls_9 : decode prog_2_method_11_code 9 = .ok (.iload_n 2, 1) := by decide +kernel
theorem d_Flow_closeCalls_10 : decode prog_2_method_11_code 10 = .ok (.aload_n 1, 1) := by decide +kernel
theorem d_Flow_closeCalls_11 : decode prog_2_method_11_code 11 = .ok (.getfield 106, 3) := by decide +kernel
theorem d_Flow_closeCalls_14 : decode prog_2_method_11_code 14 = .ok (.if_icmp .ge 24, 3) := by decide +kernel
theorem d_Flow_closeCalls_17 : decode prog_2_method_11_code 17 = .ok (.aload_n 0, 1) := by decide +kernel
theorem d_Flow_closeCalls_18 : decode prog_2_method_11_code 18 = .ok (.getfield 26, 3) := by decide +kernel
theorem d_Flow_closeCalls_21 : decode prog_2_method_11_code 21 = .ok (.aload_n 0, 1) := by decide +kernel
theorem d_Flow_closeCalls_22 : decode prog_2_method_11_code 22 = .ok (.getfield 23, 3) := by decide +kernel
theorem d_Flow_closeCalls_25 : decode prog_2_method_11_code 25 = .ok (.iload_n 2, 1) := by decide +kernel
theorem d_Flow_closeCalls_26 : decode prog_2_method_11_code 26 = .ok (.invokevirtual 86, 3) := by decide +kernel
theorem d_Flow_closeCalls_29 : decode prog_2_method_11_code 29 = .ok (.invokevirtual 133, 3) := by decide +kernel
theorem d_Flow_closeCalls_32 : decode prog_2_method_11_code 32 = .ok (.iinc 2 1, 3) := by decide +kernel
theorem d_Flow_closeCalls_35 : decode prog_2_method_11_code 35 = .ok (.goto (-26), 3) := by decide +kernel
theorem d_Flow_closeCalls_38 : decode prog_2_method_11_code 38 = .ok (.iconst 0, 1) := by decide +kernel
theorem d_Flow_closeCalls_39 : decode prog_2_method_11_code 39 = .ok (.istore_n 2, 1) := by decide +kernel
theorem d_Flow_closeCalls_40 : decode prog_2_method_11_code 40 = .ok (.iload_n 2, 1) := by decide +kernel
theorem d_Flow_closeCalls_41 : decode prog_2_method_11_code 41 = .ok (.aload_n 1, 1) := by decide +kernel
theorem d_Flow_closeCalls_42 : decode prog_2_method_11_code 42 = .ok (.getfield 106, 3) := by decide +kernel
theorem d_Flow_closeCalls_45 : decode prog_2_method_11_code 45 = .ok (.if_icmp .ge 65, 3) := by decide +kernel
theorem d_Flow_closeCalls_48 : decode prog_2_method_11_code 48 = .ok (.iconst 0, 1) := by decide +kernel
theorem d_Flow_closeCalls_49 : decode prog_2_method_11_code 49 = .ok (.istore_n 3, 1) := by decide +kernel
theorem d_Flow_closeCalls_50 : decode prog_2_method_11_code 50 = .ok (.iload_n 3, 1) := by decide +kernel
theorem d_Flow_closeCalls_51 : decode prog_2_method_11_code 51 = .ok (.aload_n 1, 1) := by decide +kernel
theorem d_Flow_closeCalls_52 : decode prog_2_method_11_code 52 = .ok (.getfield 106, 3) := by decide +kernel
theorem d_Flow_closeCalls_55 : decode prog_2_method_11_code 55 = .ok (.if_icmp .ge 49, 3) := by decide +kernel
theorem d_Flow_closeCalls_58 : decode prog_2_method_11_code 58 = .ok (.aload_n 0, 1) := by decide +kernel
theorem d_Flow_closeCalls_59 : decode prog_2_method_11_code 59 = .ok (.getfield 26, 3) := by decide +kernel
theorem d_Flow_closeCalls_62 : decode prog_2_method_11_code 62 = .ok (.iload_n 3, 1) := by decide +kernel
theorem d_Flow_closeCalls_63 : decode prog_2_method_11_code 63 = .ok (.invokevirtual 86, 3) := by decide +kernel
theorem d_Flow_closeCalls_66 : decode prog_2_method_11_code 66 = .ok (.iload_n 2, 1) := by decide +kernel
theorem d_Flow_closeCalls_67 : decode prog_2_method_11_code 67 = .ok (.invokestatic 76, 3) := by decide +kernel
theorem d_Flow_closeCalls_70 : decode prog_2_method_11_code 70 = .ok (.ifCond .eq 28, 3) := by decide +kernel
theorem d_Flow_closeCalls_73 : decode prog_2_method_11_code 73 = .ok (.aload_n 0, 1) := by decide +kernel
theorem d_Flow_closeCalls_74 : decode prog_2_method_11_code 74 = .ok (.getfield 26, 3) := by decide +kernel
theorem d_Flow_closeCalls_77 : decode prog_2_method_11_code 77 = .ok (.iload_n 3, 1) := by decide +kernel
theorem d_Flow_closeCalls_78 : decode prog_2_method_11_code 78 = .ok (.aload_n 0, 1) := by decide +kernel
theorem d_Flow_closeCalls_79 : decode prog_2_method_11_code 79 = .ok (.getfield 26, 3) := by decide +kernel
theorem d_Flow_closeCalls_82 : decode prog_2_method_11_code 82 = .ok (.iload_n 3, 1) := by decide +kernel
theorem d_Flow_closeCalls_83 : decode prog_2_method_11_code 83 = .ok (.invokevirtual 86, 3) := by decide +kernel
theorem d_Flow_closeCalls_86 : decode prog_2_method_11_code 86 = .ok (.aload_n 0, 1) := by decide +kernel
theorem d_Flow_closeCalls_87 : decode prog_2_method_11_code 87 = .ok (.getfield 26, 3) := by decide +kernel
theorem d_Flow_closeCalls_90 : decode prog_2_method_11_code 90 = .ok (.iload_n 2, 1) := by decide +kernel
theorem d_Flow_closeCalls_91 : decode prog_2_method_11_code 91 = .ok (.invokevirtual 86, 3) := by decide +kernel
theorem d_Flow_closeCalls_94 : decode prog_2_method_11_code 94 = .ok (.ior, 1) := by decide +kernel
theorem d_Flow_closeCalls_95 : decode prog_2_method_11_code 95 = .ok (.invokevirtual 103, 3) := by decide +kernel
theorem d_Flow_closeCalls_98 : decode prog_2_method_11_code 98 = .ok (.iinc 3 1, 3) := by decide +kernel
theorem d_Flow_closeCalls_101 : decode prog_2_method_11_code 101 = .ok (.goto (-51), 3) := by decide +kernel
theorem d_Flow_closeCalls_104 : decode prog_2_method_11_code 104 = .ok (.iinc 2 1, 3) := by decide +kernel
theorem d_Flow_closeCalls_107 : decode prog_2_method_11_code 107 = .ok (.goto (-67), 3) := by decide +kernel
theorem d_Flow_closeCalls_110 : decode prog_2_method_11_code 110 = .ok (.return_, 1) := by decide +kernel
def fm_Flow_closeCalls_l50 (o : Nat) (a1 : Nat) (k40 : Int → fa_W → Option fa_W) : Nat → Int → Int → fa_W → Option fa_W
  | 0, _, _, _ => none
  | n + 1, x2, x3, w => if fa_wr (w a1 14) ≤ fa_wr x3 then
  (fa_let (x2 + 1) fun x2_6 =>
  k40 x2_6 w)
  else
  (if fm_Face_hasBit (fr_bits (fa_rf o 3) x3 w) x2 w = true then
  (fa_let (fr_set (fa_rf o 3) x3 (fa_ior (fr_bits (fa_rf o 3) x3 w) (fr_bits (fa_rf o 3) x2 w)) w) fun w14 =>
  fa_let (x3 + 1) fun x3_15 =>
  fm_Flow_closeCalls_l50 o a1 k40 n x2 x3_15 w14)
  else
  (fa_let (x3 + 1) fun x3_10 =>
  fm_Flow_closeCalls_l50 o a1 k40 n x2 x3_10 w))
set_option maxHeartbeats 4000000 in
set_option maxRecDepth 100000 in
theorem c_Flow_closeCalls_l50 {p : Program} {l : Launch} {e : Env} {s : State} {m : MethodId} {args : Array Value} {below : List Frame} {meth : Method} {c : Code} {hh : Nat} {D : va_G} {b : Nat} {aC : Nat → ClassId} {H0 : Heap} {N T : Nat} (X : fa_GX p s m args meth c prog_2_method_11_code 4 ((Option.none : Option Jvm.ClassFile.FieldType)) y_Flow_closeCalls.cls D b aC) (hle : 1 ≤ hh) (hN : fa_NX ≤ N) (hT : fa_TX ≤ T) (o : Nat) (a1 : Nat) (ho : (fa_sh o).1 = 1) (ha1 : (fa_sh a1).1 = 4) {r : fa_W} (k40 : Int → fa_W → Option fa_W) (K40 : ∀ (x2 : Int) (w : fa_W), k40 x2 w = some r → fa_GJ p l e (fa_rm hh) s m args below meth c 0 0 (MQ below (fa_Qc D b aC H0 N T (none) r) args s 0 0 (fun q => b ≤ q)) D b aC H0 N T 4 w 40 [(0, .ref (b + o)), (1, .ref (b + a1)), (2, .int (fa_I x2))] []) : ∀ (n : Nat) (x2 : Int) (x3 : Int) (w : fa_W), fm_Flow_closeCalls_l50 o a1 k40 n x2 x3 w = some r → fa_GJ p l e (fa_rm hh) s m args below meth c 0 0 (MQ below (fa_Qc D b aC H0 N T (none) r) args s 0 0 (fun q => b ≤ q)) D b aC H0 N T 4 w 50 [(0, .ref (b + o)), (1, .ref (b + a1)), (2, .int (fa_I x2)), (3, .int (fa_I x3))] [] := by
  intro n
  induction n with
  | zero => intro x2 x3 w hM; exact fa_no hM
  | succ n ih =>
    intro x2 x3 w hM
    rw [fm_Flow_closeCalls_l50] at hM
    refine g_iload_n X 3 rfl d_Flow_closeCalls_50 ?_
    refine g_aload_n X 1 rfl d_Flow_closeCalls_51 ?_
    refine g_getN X ck_4 ha1 (fa_xn ha1 (by decide) hN) 14 (by decide) wd_100 rfl (fa_fvI rfl) d_Flow_closeCalls_52 ?_
    refine g_icmp_ge X 104 d_Flow_closeCalls_55 (by decide) (fun hc5 => ?_) (fun hc5 => ?_)
    · have hM := fa_if_t hM hc5
      refine g_iinc X 2 (fun x2_6 => [(2, .int (fa_I x2_6)), (0, .ref (b + o)), (1, .ref (b + a1)), (3, .int (fa_I x3))]) d_Flow_closeCalls_104 rfl (by decide) (fun _ => rfl) (fun x2_6 ex2_6 => ?_)
      have hM := fa_let_to hM ex2_6
      refine g_goto X 40 d_Flow_closeCalls_107 (by decide) ?_
      exact g_lv [1, 2, 0] rfl (K40 _ _ hM)
    · have hM := fa_if_f hM hc5
      refine g_aload_n X 0 rfl d_Flow_closeCalls_58 ?_
      refine g_get X ck_1 ho (fa_xn ho (by decide) hN) 3 (by decide) wd_338 rfl (fa_fvR rfl (fa_xt ho (by decide) hT 3)) d_Flow_closeCalls_59 ?_
      refine g_iload_n X 3 rfl d_Flow_closeCalls_62 ?_
      refine g_callV_i X ck_6 (fa_r1_3 _ ho) (fa_xn (fa_r1_3 _ ho) (by decide) hN) rfl mi_Row_bits (ct_Row_bits (fa_rf o 3) x3 (fa_ro (fa_r1_3 _ ho) hN hT) w _ rfl) wd_539 rfl (Nat.le_trans (Nat.le_of_ble_eq_true rfl) hle) (st := []) (Nat.le_of_ble_eq_true rfl) rfl d_Flow_closeCalls_63 ?_
      refine g_iload_n X 2 rfl d_Flow_closeCalls_66 ?_
      refine g_callSN_i X mi_Face_hasBit (c_Face_hasBit hN hT (fr_bits (fa_rf o 3) x3 w) x2 w _ rfl) wd_530 rfl (Nat.le_trans (Nat.le_of_ble_eq_true rfl) hle) (st := []) (Nat.le_of_ble_eq_true rfl) rfl d_Flow_closeCalls_67 ?_
      refine g_ifb_eq X 98 d_Flow_closeCalls_70 (by decide) (fun hc9 => ?_) (fun hc9 => ?_)
      · have hM := fa_ifb_f hM hc9
        refine g_iinc X 3 (fun x3_10 => [(3, .int (fa_I x3_10)), (0, .ref (b + o)), (1, .ref (b + a1)), (2, .int (fa_I x2))]) d_Flow_closeCalls_98 rfl (by decide) (fun _ => rfl) (fun x3_10 ex3_10 => ?_)
        have hM := fa_let_to hM ex3_10
        refine g_goto X 50 d_Flow_closeCalls_101 (by decide) ?_
        exact g_lv [1, 2, 3, 0] rfl (ih _ _ _ hM)
      · have hM := fa_ifb_t hM hc9
        refine g_aload_n X 0 rfl d_Flow_closeCalls_73 ?_
        refine g_get X ck_1 ho (fa_xn ho (by decide) hN) 3 (by decide) wd_338 rfl (fa_fvR rfl (fa_xt ho (by decide) hT 3)) d_Flow_closeCalls_74 ?_
        refine g_iload_n X 3 rfl d_Flow_closeCalls_77 ?_
        refine g_aload_n X 0 rfl d_Flow_closeCalls_78 ?_
        refine g_get X ck_1 ho (fa_xn ho (by decide) hN) 3 (by decide) wd_338 rfl (fa_fvR rfl (fa_xt ho (by decide) hT 3)) d_Flow_closeCalls_79 ?_
        refine g_iload_n X 3 rfl d_Flow_closeCalls_82 ?_
        refine g_callV_i X ck_6 (fa_r1_3 _ ho) (fa_xn (fa_r1_3 _ ho) (by decide) hN) rfl mi_Row_bits (ct_Row_bits (fa_rf o 3) x3 (fa_ro (fa_r1_3 _ ho) hN hT) w _ rfl) wd_539 rfl (Nat.le_trans (Nat.le_of_ble_eq_true rfl) hle) (st := [.int (fa_I x3), .ref (b + (fa_rf o 3))]) (Nat.le_of_ble_eq_true rfl) rfl d_Flow_closeCalls_83 ?_
        refine g_aload_n X 0 rfl d_Flow_closeCalls_86 ?_
        refine g_get X ck_1 ho (fa_xn ho (by decide) hN) 3 (by decide) wd_338 rfl (fa_fvR rfl (fa_xt ho (by decide) hT 3)) d_Flow_closeCalls_87 ?_
        refine g_iload_n X 2 rfl d_Flow_closeCalls_90 ?_
        refine g_callV_i X ck_6 (fa_r1_3 _ ho) (fa_xn (fa_r1_3 _ ho) (by decide) hN) rfl mi_Row_bits (ct_Row_bits (fa_rf o 3) x2 (fa_ro (fa_r1_3 _ ho) hN hT) w _ rfl) wd_539 rfl (Nat.le_trans (Nat.le_of_ble_eq_true rfl) hle) (st := [.int (fa_I (fr_bits (fa_rf o 3) x3 w)), .int (fa_I x3), .ref (b + (fa_rf o 3))]) (Nat.le_of_ble_eq_true rfl) rfl d_Flow_closeCalls_91 ?_
        refine g_ior X d_Flow_closeCalls_94 ?_
        obtain ⟨w14, e13⟩ : ∃ q, fr_set (fa_rf o 3) x3 (fa_ior (fr_bits (fa_rf o 3) x3 w) (fr_bits (fa_rf o 3) x2 w)) w = q := ⟨_, rfl⟩
        have hM := fa_let_to hM e13.symm
        refine g_callV_v X ck_6 (fa_r1_3 _ ho) (fa_xn (fa_r1_3 _ ho) (by decide) hN) rfl mi_Row_set (ct_Row_set (fa_rf o 3) x3 (fa_ior (fr_bits (fa_rf o 3) x3 w) (fr_bits (fa_rf o 3) x2 w)) (fa_ro (fa_r1_3 _ ho) hN hT) w _ e13) wd_551 rfl (Nat.le_trans (Nat.le_of_ble_eq_true rfl) hle) (st := []) (Nat.le_of_ble_eq_true rfl) rfl d_Flow_closeCalls_95 ?_
        refine g_iinc X 3 (fun x3_15 => [(3, .int (fa_I x3_15)), (0, .ref (b + o)), (1, .ref (b + a1)), (2, .int (fa_I x2))]) d_Flow_closeCalls_98 rfl (by decide) (fun _ => rfl) (fun x3_15 ex3_15 => ?_)
        have hM := fa_let_to hM ex3_15
        refine g_goto X 50 d_Flow_closeCalls_101 (by decide) ?_
        exact g_lv [1, 2, 3, 0] rfl (ih _ _ _ hM)
def fm_Flow_closeCalls_l40 (o : Nat) (a1 : Nat) : Nat → Int → fa_W → Option fa_W
  | 0, _, _ => none
  | n + 1, x2, w => if fa_wr (w a1 14) ≤ fa_wr x2 then
  some w
  else
  fm_Flow_closeCalls_l50 o a1 (fun x2 w9 => fm_Flow_closeCalls_l40 o a1 n x2 w9) fa_FU x2 0 w
set_option maxHeartbeats 4000000 in
set_option maxRecDepth 100000 in
theorem c_Flow_closeCalls_l40 {p : Program} {l : Launch} {e : Env} {s : State} {m : MethodId} {args : Array Value} {below : List Frame} {meth : Method} {c : Code} {hh : Nat} {D : va_G} {b : Nat} {aC : Nat → ClassId} {H0 : Heap} {N T : Nat} (X : fa_GX p s m args meth c prog_2_method_11_code 4 ((Option.none : Option Jvm.ClassFile.FieldType)) y_Flow_closeCalls.cls D b aC) (hle : 1 ≤ hh) (hN : fa_NX ≤ N) (hT : fa_TX ≤ T) (o : Nat) (a1 : Nat) (ho : (fa_sh o).1 = 1) (ha1 : (fa_sh a1).1 = 4) {r : fa_W}  : ∀ (n : Nat) (x2 : Int) (w : fa_W), fm_Flow_closeCalls_l40 o a1 n x2 w = some r → fa_GJ p l e (fa_rm hh) s m args below meth c 0 0 (MQ below (fa_Qc D b aC H0 N T (none) r) args s 0 0 (fun q => b ≤ q)) D b aC H0 N T 4 w 40 [(0, .ref (b + o)), (1, .ref (b + a1)), (2, .int (fa_I x2))] [] := by
  intro n
  induction n with
  | zero => intro x2 w hM; exact fa_no hM
  | succ n ih =>
    intro x2 w hM
    rw [fm_Flow_closeCalls_l40] at hM
    refine g_iload_n X 2 rfl d_Flow_closeCalls_40 ?_
    refine g_aload_n X 1 rfl d_Flow_closeCalls_41 ?_
    refine g_getN X ck_4 ha1 (fa_xn ha1 (by decide) hN) 14 (by decide) wd_100 rfl (fa_fvI rfl) d_Flow_closeCalls_42 ?_
    refine g_icmp_ge X 110 d_Flow_closeCalls_45 (by decide) (fun hc4 => ?_) (fun hc4 => ?_)
    · have hM := fa_if_t hM hc4
      cases hM
      exact g_vret X d_Flow_closeCalls_110
    · have hM := fa_if_f hM hc4
      refine g_iconst X d_Flow_closeCalls_48 ?_
      refine g_istorec_n X [(3, .int (fa_I 0)), (0, .ref (b + o)), (1, .ref (b + a1)), (2, .int (fa_I x2))] d_Flow_closeCalls_49 (by decide) rfl ?_
      exact g_lv [1, 2, 3, 0] rfl (c_Flow_closeCalls_l50 X hle hN hT o a1 ho ha1  (fun x2 w9 => fm_Flow_closeCalls_l40 o a1 n x2 w9) (fun _ _ h => ih _ _ h) fa_FU _ _ _ hM)
def fm_Flow_closeCalls_l9 (o : Nat) (a1 : Nat) : Nat → Int → fa_W → Option fa_W
  | 0, _, _ => none
  | n + 1, x2, w => if fa_wr (w a1 14) ≤ fa_wr x2 then
  fm_Flow_closeCalls_l40 o a1 fa_FU 0 w
  else
  (fa_let (fr_add (fa_rf o 3) (fr_bits (fa_rf o 2) x2 w) w) fun w18 =>
  fa_let (x2 + 1) fun x2_19 =>
  fm_Flow_closeCalls_l9 o a1 n x2_19 w18)
set_option maxHeartbeats 4000000 in
set_option maxRecDepth 100000 in
theorem c_Flow_closeCalls_l9 {p : Program} {l : Launch} {e : Env} {s : State} {m : MethodId} {args : Array Value} {below : List Frame} {meth : Method} {c : Code} {hh : Nat} {D : va_G} {b : Nat} {aC : Nat → ClassId} {H0 : Heap} {N T : Nat} (X : fa_GX p s m args meth c prog_2_method_11_code 4 ((Option.none : Option Jvm.ClassFile.FieldType)) y_Flow_closeCalls.cls D b aC) (hle : 1 ≤ hh) (hN : fa_NX ≤ N) (hT : fa_TX ≤ T) (o : Nat) (a1 : Nat) (ho : (fa_sh o).1 = 1) (ha1 : (fa_sh a1).1 = 4) {r : fa_W}  : ∀ (n : Nat) (x2 : Int) (w : fa_W), fm_Flow_closeCalls_l9 o a1 n x2 w = some r → fa_GJ p l e (fa_rm hh) s m args below meth c 0 0 (MQ below (fa_Qc D b aC H0 N T (none) r) args s 0 0 (fun q => b ≤ q)) D b aC H0 N T 4 w 9 [(0, .ref (b + o)), (1, .ref (b + a1)), (2, .int (fa_I x2))] [] := by
  intro n
  induction n with
  | zero => intro x2 w hM; exact fa_no hM
  | succ n ih =>
    intro x2 w hM
    rw [fm_Flow_closeCalls_l9] at hM
    refine g_iload_n X 2 rfl d_Flow_closeCalls_9 ?_
    refine g_aload_n X 1 rfl d_Flow_closeCalls_10 ?_
    refine g_getN X ck_4 ha1 (fa_xn ha1 (by decide) hN) 14 (by decide) wd_100 rfl (fa_fvI rfl) d_Flow_closeCalls_11 ?_
    refine g_icmp_ge X 38 d_Flow_closeCalls_14 (by decide) (fun hc3 => ?_) (fun hc3 => ?_)
    · have hM := fa_if_t hM hc3
      refine g_iconst X d_Flow_closeCalls_38 ?_
      refine g_istorec_n X [(2, .int (fa_I 0)), (0, .ref (b + o)), (1, .ref (b + a1))] d_Flow_closeCalls_39 (by decide) rfl ?_
      exact g_lv [1, 2, 0] rfl (c_Flow_closeCalls_l40 X hle hN hT o a1 ho ha1   fa_FU _ _ hM)
    · have hM := fa_if_f hM hc3
      refine g_aload_n X 0 rfl d_Flow_closeCalls_17 ?_
      refine g_get X ck_1 ho (fa_xn ho (by decide) hN) 3 (by decide) wd_338 rfl (fa_fvR rfl (fa_xt ho (by decide) hT 3)) d_Flow_closeCalls_18 ?_
      refine g_aload_n X 0 rfl d_Flow_closeCalls_21 ?_
      refine g_get X ck_1 ho (fa_xn ho (by decide) hN) 2 (by decide) wd_336 rfl (fa_fvR rfl (fa_xt ho (by decide) hT 2)) d_Flow_closeCalls_22 ?_
      refine g_iload_n X 2 rfl d_Flow_closeCalls_25 ?_
      refine g_callV_i X ck_6 (fa_r1_2 _ ho) (fa_xn (fa_r1_2 _ ho) (by decide) hN) rfl mi_Row_bits (ct_Row_bits (fa_rf o 2) x2 (fa_ro (fa_r1_2 _ ho) hN hT) w _ rfl) wd_539 rfl (Nat.le_trans (Nat.le_of_ble_eq_true rfl) hle) (st := [.ref (b + (fa_rf o 3))]) (Nat.le_of_ble_eq_true rfl) rfl d_Flow_closeCalls_26 ?_
      obtain ⟨w18, e17⟩ : ∃ q, fr_add (fa_rf o 3) (fr_bits (fa_rf o 2) x2 w) w = q := ⟨_, rfl⟩
      have hM := fa_let_to hM e17.symm
      refine g_callV_v X ck_6 (fa_r1_3 _ ho) (fa_xn (fa_r1_3 _ ho) (by decide) hN) rfl mi_Row_add (ct_Row_add (fa_rf o 3) (fr_bits (fa_rf o 2) x2 w) (fa_ro (fa_r1_3 _ ho) hN hT) w _ e17) wd_574 rfl (Nat.le_trans (Nat.le_of_ble_eq_true rfl) hle) (st := []) (Nat.le_of_ble_eq_true rfl) rfl d_Flow_closeCalls_29 ?_
      refine g_iinc X 2 (fun x2_19 => [(2, .int (fa_I x2_19)), (0, .ref (b + o)), (1, .ref (b + a1))]) d_Flow_closeCalls_32 rfl (by decide) (fun _ => rfl) (fun x2_19 ex2_19 => ?_)
      have hM := fa_let_to hM ex2_19
      refine g_goto X 9 d_Flow_closeCalls_35 (by decide) ?_
      exact g_lv [1, 2, 0] rfl (ih _ _ hM)
def fm_Flow_closeCalls (o : Nat) (a1 : Nat) (w : fa_W) : Option fa_W :=
  fa_let (fm_Row_clear (fa_rf o 3) w) fun w2 =>
  fm_Flow_closeCalls_l9 o a1 fa_FU 0 w2
set_option maxHeartbeats 4000000 in
set_option maxRecDepth 100000 in
theorem c_Flow_closeCalls {l : Launch} {D : va_G} {b : Nat} {aC : Nat → ClassId} {H0 : Heap} {N T : Nat} (hN : fa_NX ≤ N) (hT : fa_TX ≤ T) (o : Nat) (a1 : Nat) (ho : (fa_sh o).1 = 1) (ha1 : (fa_sh a1).1 = 4)  (w : fa_W) (r : fa_W) (hM : fm_Flow_closeCalls o a1 w = some r) : fa_MC l D b aC H0 N T y_Flow_closeCalls prog_2_method_11_code 4 ((Option.none : Option Jvm.ClassFile.FieldType)) (1) [.ref (b + o), .ref (b + a1)] w (none) r := by
  refine fa_enter (lv := [(0, .ref (b + o)), (1, .ref (b + a1))]) (by decide +kernel) (Nat.le_of_ble_eq_true rfl) rfl (fun hh hle hnm X => ?_)
  unfold fm_Flow_closeCalls at hM
  refine g_aload_n X 0 rfl d_Flow_closeCalls_0 ?_
  refine g_get X ck_1 ho (fa_xn ho (by decide) hN) 3 (by decide) wd_338 rfl (fa_fvR rfl (fa_xt ho (by decide) hT 3)) d_Flow_closeCalls_1 ?_
  obtain ⟨w2, e1⟩ : ∃ q, fm_Row_clear (fa_rf o 3) w = q := ⟨_, rfl⟩
  have hM := fa_let_to hM e1.symm
  refine g_callV_v X ck_6 (fa_r1_3 _ ho) (fa_xn (fa_r1_3 _ ho) (by decide) hN) rfl mi_Row_clear (c_Row_clear (fa_rf o 3) (fa_ro (fa_r1_3 _ ho) hN hT) w _ e1) wd_573 rfl (Nat.le_trans (Nat.le_of_ble_eq_true rfl) hle) (st := []) (Nat.le_of_ble_eq_true rfl) rfl d_Flow_closeCalls_4 ?_
  refine g_iconst X d_Flow_closeCalls_7 ?_
  refine g_istorec_n X [(2, .int (fa_I 0)), (0, .ref (b + o)), (1, .ref (b + a1))] d_Flow_closeCalls_8 (by decide) rfl ?_
  exact g_lv [1, 2, 0] rfl (c_Flow_closeCalls_l9 X hle hN hT o a1 ho ha1   fa_FU _ _ hM)
theorem d_Flow_ringOf_0 : decode prog_2_method_14_code 0 = .ok (.iconst 0, 1) := by decide +kernel
theorem d_Flow_ringOf_1 : decode prog_2_method_14_code 1 = .ok (.istore_n 2, 1) := by decide +kernel
theorem d_Flow_ringOf_2 : decode prog_2_method_14_code 2 = .ok (.iload_n 2, 1) := by decide +kernel
theorem d_Flow_ringOf_3 : decode prog_2_method_14_code 3 = .ok (.aload_n 0, 1) := by decide +kernel
theorem d_Flow_ringOf_4 : decode prog_2_method_14_code 4 = .ok (.getfield 29, 3) := by decide +kernel
theorem d_Flow_ringOf_7 : decode prog_2_method_14_code 7 = .ok (.invokevirtual 142, 3) := by decide +kernel
theorem d_Flow_ringOf_10 : decode prog_2_method_14_code 10 = .ok (.if_icmp .ge 26, 3) := by decide +kernel
theorem d_Flow_ringOf_13 : decode prog_2_method_14_code 13 = .ok (.aload_n 0, 1) := by decide +kernel
theorem d_Flow_ringOf_14 : decode prog_2_method_14_code 14 = .ok (.getfield 29, 3) := by decide +kernel
theorem d_Flow_ringOf_17 : decode prog_2_method_14_code 17 = .ok (.iload_n 2, 1) := by decide +kernel
theorem d_Flow_ringOf_18 : decode prog_2_method_14_code 18 = .ok (.invokevirtual 86, 3) := by decide +kernel
theorem d_Flow_ringOf_21 : decode prog_2_method_14_code 21 = .ok (.iload_n 1, 1) := by decide +kernel
theorem d_Flow_ringOf_22 : decode prog_2_method_14_code 22 = .ok (.invokestatic 76, 3) := by decide +kernel
theorem d_Flow_ringOf_25 : decode prog_2_method_14_code 25 = .ok (.ifCond .eq 5, 3) := by decide +kernel
theorem d_Flow_ringOf_28 : decode prog_2_method_14_code 28 = .ok (.iload_n 2, 1) := by decide +kernel
theorem d_Flow_ringOf_29 : decode prog_2_method_14_code 29 = .ok (.ireturn, 1) := by decide +kernel
theorem d_Flow_ringOf_30 : decode prog_2_method_14_code 30 = .ok (.iinc 2 1, 3) := by decide +kernel
theorem d_Flow_ringOf_33 : decode prog_2_method_14_code 33 = .ok (.goto (-31), 3) := by decide +kernel
theorem d_Flow_ringOf_36 : decode prog_2_method_14_code 36 = .ok (.iconst (-1), 1) := by decide +kernel
theorem d_Flow_ringOf_37 : decode prog_2_method_14_code 37 = .ok (.ireturn, 1) := by decide +kernel
def fm_Flow_ringOf_l2 (o : Nat) (a1 : Int) (w : fa_W) : Nat → Int → Option Int
  | 0, _ => none
  | n + 1, x2 => if fa_wr (fm_Row_size (fa_rf o 4) w) ≤ fa_wr x2 then
  some (-1)
  else
  (if fm_Face_hasBit (fr_bits (fa_rf o 4) x2 w) a1 w = true then
  some x2
  else
  (fa_let (x2 + 1) fun x2_6 =>
  fm_Flow_ringOf_l2 o a1 w n x2_6))
set_option maxHeartbeats 4000000 in
set_option maxRecDepth 100000 in
theorem c_Flow_ringOf_l2 {p : Program} {l : Launch} {e : Env} {s : State} {m : MethodId} {args : Array Value} {below : List Frame} {meth : Method} {c : Code} {hh : Nat} {D : va_G} {b : Nat} {aC : Nat → ClassId} {H0 : Heap} {N T : Nat} (X : fa_GX p s m args meth c prog_2_method_14_code 3 ((Option.some Jvm.ClassFile.FieldType.int)) y_Flow_ringOf.cls D b aC) (hle : 1 ≤ hh) (hN : fa_NX ≤ N) (hT : fa_TX ≤ T) (o : Nat) (a1 : Int) (ho : (fa_sh o).1 = 1) {r : Int} (w : fa_W) : ∀ (n : Nat) (x2 : Int), fm_Flow_ringOf_l2 o a1 w n x2 = some r → fa_GJ p l e (fa_rm hh) s m args below meth c 0 0 (MQ below (fa_Qc D b aC H0 N T (some (.int (fa_I r))) w) args s 0 0 (fun q => b ≤ q)) D b aC H0 N T 3 w 2 [(0, .ref (b + o)), (1, .int (fa_I a1)), (2, .int (fa_I x2))] [] := by
  intro n
  induction n with
  | zero => intro x2 hM; exact fa_no hM
  | succ n ih =>
    intro x2 hM
    rw [fm_Flow_ringOf_l2] at hM
    refine g_iload_n X 2 rfl d_Flow_ringOf_2 ?_
    refine g_aload_n X 0 rfl d_Flow_ringOf_3 ?_
    refine g_get X ck_1 ho (fa_xn ho (by decide) hN) 4 (by decide) wd_339 rfl (fa_fvR rfl (fa_xt ho (by decide) hT 4)) d_Flow_ringOf_4 ?_
    refine g_callV_i X ck_6 (fa_r1_4 _ ho) (fa_xn (fa_r1_4 _ ho) (by decide) hN) rfl mi_Row_size (c_Row_size (fa_rf o 4) (fa_ro (fa_r1_4 _ ho) hN hT) w _ rfl) wd_583 rfl (Nat.le_trans (Nat.le_of_ble_eq_true rfl) hle) (st := [.int (fa_I x2)]) (Nat.le_of_ble_eq_true rfl) rfl d_Flow_ringOf_7 ?_
    refine g_icmp_ge X 36 d_Flow_ringOf_10 (by decide) (fun hc2 => ?_) (fun hc2 => ?_)
    · have hM := fa_if_t hM hc2
      refine g_iconst X d_Flow_ringOf_36 ?_
      cases hM
      exact g_iret X d_Flow_ringOf_37
    · have hM := fa_if_f hM hc2
      refine g_aload_n X 0 rfl d_Flow_ringOf_13 ?_
      refine g_get X ck_1 ho (fa_xn ho (by decide) hN) 4 (by decide) wd_339 rfl (fa_fvR rfl (fa_xt ho (by decide) hT 4)) d_Flow_ringOf_14 ?_
      refine g_iload_n X 2 rfl d_Flow_ringOf_17 ?_
      refine g_callV_i X ck_6 (fa_r1_4 _ ho) (fa_xn (fa_r1_4 _ ho) (by decide) hN) rfl mi_Row_bits (ct_Row_bits (fa_rf o 4) x2 (fa_ro (fa_r1_4 _ ho) hN hT) w _ rfl) wd_539 rfl (Nat.le_trans (Nat.le_of_ble_eq_true rfl) hle) (st := []) (Nat.le_of_ble_eq_true rfl) rfl d_Flow_ringOf_18 ?_
      refine g_iload_n X 1 rfl d_Flow_ringOf_21 ?_
      refine g_callSN_i X mi_Face_hasBit (c_Face_hasBit hN hT (fr_bits (fa_rf o 4) x2 w) a1 w _ rfl) wd_530 rfl (Nat.le_trans (Nat.le_of_ble_eq_true rfl) hle) (st := []) (Nat.le_of_ble_eq_true rfl) rfl d_Flow_ringOf_22 ?_
      refine g_ifb_eq X 30 d_Flow_ringOf_25 (by decide) (fun hc5 => ?_) (fun hc5 => ?_)
      · have hM := fa_ifb_f hM hc5
        refine g_iinc X 2 (fun x2_6 => [(2, .int (fa_I x2_6)), (0, .ref (b + o)), (1, .int (fa_I a1))]) d_Flow_ringOf_30 rfl (by decide) (fun _ => rfl) (fun x2_6 ex2_6 => ?_)
        have hM := fa_let_to hM ex2_6
        refine g_goto X 2 d_Flow_ringOf_33 (by decide) ?_
        exact g_lv [1, 2, 0] rfl (ih _ hM)
      · have hM := fa_ifb_t hM hc5
        refine g_iload_n X 2 rfl d_Flow_ringOf_28 ?_
        cases hM
        exact g_iret X d_Flow_ringOf_29
def fm_Flow_ringOf (o : Nat) (a1 : Int) (w : fa_W) : Option Int :=
  fm_Flow_ringOf_l2 o a1 w fa_FU 0
set_option maxHeartbeats 4000000 in
set_option maxRecDepth 100000 in
theorem c_Flow_ringOf {l : Launch} {D : va_G} {b : Nat} {aC : Nat → ClassId} {H0 : Heap} {N T : Nat} (hN : fa_NX ≤ N) (hT : fa_TX ≤ T) (o : Nat) (a1 : Int) (ho : (fa_sh o).1 = 1)  (w : fa_W) (r : Int) (hM : fm_Flow_ringOf o a1 w = some r) : fa_MC l D b aC H0 N T y_Flow_ringOf prog_2_method_14_code 3 ((Option.some Jvm.ClassFile.FieldType.int)) (1) [.ref (b + o), .int (fa_I a1)] w (some (.int (fa_I r))) w := by
  refine fa_enter (lv := [(0, .ref (b + o)), (1, .int (fa_I a1))]) (by decide +kernel) (Nat.le_of_ble_eq_true rfl) rfl (fun hh hle hnm X => ?_)
  unfold fm_Flow_ringOf at hM
  refine g_iconst X d_Flow_ringOf_0 ?_
  refine g_istorec_n X [(2, .int (fa_I 0)), (0, .ref (b + o)), (1, .int (fa_I a1))] d_Flow_ringOf_1 (by decide) rfl ?_
  exact g_lv [1, 2, 0] rfl (c_Flow_ringOf_l2 X hle hN hT o a1 ho w  fa_FU _ hM)
theorem d_Flow_ringFrom_0 : decode prog_2_method_13_code 0 = .ok (.iconst 0, 1) := by decide +kernel
theorem d_Flow_ringFrom_1 : decode prog_2_method_13_code 1 = .ok (.istore_n 3, 1) := by decide +kernel
theorem d_Flow_ringFrom_2 : decode prog_2_method_13_code 2 = .ok (.iconst 0, 1) := by decide +kernel
theorem d_Flow_ringFrom_3 : decode prog_2_method_13_code 3 = .ok (.istore 4, 2) := by decide +kernel
theorem d_Flow_ringFrom_5 : decode prog_2_method_13_code 5 = .ok (.iload 4, 2) := by decide +kernel
theorem d_Flow_ringFrom_7 : decode prog_2_method_13_code 7 = .ok (.aload_n 1, 1) := by decide +kernel
theorem d_Flow_ringFrom_8 : decode prog_2_method_13_code 8 = .ok (.getfield 106, 3) := by decide +kernel
theorem d_Flow_ringFrom_11 : decode prog_2_method_13_code 11 = .ok (.if_icmp .ge 49, 3) := by decide +kernel
theorem d_Flow_ringFrom_14 : decode prog_2_method_13_code 14 = .ok (.aload_n 0, 1) := by decide +kernel
theorem d_Flow_ringFrom_15 : decode prog_2_method_13_code 15 = .ok (.getfield 26, 3) := by decide +kernel
theorem d_Flow_ringFrom_18 : decode prog_2_method_13_code 18 = .ok (.iload_n 2, 1) := by decide +kernel
theorem d_Flow_ringFrom_19 : decode prog_2_method_13_code 19 = .ok (.invokevirtual 86, 3) := by decide +kernel
theorem d_Flow_ringFrom_22 : decode prog_2_method_13_code 22 = .ok (.iload 4, 2) := by decide +kernel
theorem d_Flow_ringFrom_24 : decode prog_2_method_13_code 24 = .ok (.invokestatic 76, 3) := by decide +kernel
theorem d_Flow_ringFrom_27 : decode prog_2_method_13_code 27 = .ok (.ifCond .eq 27, 3) := by decide +kernel
theorem d_Flow_ringFrom_30 : decode prog_2_method_13_code 30 = .ok (.aload_n 0, 1) := by decide +kernel
theorem d_Flow_ringFrom_31 : decode prog_2_method_13_code 31 = .ok (.getfield 26, 3) := by decide +kernel
theorem d_Flow_ringFrom_34 : decode prog_2_method_13_code 34 = .ok (.iload 4, 2) := by decide +kernel
theorem d_Flow_ringFrom_36 : decode prog_2_method_13_code 36 = .ok (.invokevirtual 86, 3) := by decide +kernel
theorem d_Flow_ringFrom_39 : decode prog_2_method_13_code 39 = .ok (.iload_n 2, 1) := by decide +kernel
theorem d_Flow_ringFrom_40 : decode prog_2_method_13_code 40 = .ok (.invokestatic 76, 3) := by decide +kernel
theorem d_Flow_ringFrom_43 : decode prog_2_method_13_code 43 = .ok (.ifCond .eq 11, 3) := by decide +kernel
theorem d_Flow_ringFrom_46 : decode prog_2_method_13_code 46 = .ok (.iload_n 3, 1) := by decide +kernel
theorem d_Flow_ringFrom_47 : decode prog_2_method_13_code 47 = .ok (.iload 4, 2) := by decide +kernel
theorem d_Flow_ringFrom_49 : decode prog_2_method_13_code 49 = .ok (.invokestatic 89, 3) := by decide +kernel
theorem d_Flow_ringFrom_52 : decode prog_2_method_13_code 52 = .ok (.ior, 1) := by decide +kernel
theorem d_Flow_ringFrom_53 : decode prog_2_method_13_code 53 = .ok (.istore_n 3, 1) := by decide +kernel
theorem d_Flow_ringFrom_54 : decode prog_2_method_13_code 54 = .ok (.iinc 4 1, 3) := by decide +kernel
theorem d_Flow_ringFrom_57 : decode prog_2_method_13_code 57 = .ok (.goto (-52), 3) := by decide +kernel
theorem d_Flow_ringFrom_60 : decode prog_2_method_13_code 60 = .ok (.iload_n 3, 1) := by decide +kernel
theorem d_Flow_ringFrom_61 : decode prog_2_method_13_code 61 = .ok (.ireturn, 1) := by decide +kernel
def fm_Flow_ringFrom_l5 (o : Nat) (a1 : Nat) (a2 : Int) (w : fa_W) : Nat → Int → Int → Option Int
  | 0, _, _ => none
  | n + 1, x3, x4 => if fa_wr (w a1 14) ≤ fa_wr x4 then
  some x3
  else
  (if fm_Face_hasBit (fr_bits (fa_rf o 3) a2 w) x4 w = true then
  (if fm_Face_hasBit (fr_bits (fa_rf o 3) x4 w) a2 w = true then
  (fa_let (fa_ior x3 (fm_Face_bit x4 w)) fun x3_11 =>
  fa_let (x4 + 1) fun x4_12 =>
  fm_Flow_ringFrom_l5 o a1 a2 w n x3_11 x4_12)
  else
  (fa_let (x4 + 1) fun x4_9 =>
  fm_Flow_ringFrom_l5 o a1 a2 w n x3 x4_9))
  else
  (fa_let (x4 + 1) fun x4_5 =>
  fm_Flow_ringFrom_l5 o a1 a2 w n x3 x4_5))
set_option maxHeartbeats 4000000 in
set_option maxRecDepth 100000 in
theorem c_Flow_ringFrom_l5 {p : Program} {l : Launch} {e : Env} {s : State} {m : MethodId} {args : Array Value} {below : List Frame} {meth : Method} {c : Code} {hh : Nat} {D : va_G} {b : Nat} {aC : Nat → ClassId} {H0 : Heap} {N T : Nat} (X : fa_GX p s m args meth c prog_2_method_13_code 5 ((Option.some Jvm.ClassFile.FieldType.int)) y_Flow_ringFrom.cls D b aC) (hle : 1 ≤ hh) (hN : fa_NX ≤ N) (hT : fa_TX ≤ T) (o : Nat) (a1 : Nat) (a2 : Int) (ho : (fa_sh o).1 = 1) (ha1 : (fa_sh a1).1 = 4) {r : Int} (w : fa_W) : ∀ (n : Nat) (x3 : Int) (x4 : Int), fm_Flow_ringFrom_l5 o a1 a2 w n x3 x4 = some r → fa_GJ p l e (fa_rm hh) s m args below meth c 0 0 (MQ below (fa_Qc D b aC H0 N T (some (.int (fa_I r))) w) args s 0 0 (fun q => b ≤ q)) D b aC H0 N T 5 w 5 [(0, .ref (b + o)), (1, .ref (b + a1)), (2, .int (fa_I a2)), (3, .int (fa_I x3)), (4, .int (fa_I x4))] [] := by
  intro n
  induction n with
  | zero => intro x3 x4 hM; exact fa_no hM
  | succ n ih =>
    intro x3 x4 hM
    rw [fm_Flow_ringFrom_l5] at hM
    refine g_iload X 4 rfl d_Flow_ringFrom_5 ?_
    refine g_aload_n X 1 rfl d_Flow_ringFrom_7 ?_
    refine g_getN X ck_4 ha1 (fa_xn ha1 (by decide) hN) 14 (by decide) wd_100 rfl (fa_fvI rfl) d_Flow_ringFrom_8 ?_
    refine g_icmp_ge X 60 d_Flow_ringFrom_11 (by decide) (fun hc1 => ?_) (fun hc1 => ?_)
    · have hM := fa_if_t hM hc1
      refine g_iload_n X 3 rfl d_Flow_ringFrom_60 ?_
      cases hM
      exact g_iret X d_Flow_ringFrom_61
    · have hM := fa_if_f hM hc1
      refine g_aload_n X 0 rfl d_Flow_ringFrom_14 ?_
      refine g_get X ck_1 ho (fa_xn ho (by decide) hN) 3 (by decide) wd_338 rfl (fa_fvR rfl (fa_xt ho (by decide) hT 3)) d_Flow_ringFrom_15 ?_
      refine g_iload_n X 2 rfl d_Flow_ringFrom_18 ?_
      refine g_callV_i X ck_6 (fa_r1_3 _ ho) (fa_xn (fa_r1_3 _ ho) (by decide) hN) rfl mi_Row_bits (ct_Row_bits (fa_rf o 3) a2 (fa_ro (fa_r1_3 _ ho) hN hT) w _ rfl) wd_539 rfl (Nat.le_trans (Nat.le_of_ble_eq_true rfl) hle) (st := []) (Nat.le_of_ble_eq_true rfl) rfl d_Flow_ringFrom_19 ?_
      refine g_iload X 4 rfl d_Flow_ringFrom_22 ?_
      refine g_callSN_i X mi_Face_hasBit (c_Face_hasBit hN hT (fr_bits (fa_rf o 3) a2 w) x4 w _ rfl) wd_530 rfl (Nat.le_trans (Nat.le_of_ble_eq_true rfl) hle) (st := []) (Nat.le_of_ble_eq_true rfl) rfl d_Flow_ringFrom_24 ?_
      refine g_ifb_eq X 54 d_Flow_ringFrom_27 (by decide) (fun hc4 => ?_) (fun hc4 => ?_)
      · have hM := fa_ifb_f hM hc4
        refine g_iinc X 4 (fun x4_5 => [(4, .int (fa_I x4_5)), (0, .ref (b + o)), (1, .ref (b + a1)), (2, .int (fa_I a2)), (3, .int (fa_I x3))]) d_Flow_ringFrom_54 rfl (by decide) (fun _ => rfl) (fun x4_5 ex4_5 => ?_)
        have hM := fa_let_to hM ex4_5
        refine g_goto X 5 d_Flow_ringFrom_57 (by decide) ?_
        exact g_lv [1, 2, 3, 4, 0] rfl (ih _ _ hM)
      · have hM := fa_ifb_t hM hc4
        refine g_aload_n X 0 rfl d_Flow_ringFrom_30 ?_
        refine g_get X ck_1 ho (fa_xn ho (by decide) hN) 3 (by decide) wd_338 rfl (fa_fvR rfl (fa_xt ho (by decide) hT 3)) d_Flow_ringFrom_31 ?_
        refine g_iload X 4 rfl d_Flow_ringFrom_34 ?_
        refine g_callV_i X ck_6 (fa_r1_3 _ ho) (fa_xn (fa_r1_3 _ ho) (by decide) hN) rfl mi_Row_bits (ct_Row_bits (fa_rf o 3) x4 (fa_ro (fa_r1_3 _ ho) hN hT) w _ rfl) wd_539 rfl (Nat.le_trans (Nat.le_of_ble_eq_true rfl) hle) (st := []) (Nat.le_of_ble_eq_true rfl) rfl d_Flow_ringFrom_36 ?_
        refine g_iload_n X 2 rfl d_Flow_ringFrom_39 ?_
        refine g_callSN_i X mi_Face_hasBit (c_Face_hasBit hN hT (fr_bits (fa_rf o 3) x4 w) a2 w _ rfl) wd_530 rfl (Nat.le_trans (Nat.le_of_ble_eq_true rfl) hle) (st := []) (Nat.le_of_ble_eq_true rfl) rfl d_Flow_ringFrom_40 ?_
        refine g_ifb_eq X 54 d_Flow_ringFrom_43 (by decide) (fun hc8 => ?_) (fun hc8 => ?_)
        · have hM := fa_ifb_f hM hc8
          refine g_iinc X 4 (fun x4_9 => [(4, .int (fa_I x4_9)), (0, .ref (b + o)), (1, .ref (b + a1)), (2, .int (fa_I a2)), (3, .int (fa_I x3))]) d_Flow_ringFrom_54 rfl (by decide) (fun _ => rfl) (fun x4_9 ex4_9 => ?_)
          have hM := fa_let_to hM ex4_9
          refine g_goto X 5 d_Flow_ringFrom_57 (by decide) ?_
          exact g_lv [1, 2, 3, 4, 0] rfl (ih _ _ hM)
        · have hM := fa_ifb_t hM hc8
          refine g_iload_n X 3 rfl d_Flow_ringFrom_46 ?_
          refine g_iload X 4 rfl d_Flow_ringFrom_47 ?_
          refine g_callSN_i X mi_Face_bit (c_Face_bit hN hT x4 w _ rfl) wd_543 rfl (Nat.le_trans (Nat.le_of_ble_eq_true rfl) hle) (st := [.int (fa_I x3)]) (Nat.le_of_ble_eq_true rfl) rfl d_Flow_ringFrom_49 ?_
          refine g_ior X d_Flow_ringFrom_52 ?_
          refine g_istore_n X (fun x3_11 => [(3, .int (fa_I x3_11)), (0, .ref (b + o)), (1, .ref (b + a1)), (2, .int (fa_I a2)), (4, .int (fa_I x4))]) d_Flow_ringFrom_53 (by decide) (fun _ => rfl) (fun x3_11 ex3_11 => ?_)
          have hM := fa_let_to hM ex3_11
          refine g_iinc X 4 (fun x4_12 => [(4, .int (fa_I x4_12)), (3, .int (fa_I x3_11)), (0, .ref (b + o)), (1, .ref (b + a1)), (2, .int (fa_I a2))]) d_Flow_ringFrom_54 rfl (by decide) (fun _ => rfl) (fun x4_12 ex4_12 => ?_)
          have hM := fa_let_to hM ex4_12
          refine g_goto X 5 d_Flow_ringFrom_57 (by decide) ?_
          exact g_lv [2, 3, 4, 1, 0] rfl (ih _ _ hM)
def fm_Flow_ringFrom (o : Nat) (a1 : Nat) (a2 : Int) (w : fa_W) : Option Int :=
  fm_Flow_ringFrom_l5 o a1 a2 w fa_FU 0 0
set_option maxHeartbeats 4000000 in
set_option maxRecDepth 100000 in
theorem c_Flow_ringFrom {l : Launch} {D : va_G} {b : Nat} {aC : Nat → ClassId} {H0 : Heap} {N T : Nat} (hN : fa_NX ≤ N) (hT : fa_TX ≤ T) (o : Nat) (a1 : Nat) (a2 : Int) (ho : (fa_sh o).1 = 1) (ha1 : (fa_sh a1).1 = 4)  (w : fa_W) (r : Int) (hM : fm_Flow_ringFrom o a1 a2 w = some r) : fa_MC l D b aC H0 N T y_Flow_ringFrom prog_2_method_13_code 5 ((Option.some Jvm.ClassFile.FieldType.int)) (1) [.ref (b + o), .ref (b + a1), .int (fa_I a2)] w (some (.int (fa_I r))) w := by
  refine fa_enter (lv := [(0, .ref (b + o)), (1, .ref (b + a1)), (2, .int (fa_I a2))]) (by decide +kernel) (Nat.le_of_ble_eq_true rfl) rfl (fun hh hle hnm X => ?_)
  unfold fm_Flow_ringFrom at hM
  refine g_iconst X d_Flow_ringFrom_0 ?_
  refine g_istorec_n X [(3, .int (fa_I 0)), (0, .ref (b + o)), (1, .ref (b + a1)), (2, .int (fa_I a2))] d_Flow_ringFrom_1 (by decide) rfl ?_
  refine g_iconst X d_Flow_ringFrom_2 ?_
  refine g_istorec X [(4, .int (fa_I 0)), (3, .int (fa_I 0)), (0, .ref (b + o)), (1, .ref (b + a1)), (2, .int (fa_I a2))] d_Flow_ringFrom_3 (by decide) rfl ?_
  exact g_lv [2, 3, 4, 1, 0] rfl (c_Flow_ringFrom_l5 X hle hN hT o a1 a2 ho ha1 w  fa_FU _ _ hM)
theorem d_Flow_listRings_0 : decode prog_2_method_12_code 0 = .ok (.aload_n 0, 1) := by decide +kernel
theorem d_Flow_listRings_1 : decode prog_2_method_12_code 1 = .ok (.getfield 29, 3) := by decide +kernel
theorem d_Flow_listRings_4 : decode prog_2_method_12_code 4 = .ok (.invokevirtual 130, 3) := by decide +kernel
theorem d_Flow_listRings_7 : decode prog_2_method_12_code 7 = .ok (.iconst 0, 1) := by decide +kernel
theorem d_Flow_listRings_8 : decode prog_2_method_12_code 8 = .ok (.istore_n 2, 1) := by decide +kernel
theorem d_Flow_listRings_9 : decode prog_2_method_12_code 9 = .ok (.iload_n 2, 1) := by decide +kernel
theorem d_Flow_listRings_10 : decode prog_2_method_12_code 10 = .ok (.aload_n 1, 1) := by decide +kernel
theorem d_Flow_listRings_11 : decode prog_2_method_12_code 11 = .ok (.getfield 106, 3) := by decide +kernel
theorem d_Flow_listRings_14 : decode prog_2_method_12_code 14 = .ok (.if_icmp .ge 46, 3) := by decide +kernel
theorem d_Flow_listRings_17 : decode prog_2_method_12_code 17 = .ok (.aload_n 0, 1) := by decide +kernel
theorem d_Flow_listRings_18 : decode prog_2_method_12_code 18 = .ok (.getfield 26, 3) := by decide +kernel
theorem d_Flow_listRings_21 : decode prog_2_method_12_code 21 = .ok (.iload_n 2, 1) := by decide +kernel
theorem d_Flow_listRings_22 : decode prog_2_method_12_code 22 = .ok (.invokevirtual 86, 3) := by decide +kernel
theorem d_Flow_listRings_25 : decode prog_2_method_12_code 25 = .ok (.iload_n 2, 1) := by decide +kernel
theorem d_Flow_listRings_26 : decode prog_2_method_12_code 26 = .ok (.invokestatic 76, 3) := by decide +kernel
theorem d_Flow_listRings_29 : decode prog_2_method_12_code 29 = .ok (.ifCond .eq 25, 3) := by decide +kernel
theorem d_Flow_listRings_32 : decode prog_2_method_12_code 32 = .ok (.aload_n 0, 1) := by decide +kernel
theorem d_Flow_listRings_33 : decode prog_2_method_12_code 33 = .ok (.iload_n 2, 1) := by decide +kernel
theorem d_Flow_listRings_34 : decode prog_2_method_12_code 34 = .ok (.invokevirtual 136, 3) := by decide +kernel
theorem d_Flow_listRings_37 : decode prog_2_method_12_code 37 = .ok (.iconst (-1), 1) := by decide +kernel
theorem d_Flow_listRings_38 : decode prog_2_method_12_code 38 = .ok (.if_icmp .ne 16, 3) := by decide +kernel
theorem d_Flow_listRings_41 : decode prog_2_method_12_code 41 = .ok (.aload_n 0, 1) := by decide +kernel
theorem d_Flow_listRings_42 : decode prog_2_method_12_code 42 = .ok (.getfield 29, 3) := by decide +kernel
theorem d_Flow_listRings_45 : decode prog_2_method_12_code 45 = .ok (.aload_n 0, 1) := by decide +kernel
theorem d_Flow_listRings_46 : decode prog_2_method_12_code 46 = .ok (.aload_n 1, 1) := by decide +kernel
theorem d_Flow_listRings_47 : decode prog_2_method_12_code 47 = .ok (.iload_n 2, 1) := by decide +kernel
theorem d_Flow_listRings_48 : decode prog_2_method_12_code 48 = .ok (.invokevirtual 139, 3) := by decide +kernel
theorem d_Flow_listRings_51 : decode prog_2_method_12_code 51 = .ok (.invokevirtual 133, 3) := by decide +kernel
theorem d_Flow_listRings_54 : decode prog_2_method_12_code 54 = .ok (.iinc 2 1, 3) := by decide +kernel
theorem d_Flow_listRings_57 : decode prog_2_method_12_code 57 = .ok (.goto (-48), 3) := by decide +kernel
theorem d_Flow_listRings_60 : decode prog_2_method_12_code 60 = .ok (.return_, 1) := by decide +kernel
def fm_Flow_listRings_l9 (o : Nat) (a1 : Nat) : Nat → Int → fa_W → Option fa_W
  | 0, _, _ => none
  | n + 1, x2, w => if fa_wr (w a1 14) ≤ fa_wr x2 then
  some w
  else
  (if fm_Face_hasBit (fr_bits (fa_rf o 3) x2 w) x2 w = true then
  ((fm_Flow_ringOf o x2 w).bind fun v9 =>
  if fa_wr v9 = (-1) then
  ((fm_Flow_ringFrom o a1 x2 w).bind fun v13 =>
  fa_let (fr_add (fa_rf o 4) v13 w) fun w15 =>
  fa_let (x2 + 1) fun x2_16 =>
  fm_Flow_listRings_l9 o a1 n x2_16 w15)
  else
  (fa_let (x2 + 1) fun x2_11 =>
  fm_Flow_listRings_l9 o a1 n x2_11 w))
  else
  (fa_let (x2 + 1) fun x2_7 =>
  fm_Flow_listRings_l9 o a1 n x2_7 w))
set_option maxHeartbeats 4000000 in
set_option maxRecDepth 100000 in
theorem c_Flow_listRings_l9 {p : Program} {l : Launch} {e : Env} {s : State} {m : MethodId} {args : Array Value} {below : List Frame} {meth : Method} {c : Code} {hh : Nat} {D : va_G} {b : Nat} {aC : Nat → ClassId} {H0 : Heap} {N T : Nat} (X : fa_GX p s m args meth c prog_2_method_12_code 3 ((Option.none : Option Jvm.ClassFile.FieldType)) y_Flow_listRings.cls D b aC) (hle : 2 ≤ hh) (hN : fa_NX ≤ N) (hT : fa_TX ≤ T) (o : Nat) (a1 : Nat) (ho : (fa_sh o).1 = 1) (ha1 : (fa_sh a1).1 = 4) {r : fa_W}  : ∀ (n : Nat) (x2 : Int) (w : fa_W), fm_Flow_listRings_l9 o a1 n x2 w = some r → fa_GJ p l e (fa_rm hh) s m args below meth c 0 0 (MQ below (fa_Qc D b aC H0 N T (none) r) args s 0 0 (fun q => b ≤ q)) D b aC H0 N T 3 w 9 [(0, .ref (b + o)), (1, .ref (b + a1)), (2, .int (fa_I x2))] [] := by
  intro n
  induction n with
  | zero => intro x2 w hM; exact fa_no hM
  | succ n ih =>
    intro x2 w hM
    rw [fm_Flow_listRings_l9] at hM
    refine g_iload_n X 2 rfl d_Flow_listRings_9 ?_
    refine g_aload_n X 1 rfl d_Flow_listRings_10 ?_
    refine g_getN X ck_4 ha1 (fa_xn ha1 (by decide) hN) 14 (by decide) wd_100 rfl (fa_fvI rfl) d_Flow_listRings_11 ?_
    refine g_icmp_ge X 60 d_Flow_listRings_14 (by decide) (fun hc3 => ?_) (fun hc3 => ?_)
    · have hM := fa_if_t hM hc3
      cases hM
      exact g_vret X d_Flow_listRings_60
    · have hM := fa_if_f hM hc3
      refine g_aload_n X 0 rfl d_Flow_listRings_17 ?_
      refine g_get X ck_1 ho (fa_xn ho (by decide) hN) 3 (by decide) wd_338 rfl (fa_fvR rfl (fa_xt ho (by decide) hT 3)) d_Flow_listRings_18 ?_
      refine g_iload_n X 2 rfl d_Flow_listRings_21 ?_
      refine g_callV_i X ck_6 (fa_r1_3 _ ho) (fa_xn (fa_r1_3 _ ho) (by decide) hN) rfl mi_Row_bits (ct_Row_bits (fa_rf o 3) x2 (fa_ro (fa_r1_3 _ ho) hN hT) w _ rfl) wd_539 rfl (Nat.le_trans (Nat.le_of_ble_eq_true rfl) hle) (st := []) (Nat.le_of_ble_eq_true rfl) rfl d_Flow_listRings_22 ?_
      refine g_iload_n X 2 rfl d_Flow_listRings_25 ?_
      refine g_callSN_i X mi_Face_hasBit (c_Face_hasBit hN hT (fr_bits (fa_rf o 3) x2 w) x2 w _ rfl) wd_530 rfl (Nat.le_trans (Nat.le_of_ble_eq_true rfl) hle) (st := []) (Nat.le_of_ble_eq_true rfl) rfl d_Flow_listRings_26 ?_
      refine g_ifb_eq X 54 d_Flow_listRings_29 (by decide) (fun hc6 => ?_) (fun hc6 => ?_)
      · have hM := fa_ifb_f hM hc6
        refine g_iinc X 2 (fun x2_7 => [(2, .int (fa_I x2_7)), (0, .ref (b + o)), (1, .ref (b + a1))]) d_Flow_listRings_54 rfl (by decide) (fun _ => rfl) (fun x2_7 ex2_7 => ?_)
        have hM := fa_let_to hM ex2_7
        refine g_goto X 9 d_Flow_listRings_57 (by decide) ?_
        exact g_lv [1, 2, 0] rfl (ih _ _ hM)
      · have hM := fa_ifb_t hM hc6
        refine g_aload_n X 0 rfl d_Flow_listRings_32 ?_
        refine g_iload_n X 2 rfl d_Flow_listRings_33 ?_
        obtain ⟨v9, e8, hM⟩ := fa_ob hM
        refine g_callV_i X ck_1 ho (fa_xn ho (by decide) hN) rfl mi_Flow_ringOf (c_Flow_ringOf hN hT o x2 ho w _ e8) wd_579 rfl (Nat.le_trans (Nat.le_of_ble_eq_true rfl) hle) (st := []) (Nat.le_of_ble_eq_true rfl) rfl d_Flow_listRings_34 ?_
        refine g_iconst X d_Flow_listRings_37 ?_
        refine g_icmp_ne X 54 d_Flow_listRings_38 (by decide) (fun hc10 => ?_) (fun hc10 => ?_)
        · have hM := fa_if_f hM hc10
          refine g_iinc X 2 (fun x2_11 => [(2, .int (fa_I x2_11)), (0, .ref (b + o)), (1, .ref (b + a1))]) d_Flow_listRings_54 rfl (by decide) (fun _ => rfl) (fun x2_11 ex2_11 => ?_)
          have hM := fa_let_to hM ex2_11
          refine g_goto X 9 d_Flow_listRings_57 (by decide) ?_
          exact g_lv [1, 2, 0] rfl (ih _ _ hM)
        · have hM := fa_if_t hM hc10
          refine g_aload_n X 0 rfl d_Flow_listRings_41 ?_
          refine g_get X ck_1 ho (fa_xn ho (by decide) hN) 4 (by decide) wd_339 rfl (fa_fvR rfl (fa_xt ho (by decide) hT 4)) d_Flow_listRings_42 ?_
          refine g_aload_n X 0 rfl d_Flow_listRings_45 ?_
          refine g_aload_n X 1 rfl d_Flow_listRings_46 ?_
          refine g_iload_n X 2 rfl d_Flow_listRings_47 ?_
          obtain ⟨v13, e12, hM⟩ := fa_ob hM
          refine g_callV_i X ck_1 ho (fa_xn ho (by decide) hN) rfl mi_Flow_ringFrom (c_Flow_ringFrom hN hT o a1 x2 ho ha1 w _ e12) wd_584 rfl (Nat.le_trans (Nat.le_of_ble_eq_true rfl) hle) (st := [.ref (b + (fa_rf o 4))]) (Nat.le_of_ble_eq_true rfl) rfl d_Flow_listRings_48 ?_
          obtain ⟨w15, e14⟩ : ∃ q, fr_add (fa_rf o 4) v13 w = q := ⟨_, rfl⟩
          have hM := fa_let_to hM e14.symm
          refine g_callV_v X ck_6 (fa_r1_4 _ ho) (fa_xn (fa_r1_4 _ ho) (by decide) hN) rfl mi_Row_add (ct_Row_add (fa_rf o 4) v13 (fa_ro (fa_r1_4 _ ho) hN hT) w _ e14) wd_574 rfl (Nat.le_trans (Nat.le_of_ble_eq_true rfl) hle) (st := []) (Nat.le_of_ble_eq_true rfl) rfl d_Flow_listRings_51 ?_
          refine g_iinc X 2 (fun x2_16 => [(2, .int (fa_I x2_16)), (0, .ref (b + o)), (1, .ref (b + a1))]) d_Flow_listRings_54 rfl (by decide) (fun _ => rfl) (fun x2_16 ex2_16 => ?_)
          have hM := fa_let_to hM ex2_16
          refine g_goto X 9 d_Flow_listRings_57 (by decide) ?_
          exact g_lv [1, 2, 0] rfl (ih _ _ hM)
def fm_Flow_listRings (o : Nat) (a1 : Nat) (w : fa_W) : Option fa_W :=
  fa_let (fm_Row_clear (fa_rf o 4) w) fun w2 =>
  fm_Flow_listRings_l9 o a1 fa_FU 0 w2
set_option maxHeartbeats 4000000 in
set_option maxRecDepth 100000 in
theorem c_Flow_listRings {l : Launch} {D : va_G} {b : Nat} {aC : Nat → ClassId} {H0 : Heap} {N T : Nat} (hN : fa_NX ≤ N) (hT : fa_TX ≤ T) (o : Nat) (a1 : Nat) (ho : (fa_sh o).1 = 1) (ha1 : (fa_sh a1).1 = 4)  (w : fa_W) (r : fa_W) (hM : fm_Flow_listRings o a1 w = some r) : fa_MC l D b aC H0 N T y_Flow_listRings prog_2_method_12_code 3 ((Option.none : Option Jvm.ClassFile.FieldType)) (2) [.ref (b + o), .ref (b + a1)] w (none) r := by
  refine fa_enter (lv := [(0, .ref (b + o)), (1, .ref (b + a1))]) (by decide +kernel) (Nat.le_of_ble_eq_true rfl) rfl (fun hh hle hnm X => ?_)
  unfold fm_Flow_listRings at hM
  refine g_aload_n X 0 rfl d_Flow_listRings_0 ?_
  refine g_get X ck_1 ho (fa_xn ho (by decide) hN) 4 (by decide) wd_339 rfl (fa_fvR rfl (fa_xt ho (by decide) hT 4)) d_Flow_listRings_1 ?_
  obtain ⟨w2, e1⟩ : ∃ q, fm_Row_clear (fa_rf o 4) w = q := ⟨_, rfl⟩
  have hM := fa_let_to hM e1.symm
  refine g_callV_v X ck_6 (fa_r1_4 _ ho) (fa_xn (fa_r1_4 _ ho) (by decide) hN) rfl mi_Row_clear (c_Row_clear (fa_rf o 4) (fa_ro (fa_r1_4 _ ho) hN hT) w _ e1) wd_573 rfl (Nat.le_trans (Nat.le_of_ble_eq_true rfl) hle) (st := []) (Nat.le_of_ble_eq_true rfl) rfl d_Flow_listRings_4 ?_
  refine g_iconst X d_Flow_listRings_7 ?_
  refine g_istorec_n X [(2, .int (fa_I 0)), (0, .ref (b + o)), (1, .ref (b + a1))] d_Flow_listRings_8 (by decide) rfl ?_
  exact g_lv [1, 2, 0] rfl (c_Flow_listRings_l9 X hle hN hT o a1 ho ha1   fa_FU _ _ hM)
theorem d_Flow_solve_0 : decode prog_2_method_2_code 0 = .ok (.aload_n 0, 1) := by decide +kernel
theorem d_Flow_solve_1 : decode prog_2_method_2_code 1 = .ok (.getfield 14, 3) := by decide +kernel
theorem d_Flow_solve_4 : decode prog_2_method_2_code 4 = .ok (.aload_n 1, 1) := by decide +kernel
theorem d_Flow_solve_5 : decode prog_2_method_2_code 5 = .ok (.invokevirtual 43, 3) := by decide +kernel
theorem d_Flow_solve_8 : decode prog_2_method_2_code 8 = .ok (.iconst 0, 1) := by decide +kernel
theorem d_Flow_solve_9 : decode prog_2_method_2_code 9 = .ok (.invokevirtual 49, 3) := by decide +kernel
theorem d_Flow_solve_12 : decode prog_2_method_2_code 12 = .ok (.aload_n 0, 1) := by decide +kernel
theorem d_Flow_solve_13 : decode prog_2_method_2_code 13 = .ok (.getfield 20, 3) := by decide +kernel
theorem d_Flow_solve_16 : decode prog_2_method_2_code 16 = .ok (.bipush 74, 2) := by decide +kernel
theorem d_Flow_solve_18 : decode prog_2_method_2_code 18 = .ok (.iconst 0, 1) := by decide +kernel
theorem d_Flow_solve_19 : decode prog_2_method_2_code 19 = .ok (.invokevirtual 49, 3) := by decide +kernel
theorem d_Flow_solve_22 : decode prog_2_method_2_code 22 = .ok (.aload_n 0, 1) := by decide +kernel
theorem d_Flow_solve_23 : decode prog_2_method_2_code 23 = .ok (.iconst 0, 1) := by decide +kernel
theorem d_Flow_solve_24 : decode prog_2_method_2_code 24 = .ok (.putfield 32, 3) := by decide +kernel
theorem d_Flow_solve_27 : decode prog_2_method_2_code 27 = .ok (.aload_n 0, 1) := by decide +kernel
theorem d_Flow_solve_28 : decode prog_2_method_2_code 28 = .ok (.iconst 0, 1) := by decide +kernel
theorem d_Flow_solve_29 : decode prog_2_method_2_code 29 = .ok (.putfield 36, 3) := by decide +kernel
theorem d_Flow_solve_32 : decode prog_2_method_2_code 32 = .ok (.aload_n 0, 1) := by decide +kernel
theorem d_Flow_solve_33 : decode prog_2_method_2_code 33 = .ok (.iconst 1, 1) := by decide +kernel
theorem d_Flow_solve_34 : decode prog_2_method_2_code 34 = .ok (.putfield 39, 3) := by decide +kernel
theorem d_Flow_solve_37 : decode prog_2_method_2_code 37 = .ok (.iconst 0, 1) := by decide +kernel
theorem d_Flow_solve_38 : decode prog_2_method_2_code 38 = .ok (.istore_n 2, 1) := by decide +kernel
theorem d_Flow_solve_39 : decode prog_2_method_2_code 39 = .ok (.iload_n 2, 1) := by decide +kernel
theorem d_Flow_solve_40 : decode prog_2_method_2_code 40 = .ok (.ldc 53, 2) := by decide +kernel
theorem d_Flow_solve_42 : decode prog_2_method_2_code 42 = .ok (.if_icmp .ge 55, 3) := by decide +kernel
theorem d_Flow_solve_45 : decode prog_2_method_2_code 45 = .ok (.aload_n 0, 1) := by decide +kernel
theorem d_Flow_solve_46 : decode prog_2_method_2_code 46 = .ok (.getfield 39, 3) := by decide +kernel
theorem d_Flow_solve_49 : decode prog_2_method_2_code 49 = .ok (.ifCond .eq 48, 3) := by decide +kernel
theorem d_Flow_solve_52 : decode prog_2_method_2_code 52 = .ok (.aload_n 0, 1) := by decide +kernel
theorem d_Flow_solve_53 : decode prog_2_method_2_code 53 = .ok (.iconst 0, 1) := by decide +kernel
theorem d_Flow_solve_54 : decode prog_2_method_2_code 54 = .ok (.putfield 39, 3) := by decide +kernel
theorem d_Flow_solve_57 : decode prog_2_method_2_code 57 = .ok (.iconst 0, 1) := by decide +kernel
theorem d_Flow_solve_58 : decode prog_2_method_2_code 58 = .ok (.istore_n 3, 1) := by decide +kernel
theorem d_Flow_solve_59 : decode prog_2_method_2_code 59 = .ok (.iload_n 3, 1) := by decide +kernel
theorem d_Flow_solve_60 : decode prog_2_method_2_code 60 = .ok (.aload_n 1, 1) := by decide +kernel
theorem d_Flow_solve_61 : decode prog_2_method_2_code 61 = .ok (.invokevirtual 43, 3) := by decide +kernel
theorem d_Flow_solve_64 : decode prog_2_method_2_code 64 = .ok (.if_icmp .ge 27, 3) := by decide +kernel
theorem d_Flow_solve_67 : decode prog_2_method_2_code 67 = .ok (.aload_n 0, 1) := by decide +kernel
theorem d_Flow_solve_68 : decode prog_2_method_2_code 68 = .ok (.aload_n 1, 1) := by decide +kernel
theorem d_Flow_solve_69 : decode prog_2_method_2_code 69 = .ok (.iload_n 3, 1) := by decide +kernel
theorem d_Flow_solve_70 : decode prog_2_method_2_code 70 = .ok (.invokevirtual 54, 3) := by decide +kernel
theorem d_Flow_solve_73 : decode prog_2_method_2_code 73 = .ok (.invokevirtual 58, 3) := by decide +kernel
theorem d_Flow_solve_76 : decode prog_2_method_2_code 76 = .ok (.ifCond .eq 9, 3) := by decide +kernel
theorem d_Flow_solve_79 : decode prog_2_method_2_code 79 = .ok (.aload_n 0, 1) := by decide +kernel
theorem d_Flow_solve_80 : decode prog_2_method_2_code 80 = .ok (.aload_n 1, 1) := by decide +kernel
theorem d_Flow_solve_81 : decode prog_2_method_2_code 81 = .ok (.iload_n 3, 1) := by decide +kernel
theorem d_Flow_solve_82 : decode prog_2_method_2_code 82 = .ok (.invokevirtual 62, 3) := by decide +kernel
theorem d_Flow_solve_85 : decode prog_2_method_2_code 85 = .ok (.iinc 3 1, 3) := by decide +kernel
theorem d_Flow_solve_88 : decode prog_2_method_2_code 88 = .ok (.goto (-29), 3) := by decide +kernel
theorem d_Flow_solve_91 : decode prog_2_method_2_code 91 = .ok (.iinc 2 1, 3) := by decide +kernel
theorem d_Flow_solve_94 : decode prog_2_method_2_code 94 = .ok (.goto (-55), 3) := by decide +kernel
theorem d_Flow_solve_97 : decode prog_2_method_2_code 97 = .ok (.aload_n 0, 1) := by decide +kernel
theorem d_Flow_solve_98 : decode prog_2_method_2_code 98 = .ok (.aload_n 1, 1) := by decide +kernel
theorem d_Flow_solve_99 : decode prog_2_method_2_code 99 = .ok (.invokevirtual 66, 3) := by decide +kernel
theorem d_Flow_solve_102 : decode prog_2_method_2_code 102 = .ok (.aload_n 0, 1) := by decide +kernel
theorem d_Flow_solve_103 : decode prog_2_method_2_code 103 = .ok (.aload_n 1, 1) := by decide +kernel
theorem d_Flow_solve_104 : decode prog_2_method_2_code 104 = .ok (.invokevirtual 70, 3) := by decide +kernel
theorem d_Flow_solve_107 : decode prog_2_method_2_code 107 = .ok (.aload_n 0, 1) := by decide +kernel
theorem d_Flow_solve_108 : decode prog_2_method_2_code 108 = .ok (.aload_n 1, 1) := by decide +kernel
theorem d_Flow_solve_109 : decode prog_2_method_2_code 109 = .ok (.invokevirtual 73, 3) := by decide +kernel
theorem d_Flow_solve_112 : decode prog_2_method_2_code 112 = .ok (.return_, 1) := by decide +kernel
def fm_Flow_solve_j97 (o : Nat) (a1 : Nat) (w : fa_W) : Option fa_W :=
  (fm_Flow_listCalls o a1 w).bind fun w11 =>
  (fm_Flow_closeCalls o a1 w11).bind fun w13 =>
  (fm_Flow_listRings o a1 w13).bind fun w15 =>
  some w15
set_option maxHeartbeats 4000000 in
set_option maxRecDepth 100000 in
theorem c_Flow_solve_j97 {p : Program} {l : Launch} {e : Env} {s : State} {m : MethodId} {args : Array Value} {below : List Frame} {meth : Method} {c : Code} {hh : Nat} {D : va_G} {b : Nat} {aC : Nat → ClassId} {H0 : Heap} {N T : Nat} (X : fa_GX p s m args meth c prog_2_method_2_code 4 ((Option.none : Option Jvm.ClassFile.FieldType)) y_Flow_solve.cls D b aC) (hle : 4 ≤ hh) (hN : fa_NX ≤ N) (hT : fa_TX ≤ T) (o : Nat) (a1 : Nat) (ho : (fa_sh o).1 = 1) (ha1 : (fa_sh a1).1 = 4) {r : fa_W}  : ∀ (w : fa_W) (_ : fm_Flow_solve_j97 o a1 w = some r), fa_GJ p l e (fa_rm hh) s m args below meth c 0 0 (MQ below (fa_Qc D b aC H0 N T (none) r) args s 0 0 (fun q => b ≤ q)) D b aC H0 N T 4 w 97 [(0, .ref (b + o)), (1, .ref (b + a1))] [] := by
  intro w hM
  unfold fm_Flow_solve_j97 at hM
  refine g_aload_n X 0 rfl d_Flow_solve_97 ?_
  refine g_aload_n X 1 rfl d_Flow_solve_98 ?_
  obtain ⟨w11, e10, hM⟩ := fa_ob hM
  refine g_callV_v X ck_1 ho (fa_xn ho (by decide) hN) rfl mi_Flow_listCalls (c_Flow_listCalls hN hT o a1 ho ha1 w _ e10) wd_561 rfl (Nat.le_trans (Nat.le_of_ble_eq_true rfl) hle) (st := []) (Nat.le_of_ble_eq_true rfl) rfl d_Flow_solve_99 ?_
  refine g_aload_n X 0 rfl d_Flow_solve_102 ?_
  refine g_aload_n X 1 rfl d_Flow_solve_103 ?_
  obtain ⟨w13, e12, hM⟩ := fa_ob hM
  refine g_callV_v X ck_1 ho (fa_xn ho (by decide) hN) rfl mi_Flow_closeCalls (c_Flow_closeCalls hN hT o a1 ho ha1 w11 _ e12) wd_569 rfl (Nat.le_trans (Nat.le_of_ble_eq_true rfl) hle) (st := []) (Nat.le_of_ble_eq_true rfl) rfl d_Flow_solve_104 ?_
  refine g_aload_n X 0 rfl d_Flow_solve_107 ?_
  refine g_aload_n X 1 rfl d_Flow_solve_108 ?_
  obtain ⟨w15, e14, hM⟩ := fa_ob hM
  refine g_callV_v X ck_1 ho (fa_xn ho (by decide) hN) rfl mi_Flow_listRings (c_Flow_listRings hN hT o a1 ho ha1 w13 _ e14) wd_575 rfl (Nat.le_trans (Nat.le_of_ble_eq_true rfl) hle) (st := []) (Nat.le_of_ble_eq_true rfl) rfl d_Flow_solve_109 ?_
  cases hM
  exact g_vret X d_Flow_solve_112
def fm_Flow_solve_l59 (o : Nat) (a1 : Nat) (k39 : Int → fa_W → Option fa_W) : Nat → Int → Int → fa_W → Option fa_W
  | 0, _, _, _ => none
  | n + 1, x2, x3, w => if fa_wr (fm_Program_things a1 w) ≤ fa_wr x3 then
  (fa_let (x2 + 1) fun x2_20 =>
  k39 x2_20 w)
  else
  (if fm_Flow_looked o (fm_Program_owner a1 x3 w) w = true then
  ((fm_Flow_look o a1 x3 w).bind fun w26 =>
  fa_let (x3 + 1) fun x3_27 =>
  fm_Flow_solve_l59 o a1 k39 n x2 x3_27 w26)
  else
  (fa_let (x3 + 1) fun x3_24 =>
  fm_Flow_solve_l59 o a1 k39 n x2 x3_24 w))
set_option maxHeartbeats 4000000 in
set_option maxRecDepth 100000 in
theorem c_Flow_solve_l59 {p : Program} {l : Launch} {e : Env} {s : State} {m : MethodId} {args : Array Value} {below : List Frame} {meth : Method} {c : Code} {hh : Nat} {D : va_G} {b : Nat} {aC : Nat → ClassId} {H0 : Heap} {N T : Nat} (X : fa_GX p s m args meth c prog_2_method_2_code 4 ((Option.none : Option Jvm.ClassFile.FieldType)) y_Flow_solve.cls D b aC) (hle : 4 ≤ hh) (hN : fa_NX ≤ N) (hT : fa_TX ≤ T) (o : Nat) (a1 : Nat) (ho : (fa_sh o).1 = 1) (ha1 : (fa_sh a1).1 = 4) {r : fa_W} (k39 : Int → fa_W → Option fa_W) (K39 : ∀ (x2 : Int) (w : fa_W), k39 x2 w = some r → fa_GJ p l e (fa_rm hh) s m args below meth c 0 0 (MQ below (fa_Qc D b aC H0 N T (none) r) args s 0 0 (fun q => b ≤ q)) D b aC H0 N T 4 w 39 [(0, .ref (b + o)), (1, .ref (b + a1)), (2, .int (fa_I x2))] []) : ∀ (n : Nat) (x2 : Int) (x3 : Int) (w : fa_W), fm_Flow_solve_l59 o a1 k39 n x2 x3 w = some r → fa_GJ p l e (fa_rm hh) s m args below meth c 0 0 (MQ below (fa_Qc D b aC H0 N T (none) r) args s 0 0 (fun q => b ≤ q)) D b aC H0 N T 4 w 59 [(0, .ref (b + o)), (1, .ref (b + a1)), (2, .int (fa_I x2)), (3, .int (fa_I x3))] [] := by
  intro n
  induction n with
  | zero => intro x2 x3 w hM; exact fa_no hM
  | succ n ih =>
    intro x2 x3 w hM
    rw [fm_Flow_solve_l59] at hM
    refine g_iload_n X 3 rfl d_Flow_solve_59 ?_
    refine g_aload_n X 1 rfl d_Flow_solve_60 ?_
    refine g_callV_i X ck_4 ha1 (fa_xn ha1 (by decide) hN) rfl mi_Program_things (c_Program_things hN hT a1 ha1 w _ rfl) wd_519 rfl (Nat.le_trans (Nat.le_of_ble_eq_true rfl) hle) (st := [.int (fa_I x3)]) (Nat.le_of_ble_eq_true rfl) rfl d_Flow_solve_61 ?_
    refine g_icmp_ge X 91 d_Flow_solve_64 (by decide) (fun hc19 => ?_) (fun hc19 => ?_)
    · have hM := fa_if_t hM hc19
      refine g_iinc X 2 (fun x2_20 => [(2, .int (fa_I x2_20)), (0, .ref (b + o)), (1, .ref (b + a1)), (3, .int (fa_I x3))]) d_Flow_solve_91 rfl (by decide) (fun _ => rfl) (fun x2_20 ex2_20 => ?_)
      have hM := fa_let_to hM ex2_20
      refine g_goto X 39 d_Flow_solve_94 (by decide) ?_
      exact g_lv [1, 2, 0] rfl (K39 _ _ hM)
    · have hM := fa_if_f hM hc19
      refine g_aload_n X 0 rfl d_Flow_solve_67 ?_
      refine g_aload_n X 1 rfl d_Flow_solve_68 ?_
      refine g_iload_n X 3 rfl d_Flow_solve_69 ?_
      refine g_callV_i X ck_4 ha1 (fa_xn ha1 (by decide) hN) rfl mi_Program_owner (c_Program_owner hN hT a1 x3 ha1 w _ rfl) wd_522 rfl (Nat.le_trans (Nat.le_of_ble_eq_true rfl) hle) (st := [.ref (b + o)]) (Nat.le_of_ble_eq_true rfl) rfl d_Flow_solve_70 ?_
      refine g_callV_i X ck_1 ho (fa_xn ho (by decide) hN) rfl mi_Flow_looked (c_Flow_looked hN hT o (fm_Program_owner a1 x3 w) ho w _ rfl) wd_526 rfl (Nat.le_trans (Nat.le_of_ble_eq_true rfl) hle) (st := []) (Nat.le_of_ble_eq_true rfl) rfl d_Flow_solve_73 ?_
      refine g_ifb_eq X 85 d_Flow_solve_76 (by decide) (fun hc23 => ?_) (fun hc23 => ?_)
      · have hM := fa_ifb_f hM hc23
        refine g_iinc X 3 (fun x3_24 => [(3, .int (fa_I x3_24)), (0, .ref (b + o)), (1, .ref (b + a1)), (2, .int (fa_I x2))]) d_Flow_solve_85 rfl (by decide) (fun _ => rfl) (fun x3_24 ex3_24 => ?_)
        have hM := fa_let_to hM ex3_24
        refine g_goto X 59 d_Flow_solve_88 (by decide) ?_
        exact g_lv [1, 2, 3, 0] rfl (ih _ _ _ hM)
      · have hM := fa_ifb_t hM hc23
        refine g_aload_n X 0 rfl d_Flow_solve_79 ?_
        refine g_aload_n X 1 rfl d_Flow_solve_80 ?_
        refine g_iload_n X 3 rfl d_Flow_solve_81 ?_
        obtain ⟨w26, e25, hM⟩ := fa_ob hM
        refine g_callV_v X ck_1 ho (fa_xn ho (by decide) hN) rfl mi_Flow_look (c_Flow_look hN hT o a1 x3 ho ha1 w _ e25) wd_533 rfl (Nat.le_trans (Nat.le_of_ble_eq_true rfl) hle) (st := []) (Nat.le_of_ble_eq_true rfl) rfl d_Flow_solve_82 ?_
        refine g_iinc X 3 (fun x3_27 => [(3, .int (fa_I x3_27)), (0, .ref (b + o)), (1, .ref (b + a1)), (2, .int (fa_I x2))]) d_Flow_solve_85 rfl (by decide) (fun _ => rfl) (fun x3_27 ex3_27 => ?_)
        have hM := fa_let_to hM ex3_27
        refine g_goto X 59 d_Flow_solve_88 (by decide) ?_
        exact g_lv [1, 2, 3, 0] rfl (ih _ _ _ hM)
def fm_Flow_solve_l39 (o : Nat) (a1 : Nat) : Nat → Int → fa_W → Option fa_W
  | 0, _, _ => none
  | n + 1, x2, w => if 1000000 ≤ fa_wr x2 then
  fm_Flow_solve_j97 o a1 w
  else
  (if decide (w o 7 ≠ 0) = true then
  (fa_let (fa_st w o 7 (fa_bi false)) fun w17 =>
  fm_Flow_solve_l59 o a1 (fun x2 w9 => fm_Flow_solve_l39 o a1 n x2 w9) fa_FU x2 0 w17)
  else
  fm_Flow_solve_j97 o a1 w)
set_option maxHeartbeats 4000000 in
set_option maxRecDepth 100000 in
theorem c_Flow_solve_l39 {p : Program} {l : Launch} {e : Env} {s : State} {m : MethodId} {args : Array Value} {below : List Frame} {meth : Method} {c : Code} {hh : Nat} {D : va_G} {b : Nat} {aC : Nat → ClassId} {H0 : Heap} {N T : Nat} (X : fa_GX p s m args meth c prog_2_method_2_code 4 ((Option.none : Option Jvm.ClassFile.FieldType)) y_Flow_solve.cls D b aC) (hle : 4 ≤ hh) (hN : fa_NX ≤ N) (hT : fa_TX ≤ T) (o : Nat) (a1 : Nat) (ho : (fa_sh o).1 = 1) (ha1 : (fa_sh a1).1 = 4) {r : fa_W}  : ∀ (n : Nat) (x2 : Int) (w : fa_W), fm_Flow_solve_l39 o a1 n x2 w = some r → fa_GJ p l e (fa_rm hh) s m args below meth c 0 0 (MQ below (fa_Qc D b aC H0 N T (none) r) args s 0 0 (fun q => b ≤ q)) D b aC H0 N T 4 w 39 [(0, .ref (b + o)), (1, .ref (b + a1)), (2, .int (fa_I x2))] [] := by
  intro n
  induction n with
  | zero => intro x2 w hM; exact fa_no hM
  | succ n ih =>
    intro x2 w hM
    rw [fm_Flow_solve_l39] at hM
    refine g_iload_n X 2 rfl d_Flow_solve_39 ?_
    refine g_ldc X (n := 1000000) wd_521 (by decide) d_Flow_solve_40 ?_
    refine g_icmp_ge X 97 d_Flow_solve_42 (by decide) (fun hc9 => ?_) (fun hc9 => ?_)
    · have hM := fa_if_t hM hc9
      exact g_lv [0, 1] rfl (c_Flow_solve_j97 X hle hN hT o a1 ho ha1    _ hM)
    · have hM := fa_if_f hM hc9
      refine g_aload_n X 0 rfl d_Flow_solve_45 ?_
      refine g_get X ck_1 ho (fa_xn ho (by decide) hN) 7 (by decide) wd_348 rfl (fa_fvB rfl) d_Flow_solve_46 ?_
      refine g_ifb_eq X 97 d_Flow_solve_49 (by decide) (fun hc16 => ?_) (fun hc16 => ?_)
      · have hM := fa_ifb_f hM hc16
        exact g_lv [0, 1] rfl (c_Flow_solve_j97 X hle hN hT o a1 ho ha1    _ hM)
      · have hM := fa_ifb_t hM hc16
        refine g_aload_n X 0 rfl d_Flow_solve_52 ?_
        refine g_iconst X d_Flow_solve_53 ?_
        refine g_put X ck_1 ho (fa_xn ho (by decide) hN) 7 (z := (fa_bi false)) (by decide) wd_348 rfl (fa_fvB' rfl) rfl (fa_nb false).1 (fa_nb false).2 d_Flow_solve_54 (fun w17 ew17 => ?_)
        have hM := fa_let_to hM ew17
        refine g_iconst X d_Flow_solve_57 ?_
        refine g_istorec_n X [(3, .int (fa_I 0)), (0, .ref (b + o)), (1, .ref (b + a1)), (2, .int (fa_I x2))] d_Flow_solve_58 (by decide) rfl ?_
        exact g_lv [1, 2, 3, 0] rfl (c_Flow_solve_l59 X hle hN hT o a1 ho ha1  (fun x2 w9 => fm_Flow_solve_l39 o a1 n x2 w9) (fun _ _ h => ih _ _ h) fa_FU _ _ _ hM)
def fm_Flow_solve (o : Nat) (a1 : Nat) (w : fa_W) : Option fa_W :=
  fa_let (fr_refill (fa_rf o 0) (fm_Program_things a1 w) 0 w) fun w3 =>
  fa_let (fr_refill (fa_rf o 1) 74 0 w3) fun w5 =>
  fa_let (fa_st w5 o 5 0) fun w6 =>
  fa_let (fa_st w6 o 6 0) fun w7 =>
  fa_let (fa_st w7 o 7 (fa_bi true)) fun w8 =>
  fm_Flow_solve_l39 o a1 fa_FU 0 w8
set_option maxHeartbeats 4000000 in
set_option maxRecDepth 100000 in
theorem c_Flow_solve {l : Launch} {D : va_G} {b : Nat} {aC : Nat → ClassId} {H0 : Heap} {N T : Nat} (hN : fa_NX ≤ N) (hT : fa_TX ≤ T) (o : Nat) (a1 : Nat) (ho : (fa_sh o).1 = 1) (ha1 : (fa_sh a1).1 = 4)  (w : fa_W) (r : fa_W) (hM : fm_Flow_solve o a1 w = some r) : fa_MC l D b aC H0 N T y_Flow_solve prog_2_method_2_code 4 ((Option.none : Option Jvm.ClassFile.FieldType)) (4) [.ref (b + o), .ref (b + a1)] w (none) r := by
  refine fa_enter (lv := [(0, .ref (b + o)), (1, .ref (b + a1))]) (by decide +kernel) (Nat.le_of_ble_eq_true rfl) rfl (fun hh hle hnm X => ?_)
  unfold fm_Flow_solve at hM
  refine g_aload_n X 0 rfl d_Flow_solve_0 ?_
  refine g_get X ck_1 ho (fa_xn ho (by decide) hN) 0 (by decide) wd_332 rfl (fa_fvR rfl (fa_xt ho (by decide) hT 0)) d_Flow_solve_1 ?_
  refine g_aload_n X 1 rfl d_Flow_solve_4 ?_
  refine g_callV_i X ck_4 ha1 (fa_xn ha1 (by decide) hN) rfl mi_Program_things (c_Program_things hN hT a1 ha1 w _ rfl) wd_519 rfl (Nat.le_trans (Nat.le_of_ble_eq_true rfl) hle) (st := [.ref (b + (fa_rf o 0))]) (Nat.le_of_ble_eq_true rfl) rfl d_Flow_solve_5 ?_
  refine g_iconst X d_Flow_solve_8 ?_
  obtain ⟨w3, e2⟩ : ∃ q, fr_refill (fa_rf o 0) (fm_Program_things a1 w) 0 w = q := ⟨_, rfl⟩
  have hM := fa_let_to hM e2.symm
  refine g_callV_v X ck_6 (fa_r1_0 _ ho) (fa_xn (fa_r1_0 _ ho) (by decide) hN) rfl mi_Row_refill (ct_Row_refill (fa_rf o 0) (fm_Program_things a1 w) 0 (fa_ro (fa_r1_0 _ ho) hN hT) w _ e2) wd_520 rfl (Nat.le_trans (Nat.le_of_ble_eq_true rfl) hle) (st := []) (Nat.le_of_ble_eq_true rfl) rfl d_Flow_solve_9 ?_
  refine g_aload_n X 0 rfl d_Flow_solve_12 ?_
  refine g_get X ck_1 ho (fa_xn ho (by decide) hN) 1 (by decide) wd_334 rfl (fa_fvR rfl (fa_xt ho (by decide) hT 1)) d_Flow_solve_13 ?_
  refine g_bipush X (by decide) d_Flow_solve_16 ?_
  refine g_iconst X d_Flow_solve_18 ?_
  obtain ⟨w5, e4⟩ : ∃ q, fr_refill (fa_rf o 1) 74 0 w3 = q := ⟨_, rfl⟩
  have hM := fa_let_to hM e4.symm
  refine g_callV_v X ck_6 (fa_r1_1 _ ho) (fa_xn (fa_r1_1 _ ho) (by decide) hN) rfl mi_Row_refill (ct_Row_refill (fa_rf o 1) 74 0 (fa_ro (fa_r1_1 _ ho) hN hT) w3 _ e4) wd_520 rfl (Nat.le_trans (Nat.le_of_ble_eq_true rfl) hle) (st := []) (Nat.le_of_ble_eq_true rfl) rfl d_Flow_solve_19 ?_
  refine g_aload_n X 0 rfl d_Flow_solve_22 ?_
  refine g_iconst X d_Flow_solve_23 ?_
  refine g_put X ck_1 ho (fa_xn ho (by decide) hN) 5 (z := 0) (by decide) wd_341 rfl (fa_fvI' rfl) rfl rfl rfl d_Flow_solve_24 (fun w6 ew6 => ?_)
  have hM := fa_let_to hM ew6
  refine g_aload_n X 0 rfl d_Flow_solve_27 ?_
  refine g_iconst X d_Flow_solve_28 ?_
  refine g_put X ck_1 ho (fa_xn ho (by decide) hN) 6 (z := 0) (by decide) wd_344 rfl (fa_fvI' rfl) rfl rfl rfl d_Flow_solve_29 (fun w7 ew7 => ?_)
  have hM := fa_let_to hM ew7
  refine g_aload_n X 0 rfl d_Flow_solve_32 ?_
  refine g_iconst X d_Flow_solve_33 ?_
  refine g_put X ck_1 ho (fa_xn ho (by decide) hN) 7 (z := (fa_bi true)) (by decide) wd_348 rfl (fa_fvB' rfl) rfl (fa_nb true).1 (fa_nb true).2 d_Flow_solve_34 (fun w8 ew8 => ?_)
  have hM := fa_let_to hM ew8
  refine g_iconst X d_Flow_solve_37 ?_
  refine g_istorec_n X [(2, .int (fa_I 0)), (0, .ref (b + o)), (1, .ref (b + a1))] d_Flow_solve_38 (by decide) rfl ?_
  exact g_lv [1, 2, 0] rfl (c_Flow_solve_l39 X hle hN hT o a1 ho ha1   fa_FU _ _ hM)
theorem d_Flow_escapes_0 : decode prog_2_method_9_code 0 = .ok (.aload_n 0, 1) := by decide +kernel
theorem d_Flow_escapes_1 : decode prog_2_method_9_code 1 = .ok (.getfield 14, 3) := by decide +kernel
theorem d_Flow_escapes_4 : decode prog_2_method_9_code 4 = .ok (.aload_n 1, 1) := by decide +kernel
theorem d_Flow_escapes_5 : decode prog_2_method_9_code 5 = .ok (.getfield 118, 3) := by decide +kernel
theorem d_Flow_escapes_8 : decode prog_2_method_9_code 8 = .ok (.invokevirtual 86, 3) := by decide +kernel
theorem d_Flow_escapes_11 : decode prog_2_method_9_code 11 = .ok (.ireturn, 1) := by decide +kernel
def fm_Flow_escapes (o : Nat) (a1 : Nat) (w : fa_W) : Int :=
  fr_bits (fa_rf o 0) (w a1 16) w
set_option maxHeartbeats 4000000 in
set_option maxRecDepth 100000 in
theorem c_Flow_escapes {l : Launch} {D : va_G} {b : Nat} {aC : Nat → ClassId} {H0 : Heap} {N T : Nat} (hN : fa_NX ≤ N) (hT : fa_TX ≤ T) (o : Nat) (a1 : Nat) (ho : (fa_sh o).1 = 1) (ha1 : (fa_sh a1).1 = 4)  (w : fa_W) (r : Int) (hM : fm_Flow_escapes o a1 w = r) : fa_MC l D b aC H0 N T y_Flow_escapes prog_2_method_9_code 2 ((Option.some Jvm.ClassFile.FieldType.int)) (1) [.ref (b + o), .ref (b + a1)] w (some (.int (fa_I r))) w := by
  refine fa_enter (lv := [(0, .ref (b + o)), (1, .ref (b + a1))]) (by decide +kernel) (Nat.le_of_ble_eq_true rfl) rfl (fun hh hle hnm X => ?_)
  unfold fm_Flow_escapes at hM
  refine g_aload_n X 0 rfl d_Flow_escapes_0 ?_
  refine g_get X ck_1 ho (fa_xn ho (by decide) hN) 0 (by decide) wd_332 rfl (fa_fvR rfl (fa_xt ho (by decide) hT 0)) d_Flow_escapes_1 ?_
  refine g_aload_n X 1 rfl d_Flow_escapes_4 ?_
  refine g_getN X ck_4 ha1 (fa_xn ha1 (by decide) hN) 16 (by decide) wd_111 rfl (fa_fvI rfl) d_Flow_escapes_5 ?_
  refine g_callV_i X ck_6 (fa_r1_0 _ ho) (fa_xn (fa_r1_0 _ ho) (by decide) hN) rfl mi_Row_bits (ct_Row_bits (fa_rf o 0) (w a1 16) (fa_ro (fa_r1_0 _ ho) hN hT) w _ rfl) wd_539 rfl (Nat.le_trans (Nat.le_of_ble_eq_true rfl) hle) (st := []) (Nat.le_of_ble_eq_true rfl) rfl d_Flow_escapes_8 ?_
  subst hM
  exact g_iret X d_Flow_escapes_11
theorem d_Flow_callsOf_0 : decode prog_2_method_16_code 0 = .ok (.iconst 0, 1) := by decide +kernel
theorem d_Flow_callsOf_1 : decode prog_2_method_16_code 1 = .ok (.istore_n 2, 1) := by decide +kernel
theorem d_Flow_callsOf_2 : decode prog_2_method_16_code 2 = .ok (.iconst 0, 1) := by decide +kernel
theorem d_Flow_callsOf_3 : decode prog_2_method_16_code 3 = .ok (.istore_n 3, 1) := by decide +kernel
theorem d_Flow_callsOf_4 : decode prog_2_method_16_code 4 = .ok (.iload_n 3, 1) := by decide +kernel
theorem d_Flow_callsOf_5 : decode prog_2_method_16_code 5 = .ok (.aload_n 0, 1) := by decide +kernel
theorem d_Flow_callsOf_6 : decode prog_2_method_16_code 6 = .ok (.getfield 23, 3) := by decide +kernel
theorem d_Flow_callsOf_9 : decode prog_2_method_16_code 9 = .ok (.invokevirtual 142, 3) := by decide +kernel
theorem d_Flow_callsOf_12 : decode prog_2_method_16_code 12 = .ok (.if_icmp .ge 28, 3) := by decide +kernel
theorem d_Flow_callsOf_15 : decode prog_2_method_16_code 15 = .ok (.iload_n 1, 1) := by decide +kernel
theorem d_Flow_callsOf_16 : decode prog_2_method_16_code 16 = .ok (.iload_n 3, 1) := by decide +kernel
theorem d_Flow_callsOf_17 : decode prog_2_method_16_code 17 = .ok (.invokestatic 76, 3) := by decide +kernel
theorem d_Flow_callsOf_20 : decode prog_2_method_16_code 20 = .ok (.ifCond .eq 14, 3) := by decide +kernel
theorem d_Flow_callsOf_23 : decode prog_2_method_16_code 23 = .ok (.iload_n 2, 1) := by decide +kernel
theorem d_Flow_callsOf_24 : decode prog_2_method_16_code 24 = .ok (.aload_n 0, 1) := by decide +kernel
theorem d_Flow_callsOf_25 : decode prog_2_method_16_code 25 = .ok (.getfield 23, 3) := by decide +kernel
theorem d_Flow_callsOf_28 : decode prog_2_method_16_code 28 = .ok (.iload_n 3, 1) := by decide +kernel
theorem d_Flow_callsOf_29 : decode prog_2_method_16_code 29 = .ok (.invokevirtual 86, 3) := by decide +kernel
theorem d_Flow_callsOf_32 : decode prog_2_method_16_code 32 = .ok (.ior, 1) := by decide +kernel
theorem d_Flow_callsOf_33 : decode prog_2_method_16_code 33 = .ok (.istore_n 2, 1) := by decide +kernel
theorem d_Flow_callsOf_34 : decode prog_2_method_16_code 34 = .ok (.iinc 3 1, 3) := by decide +kernel
theorem d_Flow_callsOf_37 : decode prog_2_method_16_code 37 = .ok (.goto (-33), 3) := by decide +kernel
theorem d_Flow_callsOf_40 : decode prog_2_method_16_code 40 = .ok (.iload_n 2, 1) := by decide +kernel
theorem d_Flow_callsOf_41 : decode prog_2_method_16_code 41 = .ok (.ireturn, 1) := by decide +kernel
def fm_Flow_callsOf_l4 (o : Nat) (a1 : Int) (w : fa_W) : Nat → Int → Int → Option Int
  | 0, _, _ => none
  | n + 1, x2, x3 => if fa_wr (fm_Row_size (fa_rf o 2) w) ≤ fa_wr x3 then
  some x2
  else
  (if fm_Face_hasBit a1 x3 w = true then
  (fa_let (fa_ior x2 (fr_bits (fa_rf o 2) x3 w)) fun x2_7 =>
  fa_let (x3 + 1) fun x3_8 =>
  fm_Flow_callsOf_l4 o a1 w n x2_7 x3_8)
  else
  (fa_let (x3 + 1) fun x3_5 =>
  fm_Flow_callsOf_l4 o a1 w n x2 x3_5))
set_option maxHeartbeats 4000000 in
set_option maxRecDepth 100000 in
theorem c_Flow_callsOf_l4 {p : Program} {l : Launch} {e : Env} {s : State} {m : MethodId} {args : Array Value} {below : List Frame} {meth : Method} {c : Code} {hh : Nat} {D : va_G} {b : Nat} {aC : Nat → ClassId} {H0 : Heap} {N T : Nat} (X : fa_GX p s m args meth c prog_2_method_16_code 4 ((Option.some Jvm.ClassFile.FieldType.int)) y_Flow_callsOf.cls D b aC) (hle : 1 ≤ hh) (hN : fa_NX ≤ N) (hT : fa_TX ≤ T) (o : Nat) (a1 : Int) (ho : (fa_sh o).1 = 1) {r : Int} (w : fa_W) : ∀ (n : Nat) (x2 : Int) (x3 : Int), fm_Flow_callsOf_l4 o a1 w n x2 x3 = some r → fa_GJ p l e (fa_rm hh) s m args below meth c 0 0 (MQ below (fa_Qc D b aC H0 N T (some (.int (fa_I r))) w) args s 0 0 (fun q => b ≤ q)) D b aC H0 N T 4 w 4 [(0, .ref (b + o)), (1, .int (fa_I a1)), (2, .int (fa_I x2)), (3, .int (fa_I x3))] [] := by
  intro n
  induction n with
  | zero => intro x2 x3 hM; exact fa_no hM
  | succ n ih =>
    intro x2 x3 hM
    rw [fm_Flow_callsOf_l4] at hM
    refine g_iload_n X 3 rfl d_Flow_callsOf_4 ?_
    refine g_aload_n X 0 rfl d_Flow_callsOf_5 ?_
    refine g_get X ck_1 ho (fa_xn ho (by decide) hN) 2 (by decide) wd_336 rfl (fa_fvR rfl (fa_xt ho (by decide) hT 2)) d_Flow_callsOf_6 ?_
    refine g_callV_i X ck_6 (fa_r1_2 _ ho) (fa_xn (fa_r1_2 _ ho) (by decide) hN) rfl mi_Row_size (c_Row_size (fa_rf o 2) (fa_ro (fa_r1_2 _ ho) hN hT) w _ rfl) wd_583 rfl (Nat.le_trans (Nat.le_of_ble_eq_true rfl) hle) (st := [.int (fa_I x3)]) (Nat.le_of_ble_eq_true rfl) rfl d_Flow_callsOf_9 ?_
    refine g_icmp_ge X 40 d_Flow_callsOf_12 (by decide) (fun hc2 => ?_) (fun hc2 => ?_)
    · have hM := fa_if_t hM hc2
      refine g_iload_n X 2 rfl d_Flow_callsOf_40 ?_
      cases hM
      exact g_iret X d_Flow_callsOf_41
    · have hM := fa_if_f hM hc2
      refine g_iload_n X 1 rfl d_Flow_callsOf_15 ?_
      refine g_iload_n X 3 rfl d_Flow_callsOf_16 ?_
      refine g_callSN_i X mi_Face_hasBit (c_Face_hasBit hN hT a1 x3 w _ rfl) wd_530 rfl (Nat.le_trans (Nat.le_of_ble_eq_true rfl) hle) (st := []) (Nat.le_of_ble_eq_true rfl) rfl d_Flow_callsOf_17 ?_
      refine g_ifb_eq X 34 d_Flow_callsOf_20 (by decide) (fun hc4 => ?_) (fun hc4 => ?_)
      · have hM := fa_ifb_f hM hc4
        refine g_iinc X 3 (fun x3_5 => [(3, .int (fa_I x3_5)), (0, .ref (b + o)), (1, .int (fa_I a1)), (2, .int (fa_I x2))]) d_Flow_callsOf_34 rfl (by decide) (fun _ => rfl) (fun x3_5 ex3_5 => ?_)
        have hM := fa_let_to hM ex3_5
        refine g_goto X 4 d_Flow_callsOf_37 (by decide) ?_
        exact g_lv [1, 2, 3, 0] rfl (ih _ _ hM)
      · have hM := fa_ifb_t hM hc4
        refine g_iload_n X 2 rfl d_Flow_callsOf_23 ?_
        refine g_aload_n X 0 rfl d_Flow_callsOf_24 ?_
        refine g_get X ck_1 ho (fa_xn ho (by decide) hN) 2 (by decide) wd_336 rfl (fa_fvR rfl (fa_xt ho (by decide) hT 2)) d_Flow_callsOf_25 ?_
        refine g_iload_n X 3 rfl d_Flow_callsOf_28 ?_
        refine g_callV_i X ck_6 (fa_r1_2 _ ho) (fa_xn (fa_r1_2 _ ho) (by decide) hN) rfl mi_Row_bits (ct_Row_bits (fa_rf o 2) x3 (fa_ro (fa_r1_2 _ ho) hN hT) w _ rfl) wd_539 rfl (Nat.le_trans (Nat.le_of_ble_eq_true rfl) hle) (st := [.int (fa_I x2)]) (Nat.le_of_ble_eq_true rfl) rfl d_Flow_callsOf_29 ?_
        refine g_ior X d_Flow_callsOf_32 ?_
        refine g_istore_n X (fun x2_7 => [(2, .int (fa_I x2_7)), (0, .ref (b + o)), (1, .int (fa_I a1)), (3, .int (fa_I x3))]) d_Flow_callsOf_33 (by decide) (fun _ => rfl) (fun x2_7 ex2_7 => ?_)
        have hM := fa_let_to hM ex2_7
        refine g_iinc X 3 (fun x3_8 => [(3, .int (fa_I x3_8)), (2, .int (fa_I x2_7)), (0, .ref (b + o)), (1, .int (fa_I a1))]) d_Flow_callsOf_34 rfl (by decide) (fun _ => rfl) (fun x3_8 ex3_8 => ?_)
        have hM := fa_let_to hM ex3_8
        refine g_goto X 4 d_Flow_callsOf_37 (by decide) ?_
        exact g_lv [2, 3, 1, 0] rfl (ih _ _ hM)
def fm_Flow_callsOf (o : Nat) (a1 : Int) (w : fa_W) : Option Int :=
  fm_Flow_callsOf_l4 o a1 w fa_FU 0 0
set_option maxHeartbeats 4000000 in
set_option maxRecDepth 100000 in
theorem c_Flow_callsOf {l : Launch} {D : va_G} {b : Nat} {aC : Nat → ClassId} {H0 : Heap} {N T : Nat} (hN : fa_NX ≤ N) (hT : fa_TX ≤ T) (o : Nat) (a1 : Int) (ho : (fa_sh o).1 = 1)  (w : fa_W) (r : Int) (hM : fm_Flow_callsOf o a1 w = some r) : fa_MC l D b aC H0 N T y_Flow_callsOf prog_2_method_16_code 4 ((Option.some Jvm.ClassFile.FieldType.int)) (1) [.ref (b + o), .int (fa_I a1)] w (some (.int (fa_I r))) w := by
  refine fa_enter (lv := [(0, .ref (b + o)), (1, .int (fa_I a1))]) (by decide +kernel) (Nat.le_of_ble_eq_true rfl) rfl (fun hh hle hnm X => ?_)
  unfold fm_Flow_callsOf at hM
  refine g_iconst X d_Flow_callsOf_0 ?_
  refine g_istorec_n X [(2, .int (fa_I 0)), (0, .ref (b + o)), (1, .int (fa_I a1))] d_Flow_callsOf_1 (by decide) rfl ?_
  refine g_iconst X d_Flow_callsOf_2 ?_
  refine g_istorec_n X [(3, .int (fa_I 0)), (2, .int (fa_I 0)), (0, .ref (b + o)), (1, .int (fa_I a1))] d_Flow_callsOf_3 (by decide) rfl ?_
  exact g_lv [2, 3, 1, 0] rfl (c_Flow_callsOf_l4 X hle hN hT o a1 ho w  fa_FU _ _ hM)
theorem d_Flow_distance_0 : decode prog_2_method_15_code 0 = .ok (.aload_n 0, 1) := by decide +kernel
theorem d_Flow_distance_1 : decode prog_2_method_15_code 1 = .ok (.getfield 36, 3) := by decide +kernel
theorem d_Flow_distance_4 : decode prog_2_method_15_code 4 = .ok (.iload_n 1, 1) := by decide +kernel
theorem d_Flow_distance_5 : decode prog_2_method_15_code 5 = .ok (.invokestatic 76, 3) := by decide +kernel
theorem d_Flow_distance_8 : decode prog_2_method_15_code 8 = .ok (.ifCond .eq 14, 3) := by decide +kernel
theorem d_Flow_distance_11 : decode prog_2_method_15_code 11 = .ok (.aload_n 0, 1) := by decide +kernel
theorem d_Flow_distance_12 : decode prog_2_method_15_code 12 = .ok (.getfield 36, 3) := by decide +kernel
theorem d_Flow_distance_15 : decode prog_2_method_15_code 15 = .ok (.iload_n 2, 1) := by decide +kernel
theorem d_Flow_distance_16 : decode prog_2_method_15_code 16 = .ok (.invokestatic 76, 3) := by decide +kernel
theorem d_Flow_distance_19 : decode prog_2_method_15_code 19 = .ok (.ifCond .ne 5, 3) := by decide +kernel
theorem d_Flow_distance_22 : decode prog_2_method_15_code 22 = .ok (.iconst (-1), 1) := by decide +kernel
theorem d_Flow_distance_23 : decode prog_2_method_15_code 23 = .ok (.ireturn, 1) := by decide +kernel
theorem d_Flow_distance_24 : decode prog_2_method_15_code 24 = .ok (.iload_n 1, 1) := by decide +kernel
theorem d_Flow_distance_25 : decode prog_2_method_15_code 25 = .ok (.invokestatic 89, 3) := by decide +kernel
theorem d_Flow_distance_28 : decode prog_2_method_15_code 28 = .ok (.istore_n 3, 1) := by decide +kernel
theorem d_Flow_distance_29 : decode prog_2_method_15_code 29 = .ok (.iconst 0, 1) := by decide +kernel
theorem d_Flow_distance_30 : decode prog_2_method_15_code 30 = .ok (.istore 4, 2) := by decide +kernel
theorem d_Flow_distance_32 : decode prog_2_method_15_code 32 = .ok (.iload 4, 2) := by decide +kernel
theorem d_Flow_distance_34 : decode prog_2_method_15_code 34 = .ok (.bipush 24, 2) := by decide +kernel
theorem d_Flow_distance_36 : decode prog_2_method_15_code 36 = .ok (.if_icmp .ge 28, 3) := by decide +kernel
theorem d_Flow_distance_39 : decode prog_2_method_15_code 39 = .ok (.iload_n 3, 1) := by decide +kernel
theorem d_Flow_distance_40 : decode prog_2_method_15_code 40 = .ok (.iload_n 2, 1) := by decide +kernel
theorem d_Flow_distance_41 : decode prog_2_method_15_code 41 = .ok (.invokestatic 76, 3) := by decide +kernel
theorem d_Flow_distance_44 : decode prog_2_method_15_code 44 = .ok (.ifCond .eq 6, 3) := by decide +kernel
theorem d_Flow_distance_47 : decode prog_2_method_15_code 47 = .ok (.iload 4, 2) := by decide +kernel
theorem d_Flow_distance_49 : decode prog_2_method_15_code 49 = .ok (.ireturn, 1) := by decide +kernel
theorem d_Flow_distance_50 : decode prog_2_method_15_code 50 = .ok (.iload_n 3, 1) := by decide +kernel
theorem d_Flow_distance_51 : decode prog_2_method_15_code 51 = .ok (.aload_n 0, 1) := by decide +kernel
theorem d_Flow_distance_52 : decode prog_2_method_15_code 52 = .ok (.iload_n 3, 1) := by decide +kernel
theorem d_Flow_distance_53 : decode prog_2_method_15_code 53 = .ok (.invokevirtual 145, 3) := by decide +kernel
theorem d_Flow_distance_56 : decode prog_2_method_15_code 56 = .ok (.ior, 1) := by decide +kernel
theorem d_Flow_distance_57 : decode prog_2_method_15_code 57 = .ok (.istore_n 3, 1) := by decide +kernel
theorem d_Flow_distance_58 : decode prog_2_method_15_code 58 = .ok (.iinc 4 1, 3) := by decide +kernel
theorem d_Flow_distance_61 : decode prog_2_method_15_code 61 = .ok (.goto (-29), 3) := by decide +kernel
theorem d_Flow_distance_64 : decode prog_2_method_15_code 64 = .ok (.iconst (-1), 1) := by decide +kernel
theorem d_Flow_distance_65 : decode prog_2_method_15_code 65 = .ok (.ireturn, 1) := by decide +kernel
def fm_Flow_distance_l32 (o : Nat) (a1 : Int) (a2 : Int) (w : fa_W) : Nat → Int → Int → Option Int
  | 0, _, _ => none
  | n + 1, x3, x4 => if 24 ≤ fa_wr x4 then
  some (-1)
  else
  (if fm_Face_hasBit x3 a2 w = true then
  some x4
  else
  ((fm_Flow_callsOf o x3 w).bind fun v11 =>
  fa_let (fa_ior x3 v11) fun x3_12 =>
  fa_let (x4 + 1) fun x4_13 =>
  fm_Flow_distance_l32 o a1 a2 w n x3_12 x4_13))
set_option maxHeartbeats 4000000 in
set_option maxRecDepth 100000 in
theorem c_Flow_distance_l32 {p : Program} {l : Launch} {e : Env} {s : State} {m : MethodId} {args : Array Value} {below : List Frame} {meth : Method} {c : Code} {hh : Nat} {D : va_G} {b : Nat} {aC : Nat → ClassId} {H0 : Heap} {N T : Nat} (X : fa_GX p s m args meth c prog_2_method_15_code 5 ((Option.some Jvm.ClassFile.FieldType.int)) y_Flow_distance.cls D b aC) (hle : 2 ≤ hh) (hN : fa_NX ≤ N) (hT : fa_TX ≤ T) (o : Nat) (a1 : Int) (a2 : Int) (ho : (fa_sh o).1 = 1) {r : Int} (w : fa_W) : ∀ (n : Nat) (x3 : Int) (x4 : Int), fm_Flow_distance_l32 o a1 a2 w n x3 x4 = some r → fa_GJ p l e (fa_rm hh) s m args below meth c 0 0 (MQ below (fa_Qc D b aC H0 N T (some (.int (fa_I r))) w) args s 0 0 (fun q => b ≤ q)) D b aC H0 N T 5 w 32 [(0, .ref (b + o)), (2, .int (fa_I a2)), (3, .int (fa_I x3)), (4, .int (fa_I x4))] [] := by
  intro n
  induction n with
  | zero => intro x3 x4 hM; exact fa_no hM
  | succ n ih =>
    intro x3 x4 hM
    rw [fm_Flow_distance_l32] at hM
    refine g_iload X 3 rfl d_Flow_distance_32 ?_
    refine g_bipush X (by decide) d_Flow_distance_34 ?_
    refine g_icmp_ge X 64 d_Flow_distance_36 (by decide) (fun hc7 => ?_) (fun hc7 => ?_)
    · have hM := fa_if_t hM hc7
      refine g_iconst X d_Flow_distance_64 ?_
      cases hM
      exact g_iret X d_Flow_distance_65
    · have hM := fa_if_f hM hc7
      refine g_iload_n X 2 rfl d_Flow_distance_39 ?_
      refine g_iload_n X 1 rfl d_Flow_distance_40 ?_
      refine g_callSN_i X mi_Face_hasBit (c_Face_hasBit hN hT x3 a2 w _ rfl) wd_530 rfl (Nat.le_trans (Nat.le_of_ble_eq_true rfl) hle) (st := []) (Nat.le_of_ble_eq_true rfl) rfl d_Flow_distance_41 ?_
      refine g_ifb_eq X 50 d_Flow_distance_44 (by decide) (fun hc9 => ?_) (fun hc9 => ?_)
      · have hM := fa_ifb_f hM hc9
        refine g_iload_n X 2 rfl d_Flow_distance_50 ?_
        refine g_aload_n X 0 rfl d_Flow_distance_51 ?_
        refine g_iload_n X 2 rfl d_Flow_distance_52 ?_
        obtain ⟨v11, e10, hM⟩ := fa_ob hM
        refine g_callV_i X ck_1 ho (fa_xn ho (by decide) hN) rfl mi_Flow_callsOf (c_Flow_callsOf hN hT o x3 ho w _ e10) wd_1462 rfl (Nat.le_trans (Nat.le_of_ble_eq_true rfl) hle) (st := [.int (fa_I x3)]) (Nat.le_of_ble_eq_true rfl) rfl d_Flow_distance_53 ?_
        refine g_ior X d_Flow_distance_56 ?_
        refine g_istore_n X (fun x3_12 => [(3, .int (fa_I x3_12)), (0, .ref (b + o)), (2, .int (fa_I a2)), (4, .int (fa_I x4))]) d_Flow_distance_57 (by decide) (fun _ => rfl) (fun x3_12 ex3_12 => ?_)
        have hM := fa_let_to hM ex3_12
        refine g_iinc X 3 (fun x4_13 => [(4, .int (fa_I x4_13)), (3, .int (fa_I x3_12)), (0, .ref (b + o)), (2, .int (fa_I a2))]) d_Flow_distance_58 rfl (by decide) (fun _ => rfl) (fun x4_13 ex4_13 => ?_)
        have hM := fa_let_to hM ex4_13
        refine g_goto X 32 d_Flow_distance_61 (by decide) ?_
        exact g_lv [2, 3, 1, 0] rfl (ih _ _ hM)
      · have hM := fa_ifb_t hM hc9
        refine g_iload X 3 rfl d_Flow_distance_47 ?_
        cases hM
        exact g_iret X d_Flow_distance_49
def fm_Flow_distance (o : Nat) (a1 : Int) (a2 : Int) (w : fa_W) : Option Int :=
  if fm_Face_hasBit (w o 6) a1 w = true then
  (if fm_Face_hasBit (w o 6) a2 w = true then
  (fa_let (fm_Face_bit a1 w) fun x3_6 =>
  fm_Flow_distance_l32 o a1 a2 w fa_FU x3_6 0)
  else
  some (-1))
  else
  some (-1)
set_option maxHeartbeats 4000000 in
set_option maxRecDepth 100000 in
theorem c_Flow_distance {l : Launch} {D : va_G} {b : Nat} {aC : Nat → ClassId} {H0 : Heap} {N T : Nat} (hN : fa_NX ≤ N) (hT : fa_TX ≤ T) (o : Nat) (a1 : Int) (a2 : Int) (ho : (fa_sh o).1 = 1)  (w : fa_W) (r : Int) (hM : fm_Flow_distance o a1 a2 w = some r) : fa_MC l D b aC H0 N T y_Flow_distance prog_2_method_15_code 5 ((Option.some Jvm.ClassFile.FieldType.int)) (2) [.ref (b + o), .int (fa_I a1), .int (fa_I a2)] w (some (.int (fa_I r))) w := by
  refine fa_enter (lv := [(0, .ref (b + o)), (1, .int (fa_I a1)), (2, .int (fa_I a2))]) (by decide +kernel) (Nat.le_of_ble_eq_true rfl) rfl (fun hh hle hnm X => ?_)
  unfold fm_Flow_distance at hM
  refine g_aload_n X 0 rfl d_Flow_distance_0 ?_
  refine g_get X ck_1 ho (fa_xn ho (by decide) hN) 6 (by decide) wd_344 rfl (fa_fvI rfl) d_Flow_distance_1 ?_
  refine g_iload_n X 1 rfl d_Flow_distance_4 ?_
  refine g_callSN_i X mi_Face_hasBit (c_Face_hasBit hN hT (w o 6) a1 w _ rfl) wd_530 rfl (Nat.le_trans (Nat.le_of_ble_eq_true rfl) hle) (st := []) (Nat.le_of_ble_eq_true rfl) rfl d_Flow_distance_5 ?_
  refine g_ifb_eq X 22 d_Flow_distance_8 (by decide) (fun hc2 => ?_) (fun hc2 => ?_)
  · have hM := fa_ifb_f hM hc2
    refine g_iconst X d_Flow_distance_22 ?_
    cases hM
    exact g_iret X d_Flow_distance_23
  · have hM := fa_ifb_t hM hc2
    refine g_aload_n X 0 rfl d_Flow_distance_11 ?_
    refine g_get X ck_1 ho (fa_xn ho (by decide) hN) 6 (by decide) wd_344 rfl (fa_fvI rfl) d_Flow_distance_12 ?_
    refine g_iload_n X 2 rfl d_Flow_distance_15 ?_
    refine g_callSN_i X mi_Face_hasBit (c_Face_hasBit hN hT (w o 6) a2 w _ rfl) wd_530 rfl (Nat.le_trans (Nat.le_of_ble_eq_true rfl) hle) (st := []) (Nat.le_of_ble_eq_true rfl) rfl d_Flow_distance_16 ?_
    refine g_ifb_ne X 24 d_Flow_distance_19 (by decide) (fun hc4 => ?_) (fun hc4 => ?_)
    · have hM := fa_ifb_t hM hc4
      refine g_iload_n X 1 rfl d_Flow_distance_24 ?_
      refine g_callSN_i X mi_Face_bit (c_Face_bit hN hT a1 w _ rfl) wd_543 rfl (Nat.le_trans (Nat.le_of_ble_eq_true rfl) hle) (st := []) (Nat.le_of_ble_eq_true rfl) rfl d_Flow_distance_25 ?_
      refine g_istore_n X (fun x3_6 => [(3, .int (fa_I x3_6)), (0, .ref (b + o)), (1, .int (fa_I a1)), (2, .int (fa_I a2))]) d_Flow_distance_28 (by decide) (fun _ => rfl) (fun x3_6 ex3_6 => ?_)
      have hM := fa_let_to hM ex3_6
      refine g_iconst X d_Flow_distance_29 ?_
      refine g_istorec X [(4, .int (fa_I 0)), (3, .int (fa_I x3_6)), (0, .ref (b + o)), (1, .int (fa_I a1)), (2, .int (fa_I a2))] d_Flow_distance_30 (by decide) rfl ?_
      exact g_lv [2, 4, 1, 0] rfl (c_Flow_distance_l32 X hle hN hT o a1 a2 ho w  fa_FU _ _ hM)
    · have hM := fa_ifb_f hM hc4
      refine g_iconst X d_Flow_distance_22 ?_
      cases hM
      exact g_iret X d_Flow_distance_23
theorem d_Flow_countSitesOf_0 : decode prog_2_method_17_code 0 = .ok (.iconst 0, 1) := by decide +kernel
theorem d_Flow_countSitesOf_1 : decode prog_2_method_17_code 1 = .ok (.istore_n 3, 1) := by decide +kernel
theorem d_Flow_countSitesOf_2 : decode prog_2_method_17_code 2 = .ok (.iconst 0, 1) := by decide +kernel
theorem d_Flow_countSitesOf_3 : decode prog_2_method_17_code 3 = .ok (.istore 4, 2) := by decide +kernel
theorem d_Flow_countSitesOf_5 : decode prog_2_method_17_code 5 = .ok (.iload 4, 2) := by decide +kernel
theorem d_Flow_countSitesOf_7 : decode prog_2_method_17_code 7 = .ok (.aload_n 1, 1) := by decide +kernel
theorem d_Flow_countSitesOf_8 : decode prog_2_method_17_code 8 = .ok (.getfield 121, 3) := by decide +kernel
theorem d_Flow_countSitesOf_11 : decode prog_2_method_17_code 11 = .ok (.if_icmp .ge 33, 3) := by decide +kernel
theorem d_Flow_countSitesOf_14 : decode prog_2_method_17_code 14 = .ok (.iload_n 3, 1) := by decide +kernel
theorem d_Flow_countSitesOf_15 : decode prog_2_method_17_code 15 = .ok (.aload_n 0, 1) := by decide +kernel
theorem d_Flow_countSitesOf_16 : decode prog_2_method_17_code 16 = .ok (.aload_n 1, 1) := by decide +kernel
theorem d_Flow_countSitesOf_17 : decode prog_2_method_17_code 17 = .ok (.aload_n 1, 1) := by decide +kernel
theorem d_Flow_countSitesOf_18 : decode prog_2_method_17_code 18 = .ok (.getfield 124, 3) := by decide +kernel
theorem d_Flow_countSitesOf_21 : decode prog_2_method_17_code 21 = .ok (.iload 4, 2) := by decide +kernel
theorem d_Flow_countSitesOf_23 : decode prog_2_method_17_code 23 = .ok (.invokevirtual 115, 3) := by decide +kernel
theorem d_Flow_countSitesOf_26 : decode prog_2_method_17_code 26 = .ok (.invokevirtual 127, 3) := by decide +kernel
theorem d_Flow_countSitesOf_29 : decode prog_2_method_17_code 29 = .ok (.iload_n 2, 1) := by decide +kernel
theorem d_Flow_countSitesOf_30 : decode prog_2_method_17_code 30 = .ok (.invokestatic 76, 3) := by decide +kernel
theorem d_Flow_countSitesOf_33 : decode prog_2_method_17_code 33 = .ok (.invokestatic 148, 3) := by decide +kernel
theorem d_Flow_countSitesOf_36 : decode prog_2_method_17_code 36 = .ok (.iadd, 1) := by decide +kernel
theorem d_Flow_countSitesOf_37 : decode prog_2_method_17_code 37 = .ok (.istore_n 3, 1) := by decide +kernel
theorem d_Flow_countSitesOf_38 : decode prog_2_method_17_code 38 = .ok (.iinc 4 1, 3) := by decide +kernel
theorem d_Flow_countSitesOf_41 : decode prog_2_method_17_code 41 = .ok (.goto (-36), 3) := by decide +kernel
theorem d_Flow_countSitesOf_44 : decode prog_2_method_17_code 44 = .ok (.iload_n 3, 1) := by decide +kernel
theorem d_Flow_countSitesOf_45 : decode prog_2_method_17_code 45 = .ok (.ireturn, 1) := by decide +kernel
def fm_Flow_countSitesOf_l5 (o : Nat) (a1 : Nat) (a2 : Int) (w : fa_W) : Nat → Int → Int → Option Int
  | 0, _, _ => none
  | n + 1, x3, x4 => if fa_wr (w a1 15) ≤ fa_wr x4 then
  some x3
  else
  (fa_let (x3 + (fm_Face_oneIf (fm_Face_hasBit (fm_Flow_applied o a1 (fr_at (fa_rf a1 5) x4 w) w) a2 w) w)) fun x3_6 =>
  fa_let (x4 + 1) fun x4_7 =>
  fm_Flow_countSitesOf_l5 o a1 a2 w n x3_6 x4_7)
set_option maxHeartbeats 4000000 in
set_option maxRecDepth 100000 in
theorem c_Flow_countSitesOf_l5 {p : Program} {l : Launch} {e : Env} {s : State} {m : MethodId} {args : Array Value} {below : List Frame} {meth : Method} {c : Code} {hh : Nat} {D : va_G} {b : Nat} {aC : Nat → ClassId} {H0 : Heap} {N T : Nat} (X : fa_GX p s m args meth c prog_2_method_17_code 5 ((Option.some Jvm.ClassFile.FieldType.int)) y_Flow_countSitesOf.cls D b aC) (hle : 3 ≤ hh) (hN : fa_NX ≤ N) (hT : fa_TX ≤ T) (o : Nat) (a1 : Nat) (a2 : Int) (ho : (fa_sh o).1 = 1) (ha1 : (fa_sh a1).1 = 4) {r : Int} (w : fa_W) : ∀ (n : Nat) (x3 : Int) (x4 : Int), fm_Flow_countSitesOf_l5 o a1 a2 w n x3 x4 = some r → fa_GJ p l e (fa_rm hh) s m args below meth c 0 0 (MQ below (fa_Qc D b aC H0 N T (some (.int (fa_I r))) w) args s 0 0 (fun q => b ≤ q)) D b aC H0 N T 5 w 5 [(0, .ref (b + o)), (1, .ref (b + a1)), (2, .int (fa_I a2)), (3, .int (fa_I x3)), (4, .int (fa_I x4))] [] := by
  intro n
  induction n with
  | zero => intro x3 x4 hM; exact fa_no hM
  | succ n ih =>
    intro x3 x4 hM
    rw [fm_Flow_countSitesOf_l5] at hM
    refine g_iload X 4 rfl d_Flow_countSitesOf_5 ?_
    refine g_aload_n X 1 rfl d_Flow_countSitesOf_7 ?_
    refine g_getN X ck_4 ha1 (fa_xn ha1 (by decide) hN) 15 (by decide) wd_104 rfl (fa_fvI rfl) d_Flow_countSitesOf_8 ?_
    refine g_icmp_ge X 44 d_Flow_countSitesOf_11 (by decide) (fun hc1 => ?_) (fun hc1 => ?_)
    · have hM := fa_if_t hM hc1
      refine g_iload_n X 3 rfl d_Flow_countSitesOf_44 ?_
      cases hM
      exact g_iret X d_Flow_countSitesOf_45
    · have hM := fa_if_f hM hc1
      refine g_iload_n X 3 rfl d_Flow_countSitesOf_14 ?_
      refine g_aload_n X 0 rfl d_Flow_countSitesOf_15 ?_
      refine g_aload_n X 1 rfl d_Flow_countSitesOf_16 ?_
      refine g_aload_n X 1 rfl d_Flow_countSitesOf_17 ?_
      refine g_getN X ck_4 ha1 (fa_xn ha1 (by decide) hN) 5 (by decide) wd_72 rfl (fa_fvR rfl (fa_xt ha1 (by decide) hT 5)) d_Flow_countSitesOf_18 ?_
      refine g_iload X 4 rfl d_Flow_countSitesOf_21 ?_
      refine g_callV_i X ck_6 (fa_r4_5 _ ha1) (fa_xn (fa_r4_5 _ ha1) (by decide) hN) rfl mi_Row_at (ct_Row_at (fa_rf a1 5) x4 (fa_ro (fa_r4_5 _ ha1) hN hT) w _ rfl) wd_560 rfl (Nat.le_trans (Nat.le_of_ble_eq_true rfl) hle) (st := [.ref (b + a1), .ref (b + o), .int (fa_I x3)]) (Nat.le_of_ble_eq_true rfl) rfl d_Flow_countSitesOf_23 ?_
      refine g_callV_i X ck_1 ho (fa_xn ho (by decide) hN) rfl mi_Flow_applied (c_Flow_applied hN hT o a1 (fr_at (fa_rf a1 5) x4 w) ho ha1 w _ rfl) wd_565 rfl (Nat.le_trans (Nat.le_of_ble_eq_true rfl) hle) (st := [.int (fa_I x3)]) (Nat.le_of_ble_eq_true rfl) rfl d_Flow_countSitesOf_26 ?_
      refine g_iload_n X 2 rfl d_Flow_countSitesOf_29 ?_
      refine g_callSN_i X mi_Face_hasBit (c_Face_hasBit hN hT (fm_Flow_applied o a1 (fr_at (fa_rf a1 5) x4 w) w) a2 w _ rfl) wd_530 rfl (Nat.le_trans (Nat.le_of_ble_eq_true rfl) hle) (st := [.int (fa_I x3)]) (Nat.le_of_ble_eq_true rfl) rfl d_Flow_countSitesOf_30 ?_
      refine g_callSN_i X mi_Face_oneIf (c_Face_oneIf hN hT (fm_Face_hasBit (fm_Flow_applied o a1 (fr_at (fa_rf a1 5) x4 w) w) a2 w) w _ rfl) wd_927 rfl (Nat.le_trans (Nat.le_of_ble_eq_true rfl) hle) (st := [.int (fa_I x3)]) (Nat.le_of_ble_eq_true rfl) rfl d_Flow_countSitesOf_33 ?_
      refine g_iadd X d_Flow_countSitesOf_36 ?_
      refine g_istore_n X (fun x3_6 => [(3, .int (fa_I x3_6)), (0, .ref (b + o)), (1, .ref (b + a1)), (2, .int (fa_I a2)), (4, .int (fa_I x4))]) d_Flow_countSitesOf_37 (by decide) (fun _ => rfl) (fun x3_6 ex3_6 => ?_)
      have hM := fa_let_to hM ex3_6
      refine g_iinc X 4 (fun x4_7 => [(4, .int (fa_I x4_7)), (3, .int (fa_I x3_6)), (0, .ref (b + o)), (1, .ref (b + a1)), (2, .int (fa_I a2))]) d_Flow_countSitesOf_38 rfl (by decide) (fun _ => rfl) (fun x4_7 ex4_7 => ?_)
      have hM := fa_let_to hM ex4_7
      refine g_goto X 5 d_Flow_countSitesOf_41 (by decide) ?_
      exact g_lv [2, 3, 4, 1, 0] rfl (ih _ _ hM)
def fm_Flow_countSitesOf (o : Nat) (a1 : Nat) (a2 : Int) (w : fa_W) : Option Int :=
  fm_Flow_countSitesOf_l5 o a1 a2 w fa_FU 0 0
set_option maxHeartbeats 4000000 in
set_option maxRecDepth 100000 in
theorem c_Flow_countSitesOf {l : Launch} {D : va_G} {b : Nat} {aC : Nat → ClassId} {H0 : Heap} {N T : Nat} (hN : fa_NX ≤ N) (hT : fa_TX ≤ T) (o : Nat) (a1 : Nat) (a2 : Int) (ho : (fa_sh o).1 = 1) (ha1 : (fa_sh a1).1 = 4)  (w : fa_W) (r : Int) (hM : fm_Flow_countSitesOf o a1 a2 w = some r) : fa_MC l D b aC H0 N T y_Flow_countSitesOf prog_2_method_17_code 5 ((Option.some Jvm.ClassFile.FieldType.int)) (3) [.ref (b + o), .ref (b + a1), .int (fa_I a2)] w (some (.int (fa_I r))) w := by
  refine fa_enter (lv := [(0, .ref (b + o)), (1, .ref (b + a1)), (2, .int (fa_I a2))]) (by decide +kernel) (Nat.le_of_ble_eq_true rfl) rfl (fun hh hle hnm X => ?_)
  unfold fm_Flow_countSitesOf at hM
  refine g_iconst X d_Flow_countSitesOf_0 ?_
  refine g_istorec_n X [(3, .int (fa_I 0)), (0, .ref (b + o)), (1, .ref (b + a1)), (2, .int (fa_I a2))] d_Flow_countSitesOf_1 (by decide) rfl ?_
  refine g_iconst X d_Flow_countSitesOf_2 ?_
  refine g_istorec X [(4, .int (fa_I 0)), (3, .int (fa_I 0)), (0, .ref (b + o)), (1, .ref (b + a1)), (2, .int (fa_I a2))] d_Flow_countSitesOf_3 (by decide) rfl ?_
  exact g_lv [2, 3, 4, 1, 0] rfl (c_Flow_countSitesOf_l5 X hle hN hT o a1 a2 ho ha1 w  fa_FU _ _ hM)
theorem d_Flow_countLooked_0 : decode prog_2_method_18_code 0 = .ok (.iconst 0, 1) := by decide +kernel
theorem d_Flow_countLooked_1 : decode prog_2_method_18_code 1 = .ok (.istore_n 2, 1) := by decide +kernel
theorem d_Flow_countLooked_2 : decode prog_2_method_18_code 2 = .ok (.iconst 0, 1) := by decide +kernel
theorem d_Flow_countLooked_3 : decode prog_2_method_18_code 3 = .ok (.istore_n 3, 1) := by decide +kernel
theorem d_Flow_countLooked_4 : decode prog_2_method_18_code 4 = .ok (.iload_n 3, 1) := by decide +kernel
theorem d_Flow_countLooked_5 : decode prog_2_method_18_code 5 = .ok (.aload_n 1, 1) := by decide +kernel
theorem d_Flow_countLooked_6 : decode prog_2_method_18_code 6 = .ok (.getfield 121, 3) := by decide +kernel
theorem d_Flow_countLooked_9 : decode prog_2_method_18_code 9 = .ok (.if_icmp .ge 31, 3) := by decide +kernel
theorem d_Flow_countLooked_12 : decode prog_2_method_18_code 12 = .ok (.iload_n 2, 1) := by decide +kernel
theorem d_Flow_countLooked_13 : decode prog_2_method_18_code 13 = .ok (.aload_n 0, 1) := by decide +kernel
theorem d_Flow_countLooked_14 : decode prog_2_method_18_code 14 = .ok (.aload_n 1, 1) := by decide +kernel
theorem d_Flow_countLooked_15 : decode prog_2_method_18_code 15 = .ok (.aload_n 1, 1) := by decide +kernel
theorem d_Flow_countLooked_16 : decode prog_2_method_18_code 16 = .ok (.getfield 124, 3) := by decide +kernel
theorem d_Flow_countLooked_19 : decode prog_2_method_18_code 19 = .ok (.iload_n 3, 1) := by decide +kernel
theorem d_Flow_countLooked_20 : decode prog_2_method_18_code 20 = .ok (.invokevirtual 115, 3) := by decide +kernel
theorem d_Flow_countLooked_23 : decode prog_2_method_18_code 23 = .ok (.invokevirtual 54, 3) := by decide +kernel
theorem d_Flow_countLooked_26 : decode prog_2_method_18_code 26 = .ok (.invokevirtual 58, 3) := by decide +kernel
theorem d_Flow_countLooked_29 : decode prog_2_method_18_code 29 = .ok (.invokestatic 148, 3) := by decide +kernel
theorem d_Flow_countLooked_32 : decode prog_2_method_18_code 32 = .ok (.iadd, 1) := by decide +kernel
theorem d_Flow_countLooked_33 : decode prog_2_method_18_code 33 = .ok (.istore_n 2, 1) := by decide +kernel
theorem d_Flow_countLooked_34 : decode prog_2_method_18_code 34 = .ok (.iinc 3 1, 3) := by decide +kernel
theorem d_Flow_countLooked_37 : decode prog_2_method_18_code 37 = .ok (.goto (-33), 3) := by decide +kernel
theorem d_Flow_countLooked_40 : decode prog_2_method_18_code 40 = .ok (.iload_n 2, 1) := by decide +kernel
theorem d_Flow_countLooked_41 : decode prog_2_method_18_code 41 = .ok (.ireturn, 1) := by decide +kernel
def fm_Flow_countLooked_l4 (o : Nat) (a1 : Nat) (w : fa_W) : Nat → Int → Int → Option Int
  | 0, _, _ => none
  | n + 1, x2, x3 => if fa_wr (w a1 15) ≤ fa_wr x3 then
  some x2
  else
  (fa_let (x2 + (fm_Face_oneIf (fm_Flow_looked o (fm_Program_owner a1 (fr_at (fa_rf a1 5) x3 w) w) w) w)) fun x2_6 =>
  fa_let (x3 + 1) fun x3_7 =>
  fm_Flow_countLooked_l4 o a1 w n x2_6 x3_7)
set_option maxHeartbeats 4000000 in
set_option maxRecDepth 100000 in
theorem c_Flow_countLooked_l4 {p : Program} {l : Launch} {e : Env} {s : State} {m : MethodId} {args : Array Value} {below : List Frame} {meth : Method} {c : Code} {hh : Nat} {D : va_G} {b : Nat} {aC : Nat → ClassId} {H0 : Heap} {N T : Nat} (X : fa_GX p s m args meth c prog_2_method_18_code 4 ((Option.some Jvm.ClassFile.FieldType.int)) y_Flow_countLooked.cls D b aC) (hle : 2 ≤ hh) (hN : fa_NX ≤ N) (hT : fa_TX ≤ T) (o : Nat) (a1 : Nat) (ho : (fa_sh o).1 = 1) (ha1 : (fa_sh a1).1 = 4) {r : Int} (w : fa_W) : ∀ (n : Nat) (x2 : Int) (x3 : Int), fm_Flow_countLooked_l4 o a1 w n x2 x3 = some r → fa_GJ p l e (fa_rm hh) s m args below meth c 0 0 (MQ below (fa_Qc D b aC H0 N T (some (.int (fa_I r))) w) args s 0 0 (fun q => b ≤ q)) D b aC H0 N T 4 w 4 [(0, .ref (b + o)), (1, .ref (b + a1)), (2, .int (fa_I x2)), (3, .int (fa_I x3))] [] := by
  intro n
  induction n with
  | zero => intro x2 x3 hM; exact fa_no hM
  | succ n ih =>
    intro x2 x3 hM
    rw [fm_Flow_countLooked_l4] at hM
    refine g_iload_n X 3 rfl d_Flow_countLooked_4 ?_
    refine g_aload_n X 1 rfl d_Flow_countLooked_5 ?_
    refine g_getN X ck_4 ha1 (fa_xn ha1 (by decide) hN) 15 (by decide) wd_104 rfl (fa_fvI rfl) d_Flow_countLooked_6 ?_
    refine g_icmp_ge X 40 d_Flow_countLooked_9 (by decide) (fun hc1 => ?_) (fun hc1 => ?_)
    · have hM := fa_if_t hM hc1
      refine g_iload_n X 2 rfl d_Flow_countLooked_40 ?_
      cases hM
      exact g_iret X d_Flow_countLooked_41
    · have hM := fa_if_f hM hc1
      refine g_iload_n X 2 rfl d_Flow_countLooked_12 ?_
      refine g_aload_n X 0 rfl d_Flow_countLooked_13 ?_
      refine g_aload_n X 1 rfl d_Flow_countLooked_14 ?_
      refine g_aload_n X 1 rfl d_Flow_countLooked_15 ?_
      refine g_getN X ck_4 ha1 (fa_xn ha1 (by decide) hN) 5 (by decide) wd_72 rfl (fa_fvR rfl (fa_xt ha1 (by decide) hT 5)) d_Flow_countLooked_16 ?_
      refine g_iload_n X 3 rfl d_Flow_countLooked_19 ?_
      refine g_callV_i X ck_6 (fa_r4_5 _ ha1) (fa_xn (fa_r4_5 _ ha1) (by decide) hN) rfl mi_Row_at (ct_Row_at (fa_rf a1 5) x3 (fa_ro (fa_r4_5 _ ha1) hN hT) w _ rfl) wd_560 rfl (Nat.le_trans (Nat.le_of_ble_eq_true rfl) hle) (st := [.ref (b + a1), .ref (b + o), .int (fa_I x2)]) (Nat.le_of_ble_eq_true rfl) rfl d_Flow_countLooked_20 ?_
      refine g_callV_i X ck_4 ha1 (fa_xn ha1 (by decide) hN) rfl mi_Program_owner (c_Program_owner hN hT a1 (fr_at (fa_rf a1 5) x3 w) ha1 w _ rfl) wd_522 rfl (Nat.le_trans (Nat.le_of_ble_eq_true rfl) hle) (st := [.ref (b + o), .int (fa_I x2)]) (Nat.le_of_ble_eq_true rfl) rfl d_Flow_countLooked_23 ?_
      refine g_callV_i X ck_1 ho (fa_xn ho (by decide) hN) rfl mi_Flow_looked (c_Flow_looked hN hT o (fm_Program_owner a1 (fr_at (fa_rf a1 5) x3 w) w) ho w _ rfl) wd_526 rfl (Nat.le_trans (Nat.le_of_ble_eq_true rfl) hle) (st := [.int (fa_I x2)]) (Nat.le_of_ble_eq_true rfl) rfl d_Flow_countLooked_26 ?_
      refine g_callSN_i X mi_Face_oneIf (c_Face_oneIf hN hT (fm_Flow_looked o (fm_Program_owner a1 (fr_at (fa_rf a1 5) x3 w) w) w) w _ rfl) wd_927 rfl (Nat.le_trans (Nat.le_of_ble_eq_true rfl) hle) (st := [.int (fa_I x2)]) (Nat.le_of_ble_eq_true rfl) rfl d_Flow_countLooked_29 ?_
      refine g_iadd X d_Flow_countLooked_32 ?_
      refine g_istore_n X (fun x2_6 => [(2, .int (fa_I x2_6)), (0, .ref (b + o)), (1, .ref (b + a1)), (3, .int (fa_I x3))]) d_Flow_countLooked_33 (by decide) (fun _ => rfl) (fun x2_6 ex2_6 => ?_)
      have hM := fa_let_to hM ex2_6
      refine g_iinc X 3 (fun x3_7 => [(3, .int (fa_I x3_7)), (2, .int (fa_I x2_6)), (0, .ref (b + o)), (1, .ref (b + a1))]) d_Flow_countLooked_34 rfl (by decide) (fun _ => rfl) (fun x3_7 ex3_7 => ?_)
      have hM := fa_let_to hM ex3_7
      refine g_goto X 4 d_Flow_countLooked_37 (by decide) ?_
      exact g_lv [2, 3, 1, 0] rfl (ih _ _ hM)
def fm_Flow_countLooked (o : Nat) (a1 : Nat) (w : fa_W) : Option Int :=
  fm_Flow_countLooked_l4 o a1 w fa_FU 0 0
set_option maxHeartbeats 4000000 in
set_option maxRecDepth 100000 in
theorem c_Flow_countLooked {l : Launch} {D : va_G} {b : Nat} {aC : Nat → ClassId} {H0 : Heap} {N T : Nat} (hN : fa_NX ≤ N) (hT : fa_TX ≤ T) (o : Nat) (a1 : Nat) (ho : (fa_sh o).1 = 1) (ha1 : (fa_sh a1).1 = 4)  (w : fa_W) (r : Int) (hM : fm_Flow_countLooked o a1 w = some r) : fa_MC l D b aC H0 N T y_Flow_countLooked prog_2_method_18_code 4 ((Option.some Jvm.ClassFile.FieldType.int)) (2) [.ref (b + o), .ref (b + a1)] w (some (.int (fa_I r))) w := by
  refine fa_enter (lv := [(0, .ref (b + o)), (1, .ref (b + a1))]) (by decide +kernel) (Nat.le_of_ble_eq_true rfl) rfl (fun hh hle hnm X => ?_)
  unfold fm_Flow_countLooked at hM
  refine g_iconst X d_Flow_countLooked_0 ?_
  refine g_istorec_n X [(2, .int (fa_I 0)), (0, .ref (b + o)), (1, .ref (b + a1))] d_Flow_countLooked_1 (by decide) rfl ?_
  refine g_iconst X d_Flow_countLooked_2 ?_
  refine g_istorec_n X [(3, .int (fa_I 0)), (2, .int (fa_I 0)), (0, .ref (b + o)), (1, .ref (b + a1))] d_Flow_countLooked_3 (by decide) rfl ?_
  exact g_lv [2, 3, 1, 0] rfl (c_Flow_countLooked_l4 X hle hN hT o a1 ho ha1 w  fa_FU _ _ hM)
theorem d_Flow_countKnown_0 : decode prog_2_method_19_code 0 = .ok (.iconst 0, 1) := by decide +kernel
theorem d_Flow_countKnown_1 : decode prog_2_method_19_code 1 = .ok (.istore_n 2, 1) := by decide +kernel
theorem d_Flow_countKnown_2 : decode prog_2_method_19_code 2 = .ok (.iconst 0, 1) := by decide +kernel
theorem d_Flow_countKnown_3 : decode prog_2_method_19_code 3 = .ok (.istore_n 3, 1) := by decide +kernel
theorem d_Flow_countKnown_4 : decode prog_2_method_19_code 4 = .ok (.iload_n 3, 1) := by decide +kernel
theorem d_Flow_countKnown_5 : decode prog_2_method_19_code 5 = .ok (.aload_n 1, 1) := by decide +kernel
theorem d_Flow_countKnown_6 : decode prog_2_method_19_code 6 = .ok (.getfield 121, 3) := by decide +kernel
theorem d_Flow_countKnown_9 : decode prog_2_method_19_code 9 = .ok (.if_icmp .ge 40, 3) := by decide +kernel
theorem d_Flow_countKnown_12 : decode prog_2_method_19_code 12 = .ok (.iload_n 2, 1) := by decide +kernel
theorem d_Flow_countKnown_13 : decode prog_2_method_19_code 13 = .ok (.aload_n 0, 1) := by decide +kernel
theorem d_Flow_countKnown_14 : decode prog_2_method_19_code 14 = .ok (.aload_n 1, 1) := by decide +kernel
theorem d_Flow_countKnown_15 : decode prog_2_method_19_code 15 = .ok (.aload_n 1, 1) := by decide +kernel
theorem d_Flow_countKnown_16 : decode prog_2_method_19_code 16 = .ok (.getfield 124, 3) := by decide +kernel
theorem d_Flow_countKnown_19 : decode prog_2_method_19_code 19 = .ok (.iload_n 3, 1) := by decide +kernel
theorem d_Flow_countKnown_20 : decode prog_2_method_19_code 20 = .ok (.invokevirtual 115, 3) := by decide +kernel
theorem d_Flow_countKnown_23 : decode prog_2_method_19_code 23 = .ok (.invokevirtual 127, 3) := by decide +kernel
theorem d_Flow_countKnown_26 : decode prog_2_method_19_code 26 = .ok (.invokestatic 152, 3) := by decide +kernel
theorem d_Flow_countKnown_29 : decode prog_2_method_19_code 29 = .ok (.iconst 1, 1) := by decide +kernel
theorem d_Flow_countKnown_30 : decode prog_2_method_19_code 30 = .ok (.if_icmp .ne 7, 3) := by decide +kernel
theorem d_Flow_countKnown_33 : decode prog_2_method_19_code 33 = .ok (.iconst 1, 1) := by decide +kernel
theorem d_Flow_countKnown_34 : decode prog_2_method_19_code 34 = .ok (.goto 4, 3) := by decide +kernel
theorem d_Flow_countKnown_37 : decode prog_2_method_19_code 37 = .ok (.iconst 0, 1) := by decide +kernel
theorem d_Flow_countKnown_38 : decode prog_2_method_19_code 38 = .ok (.invokestatic 148, 3) := by decide +kernel
theorem d_Flow_countKnown_41 : decode prog_2_method_19_code 41 = .ok (.iadd, 1) := by decide +kernel
theorem d_Flow_countKnown_42 : decode prog_2_method_19_code 42 = .ok (.istore_n 2, 1) := by decide +kernel
theorem d_Flow_countKnown_43 : decode prog_2_method_19_code 43 = .ok (.iinc 3 1, 3) := by decide +kernel
theorem d_Flow_countKnown_46 : decode prog_2_method_19_code 46 = .ok (.goto (-42), 3) := by decide +kernel
theorem d_Flow_countKnown_49 : decode prog_2_method_19_code 49 = .ok (.iload_n 2, 1) := by decide +kernel
theorem d_Flow_countKnown_50 : decode prog_2_method_19_code 50 = .ok (.ireturn, 1) := by decide +kernel
def fm_Flow_countKnown_j38 (o : Nat) (a1 : Nat) (w : fa_W) (k4 : Int → Int → Option Int) (x3 : Int) (s0 : Bool) (s1 : Int) : Option Int :=
  fa_let (s1 + (fm_Face_oneIf s0 w)) fun x2_7 =>
  fa_let (x3 + 1) fun x3_8 =>
  k4 x2_7 x3_8
set_option maxHeartbeats 4000000 in
set_option maxRecDepth 100000 in
theorem c_Flow_countKnown_j38 {p : Program} {l : Launch} {e : Env} {s : State} {m : MethodId} {args : Array Value} {below : List Frame} {meth : Method} {c : Code} {hh : Nat} {D : va_G} {b : Nat} {aC : Nat → ClassId} {H0 : Heap} {N T : Nat} (X : fa_GX p s m args meth c prog_2_method_19_code 4 ((Option.some Jvm.ClassFile.FieldType.int)) y_Flow_countKnown.cls D b aC) (hle : 3 ≤ hh) (hN : fa_NX ≤ N) (hT : fa_TX ≤ T) (o : Nat) (a1 : Nat) (ho : (fa_sh o).1 = 1) (ha1 : (fa_sh a1).1 = 4) {r : Int} (w : fa_W) (k4 : Int → Int → Option Int) (K4 : ∀ (x2 : Int) (x3 : Int), k4 x2 x3 = some r → fa_GJ p l e (fa_rm hh) s m args below meth c 0 0 (MQ below (fa_Qc D b aC H0 N T (some (.int (fa_I r))) w) args s 0 0 (fun q => b ≤ q)) D b aC H0 N T 4 w 4 [(0, .ref (b + o)), (1, .ref (b + a1)), (2, .int (fa_I x2)), (3, .int (fa_I x3))] []) : ∀ (x3 : Int) (s0 : Bool) (s1 : Int) (_ : fm_Flow_countKnown_j38 o a1 w k4 x3 s0 s1 = some r), fa_GJ p l e (fa_rm hh) s m args below meth c 0 0 (MQ below (fa_Qc D b aC H0 N T (some (.int (fa_I r))) w) args s 0 0 (fun q => b ≤ q)) D b aC H0 N T 4 w 38 [(0, .ref (b + o)), (1, .ref (b + a1)), (3, .int (fa_I x3))] [.int (fa_I (fa_bi s0)), .int (fa_I s1)] := by
  intro x3 s0 s1 hM
  unfold fm_Flow_countKnown_j38 at hM
  refine g_callSN_i X mi_Face_oneIf (c_Face_oneIf hN hT s0 w _ rfl) wd_927 rfl (Nat.le_trans (Nat.le_of_ble_eq_true rfl) hle) (st := [.int (fa_I s1)]) (Nat.le_of_ble_eq_true rfl) rfl d_Flow_countKnown_38 ?_
  refine g_iadd X d_Flow_countKnown_41 ?_
  refine g_istore_n X (fun x2_7 => [(2, .int (fa_I x2_7)), (0, .ref (b + o)), (1, .ref (b + a1)), (3, .int (fa_I x3))]) d_Flow_countKnown_42 (by decide) (fun _ => rfl) (fun x2_7 ex2_7 => ?_)
  have hM := fa_let_to hM ex2_7
  refine g_iinc X 3 (fun x3_8 => [(3, .int (fa_I x3_8)), (2, .int (fa_I x2_7)), (0, .ref (b + o)), (1, .ref (b + a1))]) d_Flow_countKnown_43 rfl (by decide) (fun _ => rfl) (fun x3_8 ex3_8 => ?_)
  have hM := fa_let_to hM ex3_8
  refine g_goto X 4 d_Flow_countKnown_46 (by decide) ?_
  exact g_lv [2, 3, 1, 0] rfl (K4 _ _ hM)
def fm_Flow_countKnown_l4 (o : Nat) (a1 : Nat) (w : fa_W) : Nat → Int → Int → Option Int
  | 0, _, _ => none
  | n + 1, x2, x3 => if fa_wr (w a1 15) ≤ fa_wr x3 then
  some x2
  else
  (if fa_wr (fm_Integer_bitCount (fm_Flow_applied o a1 (fr_at (fa_rf a1 5) x3 w) w) w) = 1 then
  fm_Flow_countKnown_j38 o a1 w (fun x2 x3 => fm_Flow_countKnown_l4 o a1 w n x2 x3) x3 true x2
  else
  fm_Flow_countKnown_j38 o a1 w (fun x2 x3 => fm_Flow_countKnown_l4 o a1 w n x2 x3) x3 false x2)
set_option maxHeartbeats 4000000 in
set_option maxRecDepth 100000 in
theorem c_Flow_countKnown_l4 {p : Program} {l : Launch} {e : Env} {s : State} {m : MethodId} {args : Array Value} {below : List Frame} {meth : Method} {c : Code} {hh : Nat} {D : va_G} {b : Nat} {aC : Nat → ClassId} {H0 : Heap} {N T : Nat} (X : fa_GX p s m args meth c prog_2_method_19_code 4 ((Option.some Jvm.ClassFile.FieldType.int)) y_Flow_countKnown.cls D b aC) (hle : 3 ≤ hh) (hN : fa_NX ≤ N) (hT : fa_TX ≤ T) (o : Nat) (a1 : Nat) (ho : (fa_sh o).1 = 1) (ha1 : (fa_sh a1).1 = 4) {r : Int} (w : fa_W) : ∀ (n : Nat) (x2 : Int) (x3 : Int), fm_Flow_countKnown_l4 o a1 w n x2 x3 = some r → fa_GJ p l e (fa_rm hh) s m args below meth c 0 0 (MQ below (fa_Qc D b aC H0 N T (some (.int (fa_I r))) w) args s 0 0 (fun q => b ≤ q)) D b aC H0 N T 4 w 4 [(0, .ref (b + o)), (1, .ref (b + a1)), (2, .int (fa_I x2)), (3, .int (fa_I x3))] [] := by
  intro n
  induction n with
  | zero => intro x2 x3 hM; exact fa_no hM
  | succ n ih =>
    intro x2 x3 hM
    rw [fm_Flow_countKnown_l4] at hM
    refine g_iload_n X 3 rfl d_Flow_countKnown_4 ?_
    refine g_aload_n X 1 rfl d_Flow_countKnown_5 ?_
    refine g_getN X ck_4 ha1 (fa_xn ha1 (by decide) hN) 15 (by decide) wd_104 rfl (fa_fvI rfl) d_Flow_countKnown_6 ?_
    refine g_icmp_ge X 49 d_Flow_countKnown_9 (by decide) (fun hc1 => ?_) (fun hc1 => ?_)
    · have hM := fa_if_t hM hc1
      refine g_iload_n X 2 rfl d_Flow_countKnown_49 ?_
      cases hM
      exact g_iret X d_Flow_countKnown_50
    · have hM := fa_if_f hM hc1
      refine g_iload_n X 2 rfl d_Flow_countKnown_12 ?_
      refine g_aload_n X 0 rfl d_Flow_countKnown_13 ?_
      refine g_aload_n X 1 rfl d_Flow_countKnown_14 ?_
      refine g_aload_n X 1 rfl d_Flow_countKnown_15 ?_
      refine g_getN X ck_4 ha1 (fa_xn ha1 (by decide) hN) 5 (by decide) wd_72 rfl (fa_fvR rfl (fa_xt ha1 (by decide) hT 5)) d_Flow_countKnown_16 ?_
      refine g_iload_n X 3 rfl d_Flow_countKnown_19 ?_
      refine g_callV_i X ck_6 (fa_r4_5 _ ha1) (fa_xn (fa_r4_5 _ ha1) (by decide) hN) rfl mi_Row_at (ct_Row_at (fa_rf a1 5) x3 (fa_ro (fa_r4_5 _ ha1) hN hT) w _ rfl) wd_560 rfl (Nat.le_trans (Nat.le_of_ble_eq_true rfl) hle) (st := [.ref (b + a1), .ref (b + o), .int (fa_I x2)]) (Nat.le_of_ble_eq_true rfl) rfl d_Flow_countKnown_20 ?_
      refine g_callV_i X ck_1 ho (fa_xn ho (by decide) hN) rfl mi_Flow_applied (c_Flow_applied hN hT o a1 (fr_at (fa_rf a1 5) x3 w) ho ha1 w _ rfl) wd_565 rfl (Nat.le_trans (Nat.le_of_ble_eq_true rfl) hle) (st := [.int (fa_I x2)]) (Nat.le_of_ble_eq_true rfl) rfl d_Flow_countKnown_23 ?_
      refine g_callS_i X mi_Integer_bitCount (c_Integer_bitCount (fm_Flow_applied o a1 (fr_at (fa_rf a1 5) x3 w) w) w _ rfl) wd_934 rfl (Nat.le_trans (Nat.le_of_ble_eq_true rfl) hle) (st := [.int (fa_I x2)]) (Nat.le_of_ble_eq_true rfl) rfl d_Flow_countKnown_26 ?_
      refine g_iconst X d_Flow_countKnown_29 ?_
      refine g_icmp_ne X 37 d_Flow_countKnown_30 (by decide) (fun hc5 => ?_) (fun hc5 => ?_)
      · have hM := fa_if_f hM hc5
        refine g_iconst X d_Flow_countKnown_37 ?_
        exact g_lv [0, 1, 3] rfl (c_Flow_countKnown_j38 X hle hN hT o a1 ho ha1 w (fun x2 x3 => fm_Flow_countKnown_l4 o a1 w n x2 x3) (fun _ _ h => ih _ _ h)  _ _ _ hM)
      · have hM := fa_if_t hM hc5
        refine g_iconst X d_Flow_countKnown_33 ?_
        refine g_goto X 38 d_Flow_countKnown_34 (by decide) ?_
        exact g_lv [0, 1, 3] rfl (c_Flow_countKnown_j38 X hle hN hT o a1 ho ha1 w (fun x2 x3 => fm_Flow_countKnown_l4 o a1 w n x2 x3) (fun _ _ h => ih _ _ h)  _ _ _ hM)
def fm_Flow_countKnown (o : Nat) (a1 : Nat) (w : fa_W) : Option Int :=
  fm_Flow_countKnown_l4 o a1 w fa_FU 0 0
set_option maxHeartbeats 4000000 in
set_option maxRecDepth 100000 in
theorem c_Flow_countKnown {l : Launch} {D : va_G} {b : Nat} {aC : Nat → ClassId} {H0 : Heap} {N T : Nat} (hN : fa_NX ≤ N) (hT : fa_TX ≤ T) (o : Nat) (a1 : Nat) (ho : (fa_sh o).1 = 1) (ha1 : (fa_sh a1).1 = 4)  (w : fa_W) (r : Int) (hM : fm_Flow_countKnown o a1 w = some r) : fa_MC l D b aC H0 N T y_Flow_countKnown prog_2_method_19_code 4 ((Option.some Jvm.ClassFile.FieldType.int)) (3) [.ref (b + o), .ref (b + a1)] w (some (.int (fa_I r))) w := by
  refine fa_enter (lv := [(0, .ref (b + o)), (1, .ref (b + a1))]) (by decide +kernel) (Nat.le_of_ble_eq_true rfl) rfl (fun hh hle hnm X => ?_)
  unfold fm_Flow_countKnown at hM
  refine g_iconst X d_Flow_countKnown_0 ?_
  refine g_istorec_n X [(2, .int (fa_I 0)), (0, .ref (b + o)), (1, .ref (b + a1))] d_Flow_countKnown_1 (by decide) rfl ?_
  refine g_iconst X d_Flow_countKnown_2 ?_
  refine g_istorec_n X [(3, .int (fa_I 0)), (2, .int (fa_I 0)), (0, .ref (b + o)), (1, .ref (b + a1))] d_Flow_countKnown_3 (by decide) rfl ?_
  exact g_lv [2, 3, 1, 0] rfl (c_Flow_countKnown_l4 X hle hN hT o a1 ho ha1 w  fa_FU _ _ hM)
