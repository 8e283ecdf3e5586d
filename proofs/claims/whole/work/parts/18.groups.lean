theorem d_Groups_many_0 : decode prog_3_method_6_code 0 = .ok (.aload_n 0, 1) := by decide +kernel
theorem d_Groups_many_1 : decode prog_3_method_6_code 1 = .ok (.getfield 20, 3) := by decide +kernel
theorem d_Groups_many_4 : decode prog_3_method_6_code 4 = .ok (.iload_n 1, 1) := by decide +kernel
theorem d_Groups_many_5 : decode prog_3_method_6_code 5 = .ok (.invokevirtual 81, 3) := by decide +kernel
theorem d_Groups_many_8 : decode prog_3_method_6_code 8 = .ok (.ireturn, 1) := by decide +kernel
def fm_Groups_many (o : Nat) (a1 : Int) (w : fa_W) : Int :=
  fr_bits (fa_rf o 1) a1 w
set_option maxHeartbeats 4000000 in
set_option maxRecDepth 100000 in
theorem c_Groups_many {l : Launch} {D : va_G} {b : Nat} {aC : Nat → ClassId} {H0 : Heap} {N T : Nat} (hN : fa_NX ≤ N) (hT : fa_TX ≤ T) (o : Nat) (a1 : Int) (ho : (fa_sh o).1 = 2)  (w : fa_W) (r : Int) (hM : fm_Groups_many o a1 w = r) : fa_MC l D b aC H0 N T y_Groups_many prog_3_method_6_code 2 ((Option.some Jvm.ClassFile.FieldType.int)) (1) [.ref (b + o), .int (fa_I a1)] w (some (.int (fa_I r))) w := by
  refine fa_enter (lv := [(0, .ref (b + o)), (1, .int (fa_I a1))]) (by decide +kernel) (Nat.le_of_ble_eq_true rfl) rfl (fun hh hle hnm X => ?_)
  unfold fm_Groups_many at hM
  refine g_aload_n X 0 rfl d_Groups_many_0 ?_
  refine g_get X ck_2 ho (fa_xn ho (by decide) hN) 1 (by decide) wd_375 rfl (fa_fvR rfl (fa_xt ho (by decide) hT 1)) d_Groups_many_1 ?_
  refine g_iload_n X 1 rfl d_Groups_many_4 ?_
  refine g_callV_i X ck_6 (fa_r2_1 _ ho) (fa_xn (fa_r2_1 _ ho) (by decide) hN) rfl mi_Row_bits (ct_Row_bits (fa_rf o 1) a1 (fa_ro (fa_r2_1 _ ho) hN hT) w _ rfl) wd_599 rfl (Nat.le_trans (Nat.le_of_ble_eq_true rfl) hle) (st := []) (Nat.le_of_ble_eq_true rfl) rfl d_Groups_many_5 ?_
  subst hM
  exact g_iret X d_Groups_many_8
theorem d_Groups_number_0 : decode prog_3_method_5_code 0 = .ok (.iconst 0, 1) := by decide +kernel
theorem d_Groups_number_1 : decode prog_3_method_5_code 1 = .ok (.istore_n 3, 1) := by decide +kernel
theorem d_Groups_number_2 : decode prog_3_method_5_code 2 = .ok (.iload_n 3, 1) := by decide +kernel
theorem d_Groups_number_3 : decode prog_3_method_5_code 3 = .ok (.aload_n 0, 1) := by decide +kernel
theorem d_Groups_number_4 : decode prog_3_method_5_code 4 = .ok (.getfield 23, 3) := by decide +kernel
theorem d_Groups_number_7 : decode prog_3_method_5_code 7 = .ok (.invokevirtual 84, 3) := by decide +kernel
theorem d_Groups_number_10 : decode prog_3_method_5_code 10 = .ok (.if_icmp .ge 72, 3) := by decide +kernel
theorem d_Groups_number_13 : decode prog_3_method_5_code 13 = .ok (.iload_n 2, 1) := by decide +kernel
theorem d_Groups_number_14 : decode prog_3_method_5_code 14 = .ok (.iload_n 3, 1) := by decide +kernel
theorem d_Groups_number_15 : decode prog_3_method_5_code 15 = .ok (.invokestatic 52, 3) := by decide +kernel
theorem d_Groups_number_18 : decode prog_3_method_5_code 18 = .ok (.ifCond .eq 58, 3) := by decide +kernel
theorem d_Groups_number_21 : decode prog_3_method_5_code 21 = .ok (.aload_n 0, 1) := by decide +kernel
theorem d_Groups_number_22 : decode prog_3_method_5_code 22 = .ok (.getfield 23, 3) := by decide +kernel
theorem d_Groups_number_25 : decode prog_3_method_5_code 25 = .ok (.iload_n 3, 1) := by decide +kernel
theorem d_Groups_number_26 : decode prog_3_method_5_code 26 = .ok (.invokevirtual 81, 3) := by decide +kernel
theorem d_Groups_number_29 : decode prog_3_method_5_code 29 = .ok (.invokestatic 88, 3) := by decide +kernel
theorem d_Groups_number_32 : decode prog_3_method_5_code 32 = .ok (.iload_n 3, 1) := by decide +kernel
theorem d_Groups_number_33 : decode prog_3_method_5_code 33 = .ok (.if_icmp .ne 43, 3) := by decide +kernel
theorem d_Groups_number_36 : decode prog_3_method_5_code 36 = .ok (.aload_n 0, 1) := by decide +kernel
theorem d_Groups_number_37 : decode prog_3_method_5_code 37 = .ok (.getfield 14, 3) := by decide +kernel
theorem d_Groups_number_40 : decode prog_3_method_5_code 40 = .ok (.iload_n 1, 1) := by decide +kernel
theorem d_Groups_number_41 : decode prog_3_method_5_code 41 = .ok (.bipush 24, 2) := by decide +kernel
theorem d_Groups_number_43 : decode prog_3_method_5_code 43 = .ok (.imul, 1) := by decide +kernel
theorem d_Groups_number_44 : decode prog_3_method_5_code 44 = .ok (.aload_n 0, 1) := by decide +kernel
theorem d_Groups_number_45 : decode prog_3_method_5_code 45 = .ok (.iload_n 1, 1) := by decide +kernel
theorem d_Groups_number_46 : decode prog_3_method_5_code 46 = .ok (.invokevirtual 91, 3) := by decide +kernel
theorem d_Groups_number_49 : decode prog_3_method_5_code 49 = .ok (.iadd, 1) := by decide +kernel
theorem d_Groups_number_50 : decode prog_3_method_5_code 50 = .ok (.aload_n 0, 1) := by decide +kernel
theorem d_Groups_number_51 : decode prog_3_method_5_code 51 = .ok (.getfield 23, 3) := by decide +kernel
theorem d_Groups_number_54 : decode prog_3_method_5_code 54 = .ok (.iload_n 3, 1) := by decide +kernel
theorem d_Groups_number_55 : decode prog_3_method_5_code 55 = .ok (.invokevirtual 81, 3) := by decide +kernel
theorem d_Groups_number_58 : decode prog_3_method_5_code 58 = .ok (.invokevirtual 65, 3) := by decide +kernel
theorem d_Groups_number_61 : decode prog_3_method_5_code 61 = .ok (.aload_n 0, 1) := by decide +kernel
theorem d_Groups_number_62 : decode prog_3_method_5_code 62 = .ok (.getfield 20, 3) := by decide +kernel
theorem d_Groups_number_65 : decode prog_3_method_5_code 65 = .ok (.iload_n 1, 1) := by decide +kernel
theorem d_Groups_number_66 : decode prog_3_method_5_code 66 = .ok (.aload_n 0, 1) := by decide +kernel
theorem d_Groups_number_67 : decode prog_3_method_5_code 67 = .ok (.iload_n 1, 1) := by decide +kernel
theorem d_Groups_number_68 : decode prog_3_method_5_code 68 = .ok (.invokevirtual 91, 3) := by decide +kernel
theorem d_Groups_number_71 : decode prog_3_method_5_code 71 = .ok (.iconst 1, 1) := by decide +kernel
theorem d_Groups_number_72 : decode prog_3_method_5_code 72 = .ok (.iadd, 1) := by decide +kernel
theorem d_Groups_number_73 : decode prog_3_method_5_code 73 = .ok (.invokevirtual 65, 3) := by decide +kernel
theorem d_Groups_number_76 : decode prog_3_method_5_code 76 = .ok (.iinc 3 1, 3) := by decide +kernel
theorem d_Groups_number_79 : decode prog_3_method_5_code 79 = .ok (.goto (-77), 3) := by decide +kernel
theorem d_Groups_number_82 : decode prog_3_method_5_code 82 = .ok (.return_, 1) := by decide +kernel
def fm_Groups_number_l2 (o : Nat) (a1 : Int) (a2 : Int) : Nat → Int → fa_W → Option fa_W
  | 0, _, _ => none
  | n + 1, x3, w => if fa_wr (fm_Row_size (fa_rf o 2) w) ≤ fa_wr x3 then
  some w
  else
  (if fm_Face_hasBit a2 x3 w = true then
  (if fa_wr (fm_Face_lowest (fr_bits (fa_rf o 2) x3 w) w) = fa_wr x3 then
  (fa_let (fr_set (fa_rf o 0) ((a1 * 24) + (fm_Groups_many o a1 w)) (fr_bits (fa_rf o 2) x3 w) w) fun w13 =>
  fa_let (fr_set (fa_rf o 1) a1 ((fm_Groups_many o a1 w13) + 1) w13) fun w16 =>
  fa_let (x3 + 1) fun x3_17 =>
  fm_Groups_number_l2 o a1 a2 n x3_17 w16)
  else
  (fa_let (x3 + 1) fun x3_9 =>
  fm_Groups_number_l2 o a1 a2 n x3_9 w))
  else
  (fa_let (x3 + 1) fun x3_5 =>
  fm_Groups_number_l2 o a1 a2 n x3_5 w))
set_option maxHeartbeats 4000000 in
set_option maxRecDepth 100000 in
theorem c_Groups_number_l2 {p : Program} {l : Launch} {e : Env} {s : State} {m : MethodId} {args : Array Value} {below : List Frame} {meth : Method} {c : Code} {hh : Nat} {D : va_G} {b : Nat} {aC : Nat → ClassId} {H0 : Heap} {N T : Nat} (X : fa_GX p s m args meth c prog_3_method_5_code 4 ((Option.none : Option Jvm.ClassFile.FieldType)) y_Groups_number.cls D b aC) (hle : 2 ≤ hh) (hN : fa_NX ≤ N) (hT : fa_TX ≤ T) (o : Nat) (a1 : Int) (a2 : Int) (ho : (fa_sh o).1 = 2) {r : fa_W}  : ∀ (n : Nat) (x3 : Int) (w : fa_W), fm_Groups_number_l2 o a1 a2 n x3 w = some r → fa_GJ p l e (fa_rm hh) s m args below meth c 0 0 (MQ below (fa_Qc D b aC H0 N T (none) r) args s 0 0 (fun q => b ≤ q)) D b aC H0 N T 4 w 2 [(0, .ref (b + o)), (1, .int (fa_I a1)), (2, .int (fa_I a2)), (3, .int (fa_I x3))] [] := by
  intro n
  induction n with
  | zero => intro x3 w hM; exact fa_no hM
  | succ n ih =>
    intro x3 w hM
    rw [fm_Groups_number_l2] at hM
    refine g_iload_n X 3 rfl d_Groups_number_2 ?_
    refine g_aload_n X 0 rfl d_Groups_number_3 ?_
    refine g_get X ck_2 ho (fa_xn ho (by decide) hN) 2 (by decide) wd_376 rfl (fa_fvR rfl (fa_xt ho (by decide) hT 2)) d_Groups_number_4 ?_
    refine g_callV_i X ck_6 (fa_r2_2 _ ho) (fa_xn (fa_r2_2 _ ho) (by decide) hN) rfl mi_Row_size (c_Row_size (fa_rf o 2) (fa_ro (fa_r2_2 _ ho) hN hT) w _ rfl) wd_597 rfl (Nat.le_trans (Nat.le_of_ble_eq_true rfl) hle) (st := [.int (fa_I x3)]) (Nat.le_of_ble_eq_true rfl) rfl d_Groups_number_7 ?_
    refine g_icmp_ge X 82 d_Groups_number_10 (by decide) (fun hc2 => ?_) (fun hc2 => ?_)
    · have hM := fa_if_t hM hc2
      cases hM
      exact g_vret X d_Groups_number_82
    · have hM := fa_if_f hM hc2
      refine g_iload_n X 2 rfl d_Groups_number_13 ?_
      refine g_iload_n X 3 rfl d_Groups_number_14 ?_
      refine g_callSN_i X mi_Face_hasBit (c_Face_hasBit hN hT a2 x3 w _ rfl) wd_598 rfl (Nat.le_trans (Nat.le_of_ble_eq_true rfl) hle) (st := []) (Nat.le_of_ble_eq_true rfl) rfl d_Groups_number_15 ?_
      refine g_ifb_eq X 76 d_Groups_number_18 (by decide) (fun hc4 => ?_) (fun hc4 => ?_)
      · have hM := fa_ifb_f hM hc4
        refine g_iinc X 3 (fun x3_5 => [(3, .int (fa_I x3_5)), (0, .ref (b + o)), (1, .int (fa_I a1)), (2, .int (fa_I a2))]) d_Groups_number_76 rfl (by decide) (fun _ => rfl) (fun x3_5 ex3_5 => ?_)
        have hM := fa_let_to hM ex3_5
        refine g_goto X 2 d_Groups_number_79 (by decide) ?_
        exact g_lv [1, 2, 3, 0] rfl (ih _ _ hM)
      · have hM := fa_ifb_t hM hc4
        refine g_aload_n X 0 rfl d_Groups_number_21 ?_
        refine g_get X ck_2 ho (fa_xn ho (by decide) hN) 2 (by decide) wd_376 rfl (fa_fvR rfl (fa_xt ho (by decide) hT 2)) d_Groups_number_22 ?_
        refine g_iload_n X 3 rfl d_Groups_number_25 ?_
        refine g_callV_i X ck_6 (fa_r2_2 _ ho) (fa_xn (fa_r2_2 _ ho) (by decide) hN) rfl mi_Row_bits (ct_Row_bits (fa_rf o 2) x3 (fa_ro (fa_r2_2 _ ho) hN hT) w _ rfl) wd_599 rfl (Nat.le_trans (Nat.le_of_ble_eq_true rfl) hle) (st := []) (Nat.le_of_ble_eq_true rfl) rfl d_Groups_number_26 ?_
        refine g_callSN_i X mi_Face_lowest (c_Face_lowest hN hT (fr_bits (fa_rf o 2) x3 w) w _ rfl) wd_600 rfl (Nat.le_trans (Nat.le_of_ble_eq_true rfl) hle) (st := []) (Nat.le_of_ble_eq_true rfl) rfl d_Groups_number_29 ?_
        refine g_iload_n X 3 rfl d_Groups_number_32 ?_
        refine g_icmp_ne X 76 d_Groups_number_33 (by decide) (fun hc8 => ?_) (fun hc8 => ?_)
        · have hM := fa_if_f hM hc8
          refine g_iinc X 3 (fun x3_9 => [(3, .int (fa_I x3_9)), (0, .ref (b + o)), (1, .int (fa_I a1)), (2, .int (fa_I a2))]) d_Groups_number_76 rfl (by decide) (fun _ => rfl) (fun x3_9 ex3_9 => ?_)
          have hM := fa_let_to hM ex3_9
          refine g_goto X 2 d_Groups_number_79 (by decide) ?_
          exact g_lv [1, 2, 3, 0] rfl (ih _ _ hM)
        · have hM := fa_if_t hM hc8
          refine g_aload_n X 0 rfl d_Groups_number_36 ?_
          refine g_get X ck_2 ho (fa_xn ho (by decide) hN) 0 (by decide) wd_374 rfl (fa_fvR rfl (fa_xt ho (by decide) hT 0)) d_Groups_number_37 ?_
          refine g_iload_n X 1 rfl d_Groups_number_40 ?_
          refine g_bipush X (by decide) d_Groups_number_41 ?_
          refine g_imul X d_Groups_number_43 ?_
          refine g_aload_n X 0 rfl d_Groups_number_44 ?_
          refine g_iload_n X 1 rfl d_Groups_number_45 ?_
          refine g_callV_i X ck_2 ho (fa_xn ho (by decide) hN) rfl mi_Groups_many (c_Groups_many hN hT o a1 ho w _ rfl) wd_607 rfl (Nat.le_trans (Nat.le_of_ble_eq_true rfl) hle) (st := [.int (fa_I (a1 * 24)), .ref (b + (fa_rf o 0))]) (Nat.le_of_ble_eq_true rfl) rfl d_Groups_number_46 ?_
          refine g_iadd X d_Groups_number_49 ?_
          refine g_aload_n X 0 rfl d_Groups_number_50 ?_
          refine g_get X ck_2 ho (fa_xn ho (by decide) hN) 2 (by decide) wd_376 rfl (fa_fvR rfl (fa_xt ho (by decide) hT 2)) d_Groups_number_51 ?_
          refine g_iload_n X 3 rfl d_Groups_number_54 ?_
          refine g_callV_i X ck_6 (fa_r2_2 _ ho) (fa_xn (fa_r2_2 _ ho) (by decide) hN) rfl mi_Row_bits (ct_Row_bits (fa_rf o 2) x3 (fa_ro (fa_r2_2 _ ho) hN hT) w _ rfl) wd_599 rfl (Nat.le_trans (Nat.le_of_ble_eq_true rfl) hle) (st := [.int (fa_I ((a1 * 24) + (fm_Groups_many o a1 w))), .ref (b + (fa_rf o 0))]) (Nat.le_of_ble_eq_true rfl) rfl d_Groups_number_55 ?_
          obtain ⟨w13, e12⟩ : ∃ q, fr_set (fa_rf o 0) ((a1 * 24) + (fm_Groups_many o a1 w)) (fr_bits (fa_rf o 2) x3 w) w = q := ⟨_, rfl⟩
          have hM := fa_let_to hM e12.symm
          refine g_callV_v X ck_6 (fa_r2_0 _ ho) (fa_xn (fa_r2_0 _ ho) (by decide) hN) rfl mi_Row_set (ct_Row_set (fa_rf o 0) ((a1 * 24) + (fm_Groups_many o a1 w)) (fr_bits (fa_rf o 2) x3 w) (fa_ro (fa_r2_0 _ ho) hN hT) w _ e12) wd_611 rfl (Nat.le_trans (Nat.le_of_ble_eq_true rfl) hle) (st := []) (Nat.le_of_ble_eq_true rfl) rfl d_Groups_number_58 ?_
          refine g_aload_n X 0 rfl d_Groups_number_61 ?_
          refine g_get X ck_2 ho (fa_xn ho (by decide) hN) 1 (by decide) wd_375 rfl (fa_fvR rfl (fa_xt ho (by decide) hT 1)) d_Groups_number_62 ?_
          refine g_iload_n X 1 rfl d_Groups_number_65 ?_
          refine g_aload_n X 0 rfl d_Groups_number_66 ?_
          refine g_iload_n X 1 rfl d_Groups_number_67 ?_
          refine g_callV_i X ck_2 ho (fa_xn ho (by decide) hN) rfl mi_Groups_many (c_Groups_many hN hT o a1 ho w13 _ rfl) wd_607 rfl (Nat.le_trans (Nat.le_of_ble_eq_true rfl) hle) (st := [.int (fa_I a1), .ref (b + (fa_rf o 1))]) (Nat.le_of_ble_eq_true rfl) rfl d_Groups_number_68 ?_
          refine g_iconst X d_Groups_number_71 ?_
          refine g_iadd X d_Groups_number_72 ?_
          obtain ⟨w16, e15⟩ : ∃ q, fr_set (fa_rf o 1) a1 ((fm_Groups_many o a1 w13) + 1) w13 = q := ⟨_, rfl⟩
          have hM := fa_let_to hM e15.symm
          refine g_callV_v X ck_6 (fa_r2_1 _ ho) (fa_xn (fa_r2_1 _ ho) (by decide) hN) rfl mi_Row_set (ct_Row_set (fa_rf o 1) a1 ((fm_Groups_many o a1 w13) + 1) (fa_ro (fa_r2_1 _ ho) hN hT) w13 _ e15) wd_611 rfl (Nat.le_trans (Nat.le_of_ble_eq_true rfl) hle) (st := []) (Nat.le_of_ble_eq_true rfl) rfl d_Groups_number_73 ?_
          refine g_iinc X 3 (fun x3_17 => [(3, .int (fa_I x3_17)), (0, .ref (b + o)), (1, .int (fa_I a1)), (2, .int (fa_I a2))]) d_Groups_number_76 rfl (by decide) (fun _ => rfl) (fun x3_17 ex3_17 => ?_)
          have hM := fa_let_to hM ex3_17
          refine g_goto X 2 d_Groups_number_79 (by decide) ?_
          exact g_lv [1, 2, 3, 0] rfl (ih _ _ hM)
def fm_Groups_number (o : Nat) (a1 : Int) (a2 : Int) (w : fa_W) : Option fa_W :=
  fm_Groups_number_l2 o a1 a2 fa_FU 0 w
set_option maxHeartbeats 4000000 in
set_option maxRecDepth 100000 in
theorem c_Groups_number {l : Launch} {D : va_G} {b : Nat} {aC : Nat → ClassId} {H0 : Heap} {N T : Nat} (hN : fa_NX ≤ N) (hT : fa_TX ≤ T) (o : Nat) (a1 : Int) (a2 : Int) (ho : (fa_sh o).1 = 2)  (w : fa_W) (r : fa_W) (hM : fm_Groups_number o a1 a2 w = some r) : fa_MC l D b aC H0 N T y_Groups_number prog_3_method_5_code 4 ((Option.none : Option Jvm.ClassFile.FieldType)) (2) [.ref (b + o), .int (fa_I a1), .int (fa_I a2)] w (none) r := by
  refine fa_enter (lv := [(0, .ref (b + o)), (1, .int (fa_I a1)), (2, .int (fa_I a2))]) (by decide +kernel) (Nat.le_of_ble_eq_true rfl) rfl (fun hh hle hnm X => ?_)
  unfold fm_Groups_number at hM
  refine g_iconst X d_Groups_number_0 ?_
  refine g_istorec_n X [(3, .int (fa_I 0)), (0, .ref (b + o)), (1, .int (fa_I a1)), (2, .int (fa_I a2))] d_Groups_number_1 (by decide) rfl ?_
  exact g_lv [1, 2, 3, 0] rfl (c_Groups_number_l2 X hle hN hT o a1 a2 ho   fa_FU _ _ hM)
theorem d_Groups_mateByType_0 : decode prog_3_method_3_code 0 = .ok (.iconst 0, 1) := by decide +kernel
theorem d_Groups_mateByType_1 : decode prog_3_method_3_code 1 = .ok (.istore 4, 2) := by decide +kernel
theorem d_Groups_mateByType_3 : decode prog_3_method_3_code 3 = .ok (.iload 4, 2) := by decide +kernel
theorem d_Groups_mateByType_5 : decode prog_3_method_3_code 5 = .ok (.aload_n 1, 1) := by decide +kernel
theorem d_Groups_mateByType_6 : decode prog_3_method_3_code 6 = .ok (.getfield 30, 3) := by decide +kernel
theorem d_Groups_mateByType_9 : decode prog_3_method_3_code 9 = .ok (.if_icmp .ge 71, 3) := by decide +kernel
theorem d_Groups_mateByType_12 : decode prog_3_method_3_code 12 = .ok (.iconst 0, 1) := by decide +kernel
theorem d_Groups_mateByType_13 : decode prog_3_method_3_code 13 = .ok (.istore 5, 2) := by decide +kernel
theorem d_Groups_mateByType_15 : decode prog_3_method_3_code 15 = .ok (.iconst 0, 1) := by decide +kernel
theorem d_Groups_mateByType_16 : decode prog_3_method_3_code 16 = .ok (.istore 6, 2) := by decide +kernel
theorem d_Groups_mateByType_18 : decode prog_3_method_3_code 18 = .ok (.iload 6, 2) := by decide +kernel
theorem d_Groups_mateByType_20 : decode prog_3_method_3_code 20 = .ok (.aload_n 1, 1) := by decide +kernel
theorem d_Groups_mateByType_21 : decode prog_3_method_3_code 21 = .ok (.getfield 30, 3) := by decide +kernel
theorem d_Groups_mateByType_24 : decode prog_3_method_3_code 24 = .ok (.if_icmp .ge 39, 3) := by decide +kernel
theorem d_Groups_mateByType_27 : decode prog_3_method_3_code 27 = .ok (.iload_n 3, 1) := by decide +kernel
theorem d_Groups_mateByType_28 : decode prog_3_method_3_code 28 = .ok (.iload 6, 2) := by decide +kernel
theorem d_Groups_mateByType_30 : decode prog_3_method_3_code 30 = .ok (.invokestatic 52, 3) := by decide +kernel
theorem d_Groups_mateByType_33 : decode prog_3_method_3_code 33 = .ok (.ifCond .eq 24, 3) := by decide +kernel
theorem d_Groups_mateByType_36 : decode prog_3_method_3_code 36 = .ok (.aload_n 2, 1) := by decide +kernel
theorem d_Groups_mateByType_37 : decode prog_3_method_3_code 37 = .ok (.iload 4, 2) := by decide +kernel
theorem d_Groups_mateByType_39 : decode prog_3_method_3_code 39 = .ok (.iload 6, 2) := by decide +kernel
theorem d_Groups_mateByType_41 : decode prog_3_method_3_code 41 = .ok (.invokevirtual 56, 3) := by decide +kernel
theorem d_Groups_mateByType_44 : decode prog_3_method_3_code 44 = .ok (.ifCond .eq 13, 3) := by decide +kernel
theorem d_Groups_mateByType_47 : decode prog_3_method_3_code 47 = .ok (.iload 5, 2) := by decide +kernel
theorem d_Groups_mateByType_49 : decode prog_3_method_3_code 49 = .ok (.iload 6, 2) := by decide +kernel
theorem d_Groups_mateByType_51 : decode prog_3_method_3_code 51 = .ok (.invokestatic 61, 3) := by decide +kernel
theorem d_Groups_mateByType_54 : decode prog_3_method_3_code 54 = .ok (.ior, 1) := by decide +kernel
theorem d_Groups_mateByType_55 : decode prog_3_method_3_code 55 = .ok (.istore 5, 2) := by decide +kernel
theorem d_Groups_mateByType_57 : decode prog_3_method_3_code 57 = .ok (.iinc 6 1, 3) := by decide +kernel
theorem d_Groups_mateByType_60 : decode prog_3_method_3_code 60 = .ok (.goto (-42), 3) := by decide +kernel
theorem d_Groups_mateByType_63 : decode prog_3_method_3_code 63 = .ok (.aload_n 0, 1) := by decide +kernel
theorem d_Groups_mateByType_64 : decode prog_3_method_3_code 64 = .ok (.getfield 23, 3) := by decide +kernel
theorem d_Groups_mateByType_67 : decode prog_3_method_3_code 67 = .ok (.iload 4, 2) := by decide +kernel
theorem d_Groups_mateByType_69 : decode prog_3_method_3_code 69 = .ok (.iload 5, 2) := by decide +kernel
theorem d_Groups_mateByType_71 : decode prog_3_method_3_code 71 = .ok (.invokevirtual 65, 3) := by decide +kernel
theorem d_Groups_mateByType_74 : decode prog_3_method_3_code 74 = .ok (.iinc 4 1, 3) := by decide +kernel
theorem d_Groups_mateByType_77 : decode prog_3_method_3_code 77 = .ok (.goto (-74), 3) := by decide +kernel
theorem d_Groups_mateByType_80 : decode prog_3_method_3_code 80 = .ok (.return_, 1) := by decide +kernel
def fm_Groups_mateByType_l18 (o : Nat) (a1 : Nat) (a2 : Nat) (a3 : Int) (k3 : Int → fa_W → Option fa_W) : Nat → Int → Int → Int → fa_W → Option fa_W
  | 0, _, _, _, _ => none
  | n + 1, x4, x5, x6, w => if fa_wr (w a1 14) ≤ fa_wr x6 then
  (fa_let (fr_set (fa_rf o 2) x4 x5 w) fun w4 =>
  fa_let (x4 + 1) fun x4_5 =>
  k3 x4_5 w4)
  else
  (if fm_Face_hasBit a3 x6 w = true then
  ((fm_Typing_same a2 x4 x6 w).bind fun v10 =>
  if v10 = true then
  (fa_let (fa_ior x5 (fm_Face_bit x6 w)) fun x5_14 =>
  fa_let (x6 + 1) fun x6_15 =>
  fm_Groups_mateByType_l18 o a1 a2 a3 k3 n x4 x5_14 x6_15 w)
  else
  (fa_let (x6 + 1) fun x6_12 =>
  fm_Groups_mateByType_l18 o a1 a2 a3 k3 n x4 x5 x6_12 w))
  else
  (fa_let (x6 + 1) fun x6_8 =>
  fm_Groups_mateByType_l18 o a1 a2 a3 k3 n x4 x5 x6_8 w))
set_option maxHeartbeats 4000000 in
set_option maxRecDepth 100000 in
theorem c_Groups_mateByType_l18 {p : Program} {l : Launch} {e : Env} {s : State} {m : MethodId} {args : Array Value} {below : List Frame} {meth : Method} {c : Code} {hh : Nat} {D : va_G} {b : Nat} {aC : Nat → ClassId} {H0 : Heap} {N T : Nat} (X : fa_GX p s m args meth c prog_3_method_3_code 7 ((Option.none : Option Jvm.ClassFile.FieldType)) y_Groups_mateByType.cls D b aC) (hle : 3 ≤ hh) (hN : fa_NX ≤ N) (hT : fa_TX ≤ T) (o : Nat) (a1 : Nat) (a2 : Nat) (a3 : Int) (ho : (fa_sh o).1 = 2) (ha1 : (fa_sh a1).1 = 4) (ha2 : (fa_sh a2).1 = 8) {r : fa_W} (k3 : Int → fa_W → Option fa_W) (K3 : ∀ (x4 : Int) (w : fa_W), k3 x4 w = some r → fa_GJ p l e (fa_rm hh) s m args below meth c 0 0 (MQ below (fa_Qc D b aC H0 N T (none) r) args s 0 0 (fun q => b ≤ q)) D b aC H0 N T 7 w 3 [(0, .ref (b + o)), (1, .ref (b + a1)), (2, .ref (b + a2)), (3, .int (fa_I a3)), (4, .int (fa_I x4))] []) : ∀ (n : Nat) (x4 : Int) (x5 : Int) (x6 : Int) (w : fa_W), fm_Groups_mateByType_l18 o a1 a2 a3 k3 n x4 x5 x6 w = some r → fa_GJ p l e (fa_rm hh) s m args below meth c 0 0 (MQ below (fa_Qc D b aC H0 N T (none) r) args s 0 0 (fun q => b ≤ q)) D b aC H0 N T 7 w 18 [(0, .ref (b + o)), (1, .ref (b + a1)), (2, .ref (b + a2)), (3, .int (fa_I a3)), (4, .int (fa_I x4)), (5, .int (fa_I x5)), (6, .int (fa_I x6))] [] := by
  intro n
  induction n with
  | zero => intro x4 x5 x6 w hM; exact fa_no hM
  | succ n ih =>
    intro x4 x5 x6 w hM
    rw [fm_Groups_mateByType_l18] at hM
    refine g_iload X 6 rfl d_Groups_mateByType_18 ?_
    refine g_aload_n X 1 rfl d_Groups_mateByType_20 ?_
    refine g_getN X ck_4 ha1 (fa_xn ha1 (by decide) hN) 14 (by decide) wd_97 rfl (fa_fvI rfl) d_Groups_mateByType_21 ?_
    refine g_icmp_ge X 63 d_Groups_mateByType_24 (by decide) (fun hc2 => ?_) (fun hc2 => ?_)
    · have hM := fa_if_t hM hc2
      refine g_aload_n X 0 rfl d_Groups_mateByType_63 ?_
      refine g_get X ck_2 ho (fa_xn ho (by decide) hN) 2 (by decide) wd_376 rfl (fa_fvR rfl (fa_xt ho (by decide) hT 2)) d_Groups_mateByType_64 ?_
      refine g_iload X 4 rfl d_Groups_mateByType_67 ?_
      refine g_iload X 5 rfl d_Groups_mateByType_69 ?_
      obtain ⟨w4, e3⟩ : ∃ q, fr_set (fa_rf o 2) x4 x5 w = q := ⟨_, rfl⟩
      have hM := fa_let_to hM e3.symm
      refine g_callV_v X ck_6 (fa_r2_2 _ ho) (fa_xn (fa_r2_2 _ ho) (by decide) hN) rfl mi_Row_set (ct_Row_set (fa_rf o 2) x4 x5 (fa_ro (fa_r2_2 _ ho) hN hT) w _ e3) wd_611 rfl (Nat.le_trans (Nat.le_of_ble_eq_true rfl) hle) (st := []) (Nat.le_of_ble_eq_true rfl) rfl d_Groups_mateByType_71 ?_
      refine g_iinc X 4 (fun x4_5 => [(4, .int (fa_I x4_5)), (0, .ref (b + o)), (1, .ref (b + a1)), (2, .ref (b + a2)), (3, .int (fa_I a3)), (5, .int (fa_I x5)), (6, .int (fa_I x6))]) d_Groups_mateByType_74 rfl (by decide) (fun _ => rfl) (fun x4_5 ex4_5 => ?_)
      have hM := fa_let_to hM ex4_5
      refine g_goto X 3 d_Groups_mateByType_77 (by decide) ?_
      exact g_lv [1, 2, 3, 4, 0] rfl (K3 _ _ hM)
    · have hM := fa_if_f hM hc2
      refine g_iload_n X 3 rfl d_Groups_mateByType_27 ?_
      refine g_iload X 6 rfl d_Groups_mateByType_28 ?_
      refine g_callSN_i X mi_Face_hasBit (c_Face_hasBit hN hT a3 x6 w _ rfl) wd_598 rfl (Nat.le_trans (Nat.le_of_ble_eq_true rfl) hle) (st := []) (Nat.le_of_ble_eq_true rfl) rfl d_Groups_mateByType_30 ?_
      refine g_ifb_eq X 57 d_Groups_mateByType_33 (by decide) (fun hc7 => ?_) (fun hc7 => ?_)
      · have hM := fa_ifb_f hM hc7
        refine g_iinc X 6 (fun x6_8 => [(6, .int (fa_I x6_8)), (0, .ref (b + o)), (1, .ref (b + a1)), (2, .ref (b + a2)), (3, .int (fa_I a3)), (4, .int (fa_I x4)), (5, .int (fa_I x5))]) d_Groups_mateByType_57 rfl (by decide) (fun _ => rfl) (fun x6_8 ex6_8 => ?_)
        have hM := fa_let_to hM ex6_8
        refine g_goto X 18 d_Groups_mateByType_60 (by decide) ?_
        exact g_lv [1, 2, 3, 4, 5, 6, 0] rfl (ih _ _ _ _ hM)
      · have hM := fa_ifb_t hM hc7
        refine g_aload_n X 2 rfl d_Groups_mateByType_36 ?_
        refine g_iload X 4 rfl d_Groups_mateByType_37 ?_
        refine g_iload X 6 rfl d_Groups_mateByType_39 ?_
        obtain ⟨v10, e9, hM⟩ := fa_ob hM
        refine g_callV_i X ck_8 ha2 (fa_xn ha2 (by decide) hN) rfl mi_Typing_same (c_Typing_same hN hT a2 x4 x6 ha2 w _ e9) wd_616 rfl (Nat.le_trans (Nat.le_of_ble_eq_true rfl) hle) (st := []) (Nat.le_of_ble_eq_true rfl) rfl d_Groups_mateByType_41 ?_
        refine g_ifb_eq X 57 d_Groups_mateByType_44 (by decide) (fun hc11 => ?_) (fun hc11 => ?_)
        · have hM := fa_ifb_f hM hc11
          refine g_iinc X 6 (fun x6_12 => [(6, .int (fa_I x6_12)), (0, .ref (b + o)), (1, .ref (b + a1)), (2, .ref (b + a2)), (3, .int (fa_I a3)), (4, .int (fa_I x4)), (5, .int (fa_I x5))]) d_Groups_mateByType_57 rfl (by decide) (fun _ => rfl) (fun x6_12 ex6_12 => ?_)
          have hM := fa_let_to hM ex6_12
          refine g_goto X 18 d_Groups_mateByType_60 (by decide) ?_
          exact g_lv [1, 2, 3, 4, 5, 6, 0] rfl (ih _ _ _ _ hM)
        · have hM := fa_ifb_t hM hc11
          refine g_iload X 5 rfl d_Groups_mateByType_47 ?_
          refine g_iload X 6 rfl d_Groups_mateByType_49 ?_
          refine g_callSN_i X mi_Face_bit (c_Face_bit hN hT x6 w _ rfl) wd_620 rfl (Nat.le_trans (Nat.le_of_ble_eq_true rfl) hle) (st := [.int (fa_I x5)]) (Nat.le_of_ble_eq_true rfl) rfl d_Groups_mateByType_51 ?_
          refine g_ior X d_Groups_mateByType_54 ?_
          refine g_istore X (fun x5_14 => [(5, .int (fa_I x5_14)), (0, .ref (b + o)), (1, .ref (b + a1)), (2, .ref (b + a2)), (3, .int (fa_I a3)), (4, .int (fa_I x4)), (6, .int (fa_I x6))]) d_Groups_mateByType_55 (by decide) (fun _ => rfl) (fun x5_14 ex5_14 => ?_)
          have hM := fa_let_to hM ex5_14
          refine g_iinc X 6 (fun x6_15 => [(6, .int (fa_I x6_15)), (5, .int (fa_I x5_14)), (0, .ref (b + o)), (1, .ref (b + a1)), (2, .ref (b + a2)), (3, .int (fa_I a3)), (4, .int (fa_I x4))]) d_Groups_mateByType_57 rfl (by decide) (fun _ => rfl) (fun x6_15 ex6_15 => ?_)
          have hM := fa_let_to hM ex6_15
          refine g_goto X 18 d_Groups_mateByType_60 (by decide) ?_
          exact g_lv [2, 3, 4, 5, 6, 1, 0] rfl (ih _ _ _ _ hM)
def fm_Groups_mateByType_l3 (o : Nat) (a1 : Nat) (a2 : Nat) (a3 : Int) : Nat → Int → fa_W → Option fa_W
  | 0, _, _ => none
  | n + 1, x4, w => if fa_wr (w a1 14) ≤ fa_wr x4 then
  some w
  else
  fm_Groups_mateByType_l18 o a1 a2 a3 (fun x4 w9 => fm_Groups_mateByType_l3 o a1 a2 a3 n x4 w9) fa_FU x4 0 0 w
set_option maxHeartbeats 4000000 in
set_option maxRecDepth 100000 in
theorem c_Groups_mateByType_l3 {p : Program} {l : Launch} {e : Env} {s : State} {m : MethodId} {args : Array Value} {below : List Frame} {meth : Method} {c : Code} {hh : Nat} {D : va_G} {b : Nat} {aC : Nat → ClassId} {H0 : Heap} {N T : Nat} (X : fa_GX p s m args meth c prog_3_method_3_code 7 ((Option.none : Option Jvm.ClassFile.FieldType)) y_Groups_mateByType.cls D b aC) (hle : 3 ≤ hh) (hN : fa_NX ≤ N) (hT : fa_TX ≤ T) (o : Nat) (a1 : Nat) (a2 : Nat) (a3 : Int) (ho : (fa_sh o).1 = 2) (ha1 : (fa_sh a1).1 = 4) (ha2 : (fa_sh a2).1 = 8) {r : fa_W}  : ∀ (n : Nat) (x4 : Int) (w : fa_W), fm_Groups_mateByType_l3 o a1 a2 a3 n x4 w = some r → fa_GJ p l e (fa_rm hh) s m args below meth c 0 0 (MQ below (fa_Qc D b aC H0 N T (none) r) args s 0 0 (fun q => b ≤ q)) D b aC H0 N T 7 w 3 [(0, .ref (b + o)), (1, .ref (b + a1)), (2, .ref (b + a2)), (3, .int (fa_I a3)), (4, .int (fa_I x4))] [] := by
  intro n
  induction n with
  | zero => intro x4 w hM; exact fa_no hM
  | succ n ih =>
    intro x4 w hM
    rw [fm_Groups_mateByType_l3] at hM
    refine g_iload X 4 rfl d_Groups_mateByType_3 ?_
    refine g_aload_n X 1 rfl d_Groups_mateByType_5 ?_
    refine g_getN X ck_4 ha1 (fa_xn ha1 (by decide) hN) 14 (by decide) wd_97 rfl (fa_fvI rfl) d_Groups_mateByType_6 ?_
    refine g_icmp_ge X 80 d_Groups_mateByType_9 (by decide) (fun hc1 => ?_) (fun hc1 => ?_)
    · have hM := fa_if_t hM hc1
      cases hM
      exact g_vret X d_Groups_mateByType_80
    · have hM := fa_if_f hM hc1
      refine g_iconst X d_Groups_mateByType_12 ?_
      refine g_istorec X [(5, .int (fa_I 0)), (0, .ref (b + o)), (1, .ref (b + a1)), (2, .ref (b + a2)), (3, .int (fa_I a3)), (4, .int (fa_I x4))] d_Groups_mateByType_13 (by decide) rfl ?_
      refine g_iconst X d_Groups_mateByType_15 ?_
      refine g_istorec X [(6, .int (fa_I 0)), (5, .int (fa_I 0)), (0, .ref (b + o)), (1, .ref (b + a1)), (2, .ref (b + a2)), (3, .int (fa_I a3)), (4, .int (fa_I x4))] d_Groups_mateByType_16 (by decide) rfl ?_
      exact g_lv [2, 3, 4, 5, 6, 1, 0] rfl (c_Groups_mateByType_l18 X hle hN hT o a1 a2 a3 ho ha1 ha2  (fun x4 w9 => fm_Groups_mateByType_l3 o a1 a2 a3 n x4 w9) (fun _ _ h => ih _ _ h) fa_FU _ _ _ _ hM)
def fm_Groups_mateByType (o : Nat) (a1 : Nat) (a2 : Nat) (a3 : Int) (w : fa_W) : Option fa_W :=
  fm_Groups_mateByType_l3 o a1 a2 a3 fa_FU 0 w
set_option maxHeartbeats 4000000 in
set_option maxRecDepth 100000 in
theorem c_Groups_mateByType {l : Launch} {D : va_G} {b : Nat} {aC : Nat → ClassId} {H0 : Heap} {N T : Nat} (hN : fa_NX ≤ N) (hT : fa_TX ≤ T) (o : Nat) (a1 : Nat) (a2 : Nat) (a3 : Int) (ho : (fa_sh o).1 = 2) (ha1 : (fa_sh a1).1 = 4) (ha2 : (fa_sh a2).1 = 8)  (w : fa_W) (r : fa_W) (hM : fm_Groups_mateByType o a1 a2 a3 w = some r) : fa_MC l D b aC H0 N T y_Groups_mateByType prog_3_method_3_code 7 ((Option.none : Option Jvm.ClassFile.FieldType)) (3) [.ref (b + o), .ref (b + a1), .ref (b + a2), .int (fa_I a3)] w (none) r := by
  refine fa_enter (lv := [(0, .ref (b + o)), (1, .ref (b + a1)), (2, .ref (b + a2)), (3, .int (fa_I a3))]) (by decide +kernel) (Nat.le_of_ble_eq_true rfl) rfl (fun hh hle hnm X => ?_)
  unfold fm_Groups_mateByType at hM
  refine g_iconst X d_Groups_mateByType_0 ?_
  refine g_istorec X [(4, .int (fa_I 0)), (0, .ref (b + o)), (1, .ref (b + a1)), (2, .ref (b + a2)), (3, .int (fa_I a3))] d_Groups_mateByType_1 (by decide) rfl ?_
  exact g_lv [1, 2, 3, 4, 0] rfl (c_Groups_mateByType_l3 X hle hN hT o a1 a2 a3 ho ha1 ha2   fa_FU _ _ hM)
theorem d_Groups_mateBySites_0 : decode prog_3_method_4_code 0 = .ok (.iconst 0, 1) := by decide +kernel
theorem d_Groups_mateBySites_1 : decode prog_3_method_4_code 1 = .ok (.istore_n 3, 1) := by decide +kernel
theorem d_Groups_mateBySites_2 : decode prog_3_method_4_code 2 = .ok (.iload_n 3, 1) := by decide +kernel
theorem d_Groups_mateBySites_3 : decode prog_3_method_4_code 3 = .ok (.aload_n 1, 1) := by decide +kernel
theorem d_Groups_mateBySites_4 : decode prog_3_method_4_code 4 = .ok (.getfield 30, 3) := by decide +kernel
theorem d_Groups_mateBySites_7 : decode prog_3_method_4_code 7 = .ok (.if_icmp .ge 21, 3) := by decide +kernel
theorem d_Groups_mateBySites_10 : decode prog_3_method_4_code 10 = .ok (.aload_n 0, 1) := by decide +kernel
theorem d_Groups_mateBySites_11 : decode prog_3_method_4_code 11 = .ok (.getfield 23, 3) := by decide +kernel
theorem d_Groups_mateBySites_14 : decode prog_3_method_4_code 14 = .ok (.iload_n 3, 1) := by decide +kernel
theorem d_Groups_mateBySites_15 : decode prog_3_method_4_code 15 = .ok (.iload_n 3, 1) := by decide +kernel
theorem d_Groups_mateBySites_16 : decode prog_3_method_4_code 16 = .ok (.invokestatic 61, 3) := by decide +kernel
theorem d_Groups_mateBySites_19 : decode prog_3_method_4_code 19 = .ok (.invokevirtual 65, 3) := by decide +kernel
theorem d_Groups_mateBySites_22 : decode prog_3_method_4_code 22 = .ok (.iinc 3 1, 3) := by decide +kernel
theorem d_Groups_mateBySites_25 : decode prog_3_method_4_code 25 = .ok (.goto (-23), 3) := by decide +kernel
theorem d_Groups_mateBySites_28 : decode prog_3_method_4_code 28 = .ok (.iconst 0, 1) := by decide +kernel
theorem d_Groups_mateBySites_29 : decode prog_3_method_4_code 29 = .ok (.istore_n 3, 1) := by decide +kernel
theorem d_Groups_mateBySites_30 : decode prog_3_method_4_code 30 = .ok (.iload_n 3, 1) := by decide +kernel
theorem d_Groups_mateBySites_31 : decode prog_3_method_4_code 31 = .ok (.aload_n 1, 1) := by decide +kernel
theorem d_Groups_mateBySites_32 : decode prog_3_method_4_code 32 = .ok (.getfield 68, 3) := by decide +kernel
theorem d_Groups_mateBySites_35 : decode prog_3_method_4_code 35 = .ok (.if_icmp .ge 105, 3) := by decide +kernel
theorem d_Groups_mateBySites_38 : decode prog_3_method_4_code 38 = .ok (.aload_n 2, 1) := by decide +kernel
theorem d_Groups_mateBySites_39 : decode prog_3_method_4_code 39 = .ok (.aload_n 1, 1) := by decide +kernel
theorem d_Groups_mateBySites_40 : decode prog_3_method_4_code 40 = .ok (.aload_n 1, 1) := by decide +kernel
theorem d_Groups_mateBySites_41 : decode prog_3_method_4_code 41 = .ok (.getfield 71, 3) := by decide +kernel
theorem d_Groups_mateBySites_44 : decode prog_3_method_4_code 44 = .ok (.iload_n 3, 1) := by decide +kernel
theorem d_Groups_mateBySites_45 : decode prog_3_method_4_code 45 = .ok (.invokevirtual 74, 3) := by decide +kernel
theorem d_Groups_mateBySites_48 : decode prog_3_method_4_code 48 = .ok (.invokevirtual 77, 3) := by decide +kernel
theorem d_Groups_mateBySites_51 : decode prog_3_method_4_code 51 = .ok (.istore 4, 2) := by decide +kernel
theorem d_Groups_mateBySites_53 : decode prog_3_method_4_code 53 = .ok (.iconst 0, 1) := by decide +kernel
theorem d_Groups_mateBySites_54 : decode prog_3_method_4_code 54 = .ok (.istore 5, 2) := by decide +kernel
theorem d_Groups_mateBySites_56 : decode prog_3_method_4_code 56 = .ok (.iload 5, 2) := by decide +kernel
theorem d_Groups_mateBySites_58 : decode prog_3_method_4_code 58 = .ok (.aload_n 1, 1) := by decide +kernel
theorem d_Groups_mateBySites_59 : decode prog_3_method_4_code 59 = .ok (.getfield 30, 3) := by decide +kernel
theorem d_Groups_mateBySites_62 : decode prog_3_method_4_code 62 = .ok (.if_icmp .ge 33, 3) := by decide +kernel
theorem d_Groups_mateBySites_65 : decode prog_3_method_4_code 65 = .ok (.iload 4, 2) := by decide +kernel
theorem d_Groups_mateBySites_67 : decode prog_3_method_4_code 67 = .ok (.iload 5, 2) := by decide +kernel
theorem d_Groups_mateBySites_69 : decode prog_3_method_4_code 69 = .ok (.invokestatic 52, 3) := by decide +kernel
theorem d_Groups_mateBySites_72 : decode prog_3_method_4_code 72 = .ok (.ifCond .eq 17, 3) := by decide +kernel
theorem d_Groups_mateBySites_75 : decode prog_3_method_4_code 75 = .ok (.iload 4, 2) := by decide +kernel
theorem d_Groups_mateBySites_77 : decode prog_3_method_4_code 77 = .ok (.aload_n 0, 1) := by decide +kernel
theorem d_Groups_mateBySites_78 : decode prog_3_method_4_code 78 = .ok (.getfield 23, 3) := by decide +kernel
theorem d_Groups_mateBySites_81 : decode prog_3_method_4_code 81 = .ok (.iload 5, 2) := by decide +kernel
theorem d_Groups_mateBySites_83 : decode prog_3_method_4_code 83 = .ok (.invokevirtual 81, 3) := by decide +kernel
theorem d_Groups_mateBySites_86 : decode prog_3_method_4_code 86 = .ok (.ior, 1) := by decide +kernel
theorem d_Groups_mateBySites_87 : decode prog_3_method_4_code 87 = .ok (.istore 4, 2) := by decide +kernel
theorem d_Groups_mateBySites_89 : decode prog_3_method_4_code 89 = .ok (.iinc 5 1, 3) := by decide +kernel
theorem d_Groups_mateBySites_92 : decode prog_3_method_4_code 92 = .ok (.goto (-36), 3) := by decide +kernel
theorem d_Groups_mateBySites_95 : decode prog_3_method_4_code 95 = .ok (.iconst 0, 1) := by decide +kernel
theorem d_Groups_mateBySites_96 : decode prog_3_method_4_code 96 = .ok (.istore 5, 2) := by decide +kernel
theorem d_Groups_mateBySites_98 : decode prog_3_method_4_code 98 = .ok (.iload 5, 2) := by decide +kernel
theorem d_Groups_mateBySites_100 : decode prog_3_method_4_code 100 = .ok (.aload_n 1, 1) := by decide +kernel
theorem d_Groups_mateBySites_101 : decode prog_3_method_4_code 101 = .ok (.getfield 30, 3) := by decide +kernel
theorem d_Groups_mateBySites_104 : decode prog_3_method_4_code 104 = .ok (.if_icmp .ge 30, 3) := by decide +kernel
theorem d_Groups_mateBySites_107 : decode prog_3_method_4_code 107 = .ok (.iload 4, 2) := by decide +kernel
theorem d_Groups_mateBySites_109 : decode prog_3_method_4_code 109 = .ok (.iload 5, 2) := by decide +kernel
theorem d_Groups_mateBySites_111 : decode prog_3_method_4_code 111 = .ok (.invokestatic 52, 3) := by decide +kernel
theorem d_Groups_mateBySites_114 : decode prog_3_method_4_code 114 = .ok (.ifCond .eq 14, 3) := by decide +kernel
theorem d_Groups_mateBySites_117 : decode prog_3_method_4_code 117 = .ok (.aload_n 0, 1) := by decide +kernel
theorem d_Groups_mateBySites_118 : decode prog_3_method_4_code 118 = .ok (.getfield 23, 3) := by decide +kernel
theorem d_Groups_mateBySites_121 : decode prog_3_method_4_code 121 = .ok (.iload 5, 2) := by decide +kernel
theorem d_Groups_mateBySites_123 : decode prog_3_method_4_code 123 = .ok (.iload 4, 2) := by decide +kernel
theorem d_Groups_mateBySites_125 : decode prog_3_method_4_code 125 = .ok (.invokevirtual 65, 3) := by decide +kernel
theorem d_Groups_mateBySites_128 : decode prog_3_method_4_code 128 = .ok (.iinc 5 1, 3) := by decide +kernel
theorem d_Groups_mateBySites_131 : decode prog_3_method_4_code 131 = .ok (.goto (-33), 3) := by decide +kernel
theorem d_Groups_mateBySites_134 : decode prog_3_method_4_code 134 = .ok (.iinc 3 1, 3) := by decide +kernel
theorem d_Groups_mateBySites_137 : decode prog_3_method_4_code 137 = .ok (.goto (-107), 3) := by decide +kernel
theorem d_Groups_mateBySites_140 : decode prog_3_method_4_code 140 = .ok (.return_, 1) := by decide +kernel
def fm_Groups_mateBySites_l98 (o : Nat) (a1 : Nat) (a2 : Nat) (k30 : Int → fa_W → Option fa_W) : Nat → Int → Int → Int → fa_W → Option fa_W
  | 0, _, _, _, _ => none
  | n + 1, x3, x4, x5, w => if fa_wr (w a1 14) ≤ fa_wr x5 then
  (fa_let (x3 + 1) fun x3_8 =>
  k30 x3_8 w)
  else
  (if fm_Face_hasBit x4 x5 w = true then
  (fa_let (fr_set (fa_rf o 2) x5 x4 w) fun w13 =>
  fa_let (x5 + 1) fun x5_14 =>
  fm_Groups_mateBySites_l98 o a1 a2 k30 n x3 x4 x5_14 w13)
  else
  (fa_let (x5 + 1) fun x5_11 =>
  fm_Groups_mateBySites_l98 o a1 a2 k30 n x3 x4 x5_11 w))
set_option maxHeartbeats 4000000 in
set_option maxRecDepth 100000 in
theorem c_Groups_mateBySites_l98 {p : Program} {l : Launch} {e : Env} {s : State} {m : MethodId} {args : Array Value} {below : List Frame} {meth : Method} {c : Code} {hh : Nat} {D : va_G} {b : Nat} {aC : Nat → ClassId} {H0 : Heap} {N T : Nat} (X : fa_GX p s m args meth c prog_3_method_4_code 6 ((Option.none : Option Jvm.ClassFile.FieldType)) y_Groups_mateBySites.cls D b aC) (hle : 3 ≤ hh) (hN : fa_NX ≤ N) (hT : fa_TX ≤ T) (o : Nat) (a1 : Nat) (a2 : Nat) (ho : (fa_sh o).1 = 2) (ha1 : (fa_sh a1).1 = 4) (ha2 : (fa_sh a2).1 = 1) {r : fa_W} (k30 : Int → fa_W → Option fa_W) (K30 : ∀ (x3 : Int) (w : fa_W), k30 x3 w = some r → fa_GJ p l e (fa_rm hh) s m args below meth c 0 0 (MQ below (fa_Qc D b aC H0 N T (none) r) args s 0 0 (fun q => b ≤ q)) D b aC H0 N T 6 w 30 [(0, .ref (b + o)), (1, .ref (b + a1)), (2, .ref (b + a2)), (3, .int (fa_I x3))] []) : ∀ (n : Nat) (x3 : Int) (x4 : Int) (x5 : Int) (w : fa_W), fm_Groups_mateBySites_l98 o a1 a2 k30 n x3 x4 x5 w = some r → fa_GJ p l e (fa_rm hh) s m args below meth c 0 0 (MQ below (fa_Qc D b aC H0 N T (none) r) args s 0 0 (fun q => b ≤ q)) D b aC H0 N T 6 w 98 [(0, .ref (b + o)), (1, .ref (b + a1)), (2, .ref (b + a2)), (3, .int (fa_I x3)), (4, .int (fa_I x4)), (5, .int (fa_I x5))] [] := by
  intro n
  induction n with
  | zero => intro x3 x4 x5 w hM; exact fa_no hM
  | succ n ih =>
    intro x3 x4 x5 w hM
    rw [fm_Groups_mateBySites_l98] at hM
    refine g_iload X 5 rfl d_Groups_mateBySites_98 ?_
    refine g_aload_n X 1 rfl d_Groups_mateBySites_100 ?_
    refine g_getN X ck_4 ha1 (fa_xn ha1 (by decide) hN) 14 (by decide) wd_97 rfl (fa_fvI rfl) d_Groups_mateBySites_101 ?_
    refine g_icmp_ge X 134 d_Groups_mateBySites_104 (by decide) (fun hc7 => ?_) (fun hc7 => ?_)
    · have hM := fa_if_t hM hc7
      refine g_iinc X 3 (fun x3_8 => [(3, .int (fa_I x3_8)), (0, .ref (b + o)), (1, .ref (b + a1)), (2, .ref (b + a2)), (4, .int (fa_I x4)), (5, .int (fa_I x5))]) d_Groups_mateBySites_134 rfl (by decide) (fun _ => rfl) (fun x3_8 ex3_8 => ?_)
      have hM := fa_let_to hM ex3_8
      refine g_goto X 30 d_Groups_mateBySites_137 (by decide) ?_
      exact g_lv [1, 2, 3, 0] rfl (K30 _ _ hM)
    · have hM := fa_if_f hM hc7
      refine g_iload X 4 rfl d_Groups_mateBySites_107 ?_
      refine g_iload X 5 rfl d_Groups_mateBySites_109 ?_
      refine g_callSN_i X mi_Face_hasBit (c_Face_hasBit hN hT x4 x5 w _ rfl) wd_598 rfl (Nat.le_trans (Nat.le_of_ble_eq_true rfl) hle) (st := []) (Nat.le_of_ble_eq_true rfl) rfl d_Groups_mateBySites_111 ?_
      refine g_ifb_eq X 128 d_Groups_mateBySites_114 (by decide) (fun hc10 => ?_) (fun hc10 => ?_)
      · have hM := fa_ifb_f hM hc10
        refine g_iinc X 5 (fun x5_11 => [(5, .int (fa_I x5_11)), (0, .ref (b + o)), (1, .ref (b + a1)), (2, .ref (b + a2)), (3, .int (fa_I x3)), (4, .int (fa_I x4))]) d_Groups_mateBySites_128 rfl (by decide) (fun _ => rfl) (fun x5_11 ex5_11 => ?_)
        have hM := fa_let_to hM ex5_11
        refine g_goto X 98 d_Groups_mateBySites_131 (by decide) ?_
        exact g_lv [1, 2, 3, 4, 5, 0] rfl (ih _ _ _ _ hM)
      · have hM := fa_ifb_t hM hc10
        refine g_aload_n X 0 rfl d_Groups_mateBySites_117 ?_
        refine g_get X ck_2 ho (fa_xn ho (by decide) hN) 2 (by decide) wd_376 rfl (fa_fvR rfl (fa_xt ho (by decide) hT 2)) d_Groups_mateBySites_118 ?_
        refine g_iload X 5 rfl d_Groups_mateBySites_121 ?_
        refine g_iload X 4 rfl d_Groups_mateBySites_123 ?_
        obtain ⟨w13, e12⟩ : ∃ q, fr_set (fa_rf o 2) x5 x4 w = q := ⟨_, rfl⟩
        have hM := fa_let_to hM e12.symm
        refine g_callV_v X ck_6 (fa_r2_2 _ ho) (fa_xn (fa_r2_2 _ ho) (by decide) hN) rfl mi_Row_set (ct_Row_set (fa_rf o 2) x5 x4 (fa_ro (fa_r2_2 _ ho) hN hT) w _ e12) wd_611 rfl (Nat.le_trans (Nat.le_of_ble_eq_true rfl) hle) (st := []) (Nat.le_of_ble_eq_true rfl) rfl d_Groups_mateBySites_125 ?_
        refine g_iinc X 5 (fun x5_14 => [(5, .int (fa_I x5_14)), (0, .ref (b + o)), (1, .ref (b + a1)), (2, .ref (b + a2)), (3, .int (fa_I x3)), (4, .int (fa_I x4))]) d_Groups_mateBySites_128 rfl (by decide) (fun _ => rfl) (fun x5_14 ex5_14 => ?_)
        have hM := fa_let_to hM ex5_14
        refine g_goto X 98 d_Groups_mateBySites_131 (by decide) ?_
        exact g_lv [1, 2, 3, 4, 5, 0] rfl (ih _ _ _ _ hM)
def fm_Groups_mateBySites_l56 (o : Nat) (a1 : Nat) (a2 : Nat) (k30 : Int → fa_W → Option fa_W) : Nat → Int → Int → Int → fa_W → Option fa_W
  | 0, _, _, _, _ => none
  | n + 1, x3, x4, x5, w => if fa_wr (w a1 14) ≤ fa_wr x5 then
  fm_Groups_mateBySites_l98 o a1 a2 k30 fa_FU x3 x4 0 w
  else
  (if fm_Face_hasBit x4 x5 w = true then
  (fa_let (fa_ior x4 (fr_bits (fa_rf o 2) x5 w)) fun x4_19 =>
  fa_let (x5 + 1) fun x5_20 =>
  fm_Groups_mateBySites_l56 o a1 a2 k30 n x3 x4_19 x5_20 w)
  else
  (fa_let (x5 + 1) fun x5_17 =>
  fm_Groups_mateBySites_l56 o a1 a2 k30 n x3 x4 x5_17 w))
set_option maxHeartbeats 4000000 in
set_option maxRecDepth 100000 in
theorem c_Groups_mateBySites_l56 {p : Program} {l : Launch} {e : Env} {s : State} {m : MethodId} {args : Array Value} {below : List Frame} {meth : Method} {c : Code} {hh : Nat} {D : va_G} {b : Nat} {aC : Nat → ClassId} {H0 : Heap} {N T : Nat} (X : fa_GX p s m args meth c prog_3_method_4_code 6 ((Option.none : Option Jvm.ClassFile.FieldType)) y_Groups_mateBySites.cls D b aC) (hle : 3 ≤ hh) (hN : fa_NX ≤ N) (hT : fa_TX ≤ T) (o : Nat) (a1 : Nat) (a2 : Nat) (ho : (fa_sh o).1 = 2) (ha1 : (fa_sh a1).1 = 4) (ha2 : (fa_sh a2).1 = 1) {r : fa_W} (k30 : Int → fa_W → Option fa_W) (K30 : ∀ (x3 : Int) (w : fa_W), k30 x3 w = some r → fa_GJ p l e (fa_rm hh) s m args below meth c 0 0 (MQ below (fa_Qc D b aC H0 N T (none) r) args s 0 0 (fun q => b ≤ q)) D b aC H0 N T 6 w 30 [(0, .ref (b + o)), (1, .ref (b + a1)), (2, .ref (b + a2)), (3, .int (fa_I x3))] []) : ∀ (n : Nat) (x3 : Int) (x4 : Int) (x5 : Int) (w : fa_W), fm_Groups_mateBySites_l56 o a1 a2 k30 n x3 x4 x5 w = some r → fa_GJ p l e (fa_rm hh) s m args below meth c 0 0 (MQ below (fa_Qc D b aC H0 N T (none) r) args s 0 0 (fun q => b ≤ q)) D b aC H0 N T 6 w 56 [(0, .ref (b + o)), (1, .ref (b + a1)), (2, .ref (b + a2)), (3, .int (fa_I x3)), (4, .int (fa_I x4)), (5, .int (fa_I x5))] [] := by
  intro n
  induction n with
  | zero => intro x3 x4 x5 w hM; exact fa_no hM
  | succ n ih =>
    intro x3 x4 x5 w hM
    rw [fm_Groups_mateBySites_l56] at hM
    refine g_iload X 5 rfl d_Groups_mateBySites_56 ?_
    refine g_aload_n X 1 rfl d_Groups_mateBySites_58 ?_
    refine g_getN X ck_4 ha1 (fa_xn ha1 (by decide) hN) 14 (by decide) wd_97 rfl (fa_fvI rfl) d_Groups_mateBySites_59 ?_
    refine g_icmp_ge X 95 d_Groups_mateBySites_62 (by decide) (fun hc6 => ?_) (fun hc6 => ?_)
    · have hM := fa_if_t hM hc6
      refine g_iconst X d_Groups_mateBySites_95 ?_
      refine g_istorec X [(5, .int (fa_I 0)), (0, .ref (b + o)), (1, .ref (b + a1)), (2, .ref (b + a2)), (3, .int (fa_I x3)), (4, .int (fa_I x4))] d_Groups_mateBySites_96 (by decide) rfl ?_
      exact g_lv [1, 2, 3, 4, 5, 0] rfl (c_Groups_mateBySites_l98 X hle hN hT o a1 a2 ho ha1 ha2  k30 K30 fa_FU _ _ _ _ hM)
    · have hM := fa_if_f hM hc6
      refine g_iload X 4 rfl d_Groups_mateBySites_65 ?_
      refine g_iload X 5 rfl d_Groups_mateBySites_67 ?_
      refine g_callSN_i X mi_Face_hasBit (c_Face_hasBit hN hT x4 x5 w _ rfl) wd_598 rfl (Nat.le_trans (Nat.le_of_ble_eq_true rfl) hle) (st := []) (Nat.le_of_ble_eq_true rfl) rfl d_Groups_mateBySites_69 ?_
      refine g_ifb_eq X 89 d_Groups_mateBySites_72 (by decide) (fun hc16 => ?_) (fun hc16 => ?_)
      · have hM := fa_ifb_f hM hc16
        refine g_iinc X 5 (fun x5_17 => [(5, .int (fa_I x5_17)), (0, .ref (b + o)), (1, .ref (b + a1)), (2, .ref (b + a2)), (3, .int (fa_I x3)), (4, .int (fa_I x4))]) d_Groups_mateBySites_89 rfl (by decide) (fun _ => rfl) (fun x5_17 ex5_17 => ?_)
        have hM := fa_let_to hM ex5_17
        refine g_goto X 56 d_Groups_mateBySites_92 (by decide) ?_
        exact g_lv [1, 2, 3, 4, 5, 0] rfl (ih _ _ _ _ hM)
      · have hM := fa_ifb_t hM hc16
        refine g_iload X 4 rfl d_Groups_mateBySites_75 ?_
        refine g_aload_n X 0 rfl d_Groups_mateBySites_77 ?_
        refine g_get X ck_2 ho (fa_xn ho (by decide) hN) 2 (by decide) wd_376 rfl (fa_fvR rfl (fa_xt ho (by decide) hT 2)) d_Groups_mateBySites_78 ?_
        refine g_iload X 5 rfl d_Groups_mateBySites_81 ?_
        refine g_callV_i X ck_6 (fa_r2_2 _ ho) (fa_xn (fa_r2_2 _ ho) (by decide) hN) rfl mi_Row_bits (ct_Row_bits (fa_rf o 2) x5 (fa_ro (fa_r2_2 _ ho) hN hT) w _ rfl) wd_599 rfl (Nat.le_trans (Nat.le_of_ble_eq_true rfl) hle) (st := [.int (fa_I x4)]) (Nat.le_of_ble_eq_true rfl) rfl d_Groups_mateBySites_83 ?_
        refine g_ior X d_Groups_mateBySites_86 ?_
        refine g_istore X (fun x4_19 => [(4, .int (fa_I x4_19)), (0, .ref (b + o)), (1, .ref (b + a1)), (2, .ref (b + a2)), (3, .int (fa_I x3)), (5, .int (fa_I x5))]) d_Groups_mateBySites_87 (by decide) (fun _ => rfl) (fun x4_19 ex4_19 => ?_)
        have hM := fa_let_to hM ex4_19
        refine g_iinc X 5 (fun x5_20 => [(5, .int (fa_I x5_20)), (4, .int (fa_I x4_19)), (0, .ref (b + o)), (1, .ref (b + a1)), (2, .ref (b + a2)), (3, .int (fa_I x3))]) d_Groups_mateBySites_89 rfl (by decide) (fun _ => rfl) (fun x5_20 ex5_20 => ?_)
        have hM := fa_let_to hM ex5_20
        refine g_goto X 56 d_Groups_mateBySites_92 (by decide) ?_
        exact g_lv [2, 3, 4, 5, 1, 0] rfl (ih _ _ _ _ hM)
def fm_Groups_mateBySites_l30 (o : Nat) (a1 : Nat) (a2 : Nat) : Nat → Int → fa_W → Option fa_W
  | 0, _, _ => none
  | n + 1, x3, w => if fa_wr (w a1 15) ≤ fa_wr x3 then
  some w
  else
  (fa_let (fm_Flow_applied a2 a1 (fr_at (fa_rf a1 5) x3 w) w) fun x4_5 =>
  fm_Groups_mateBySites_l56 o a1 a2 (fun x3 w9 => fm_Groups_mateBySites_l30 o a1 a2 n x3 w9) fa_FU x3 x4_5 0 w)
set_option maxHeartbeats 4000000 in
set_option maxRecDepth 100000 in
theorem c_Groups_mateBySites_l30 {p : Program} {l : Launch} {e : Env} {s : State} {m : MethodId} {args : Array Value} {below : List Frame} {meth : Method} {c : Code} {hh : Nat} {D : va_G} {b : Nat} {aC : Nat → ClassId} {H0 : Heap} {N T : Nat} (X : fa_GX p s m args meth c prog_3_method_4_code 6 ((Option.none : Option Jvm.ClassFile.FieldType)) y_Groups_mateBySites.cls D b aC) (hle : 3 ≤ hh) (hN : fa_NX ≤ N) (hT : fa_TX ≤ T) (o : Nat) (a1 : Nat) (a2 : Nat) (ho : (fa_sh o).1 = 2) (ha1 : (fa_sh a1).1 = 4) (ha2 : (fa_sh a2).1 = 1) {r : fa_W}  : ∀ (n : Nat) (x3 : Int) (w : fa_W), fm_Groups_mateBySites_l30 o a1 a2 n x3 w = some r → fa_GJ p l e (fa_rm hh) s m args below meth c 0 0 (MQ below (fa_Qc D b aC H0 N T (none) r) args s 0 0 (fun q => b ≤ q)) D b aC H0 N T 6 w 30 [(0, .ref (b + o)), (1, .ref (b + a1)), (2, .ref (b + a2)), (3, .int (fa_I x3))] [] := by
  intro n
  induction n with
  | zero => intro x3 w hM; exact fa_no hM
  | succ n ih =>
    intro x3 w hM
    rw [fm_Groups_mateBySites_l30] at hM
    refine g_iload_n X 3 rfl d_Groups_mateBySites_30 ?_
    refine g_aload_n X 1 rfl d_Groups_mateBySites_31 ?_
    refine g_getN X ck_4 ha1 (fa_xn ha1 (by decide) hN) 15 (by decide) wd_103 rfl (fa_fvI rfl) d_Groups_mateBySites_32 ?_
    refine g_icmp_ge X 140 d_Groups_mateBySites_35 (by decide) (fun hc2 => ?_) (fun hc2 => ?_)
    · have hM := fa_if_t hM hc2
      cases hM
      exact g_vret X d_Groups_mateBySites_140
    · have hM := fa_if_f hM hc2
      refine g_aload_n X 2 rfl d_Groups_mateBySites_38 ?_
      refine g_aload_n X 1 rfl d_Groups_mateBySites_39 ?_
      refine g_aload_n X 1 rfl d_Groups_mateBySites_40 ?_
      refine g_getN X ck_4 ha1 (fa_xn ha1 (by decide) hN) 5 (by decide) wd_71 rfl (fa_fvR rfl (fa_xt ha1 (by decide) hT 5)) d_Groups_mateBySites_41 ?_
      refine g_iload_n X 3 rfl d_Groups_mateBySites_44 ?_
      refine g_callV_i X ck_6 (fa_r4_5 _ ha1) (fa_xn (fa_r4_5 _ ha1) (by decide) hN) rfl mi_Row_at (ct_Row_at (fa_rf a1 5) x3 (fa_ro (fa_r4_5 _ ha1) hN hT) w _ rfl) wd_625 rfl (Nat.le_trans (Nat.le_of_ble_eq_true rfl) hle) (st := [.ref (b + a1), .ref (b + a2)]) (Nat.le_of_ble_eq_true rfl) rfl d_Groups_mateBySites_45 ?_
      refine g_callV_i X ck_1 ha2 (fa_xn ha2 (by decide) hN) rfl mi_Flow_applied (c_Flow_applied hN hT a2 a1 (fr_at (fa_rf a1 5) x3 w) ha2 ha1 w _ rfl) wd_626 rfl (Nat.le_trans (Nat.le_of_ble_eq_true rfl) hle) (st := []) (Nat.le_of_ble_eq_true rfl) rfl d_Groups_mateBySites_48 ?_
      refine g_istore X (fun x4_5 => [(4, .int (fa_I x4_5)), (0, .ref (b + o)), (1, .ref (b + a1)), (2, .ref (b + a2)), (3, .int (fa_I x3))]) d_Groups_mateBySites_51 (by decide) (fun _ => rfl) (fun x4_5 ex4_5 => ?_)
      have hM := fa_let_to hM ex4_5
      refine g_iconst X d_Groups_mateBySites_53 ?_
      refine g_istorec X [(5, .int (fa_I 0)), (4, .int (fa_I x4_5)), (0, .ref (b + o)), (1, .ref (b + a1)), (2, .ref (b + a2)), (3, .int (fa_I x3))] d_Groups_mateBySites_54 (by decide) rfl ?_
      exact g_lv [2, 3, 4, 5, 1, 0] rfl (c_Groups_mateBySites_l56 X hle hN hT o a1 a2 ho ha1 ha2  (fun x3 w9 => fm_Groups_mateBySites_l30 o a1 a2 n x3 w9) (fun _ _ h => ih _ _ h) fa_FU _ _ _ _ hM)
def fm_Groups_mateBySites_l2 (o : Nat) (a1 : Nat) (a2 : Nat) : Nat → Int → fa_W → Option fa_W
  | 0, _, _ => none
  | n + 1, x3, w => if fa_wr (w a1 14) ≤ fa_wr x3 then
  fm_Groups_mateBySites_l30 o a1 a2 fa_FU 0 w
  else
  (fa_let (fr_set (fa_rf o 2) x3 (fm_Face_bit x3 w) w) fun w23 =>
  fa_let (x3 + 1) fun x3_24 =>
  fm_Groups_mateBySites_l2 o a1 a2 n x3_24 w23)
set_option maxHeartbeats 4000000 in
set_option maxRecDepth 100000 in
theorem c_Groups_mateBySites_l2 {p : Program} {l : Launch} {e : Env} {s : State} {m : MethodId} {args : Array Value} {below : List Frame} {meth : Method} {c : Code} {hh : Nat} {D : va_G} {b : Nat} {aC : Nat → ClassId} {H0 : Heap} {N T : Nat} (X : fa_GX p s m args meth c prog_3_method_4_code 6 ((Option.none : Option Jvm.ClassFile.FieldType)) y_Groups_mateBySites.cls D b aC) (hle : 3 ≤ hh) (hN : fa_NX ≤ N) (hT : fa_TX ≤ T) (o : Nat) (a1 : Nat) (a2 : Nat) (ho : (fa_sh o).1 = 2) (ha1 : (fa_sh a1).1 = 4) (ha2 : (fa_sh a2).1 = 1) {r : fa_W}  : ∀ (n : Nat) (x3 : Int) (w : fa_W), fm_Groups_mateBySites_l2 o a1 a2 n x3 w = some r → fa_GJ p l e (fa_rm hh) s m args below meth c 0 0 (MQ below (fa_Qc D b aC H0 N T (none) r) args s 0 0 (fun q => b ≤ q)) D b aC H0 N T 6 w 2 [(0, .ref (b + o)), (1, .ref (b + a1)), (2, .ref (b + a2)), (3, .int (fa_I x3))] [] := by
  intro n
  induction n with
  | zero => intro x3 w hM; exact fa_no hM
  | succ n ih =>
    intro x3 w hM
    rw [fm_Groups_mateBySites_l2] at hM
    refine g_iload_n X 3 rfl d_Groups_mateBySites_2 ?_
    refine g_aload_n X 1 rfl d_Groups_mateBySites_3 ?_
    refine g_getN X ck_4 ha1 (fa_xn ha1 (by decide) hN) 14 (by decide) wd_97 rfl (fa_fvI rfl) d_Groups_mateBySites_4 ?_
    refine g_icmp_ge X 28 d_Groups_mateBySites_7 (by decide) (fun hc1 => ?_) (fun hc1 => ?_)
    · have hM := fa_if_t hM hc1
      refine g_iconst X d_Groups_mateBySites_28 ?_
      refine g_istorec_n X [(3, .int (fa_I 0)), (0, .ref (b + o)), (1, .ref (b + a1)), (2, .ref (b + a2))] d_Groups_mateBySites_29 (by decide) rfl ?_
      exact g_lv [1, 2, 3, 0] rfl (c_Groups_mateBySites_l30 X hle hN hT o a1 a2 ho ha1 ha2   fa_FU _ _ hM)
    · have hM := fa_if_f hM hc1
      refine g_aload_n X 0 rfl d_Groups_mateBySites_10 ?_
      refine g_get X ck_2 ho (fa_xn ho (by decide) hN) 2 (by decide) wd_376 rfl (fa_fvR rfl (fa_xt ho (by decide) hT 2)) d_Groups_mateBySites_11 ?_
      refine g_iload_n X 3 rfl d_Groups_mateBySites_14 ?_
      refine g_iload_n X 3 rfl d_Groups_mateBySites_15 ?_
      refine g_callSN_i X mi_Face_bit (c_Face_bit hN hT x3 w _ rfl) wd_620 rfl (Nat.le_trans (Nat.le_of_ble_eq_true rfl) hle) (st := [.int (fa_I x3), .ref (b + (fa_rf o 2))]) (Nat.le_of_ble_eq_true rfl) rfl d_Groups_mateBySites_16 ?_
      obtain ⟨w23, e22⟩ : ∃ q, fr_set (fa_rf o 2) x3 (fm_Face_bit x3 w) w = q := ⟨_, rfl⟩
      have hM := fa_let_to hM e22.symm
      refine g_callV_v X ck_6 (fa_r2_2 _ ho) (fa_xn (fa_r2_2 _ ho) (by decide) hN) rfl mi_Row_set (ct_Row_set (fa_rf o 2) x3 (fm_Face_bit x3 w) (fa_ro (fa_r2_2 _ ho) hN hT) w _ e22) wd_611 rfl (Nat.le_trans (Nat.le_of_ble_eq_true rfl) hle) (st := []) (Nat.le_of_ble_eq_true rfl) rfl d_Groups_mateBySites_19 ?_
      refine g_iinc X 3 (fun x3_24 => [(3, .int (fa_I x3_24)), (0, .ref (b + o)), (1, .ref (b + a1)), (2, .ref (b + a2))]) d_Groups_mateBySites_22 rfl (by decide) (fun _ => rfl) (fun x3_24 ex3_24 => ?_)
      have hM := fa_let_to hM ex3_24
      refine g_goto X 2 d_Groups_mateBySites_25 (by decide) ?_
      exact g_lv [1, 2, 3, 0] rfl (ih _ _ hM)
def fm_Groups_mateBySites (o : Nat) (a1 : Nat) (a2 : Nat) (w : fa_W) : Option fa_W :=
  fm_Groups_mateBySites_l2 o a1 a2 fa_FU 0 w
set_option maxHeartbeats 4000000 in
set_option maxRecDepth 100000 in
theorem c_Groups_mateBySites {l : Launch} {D : va_G} {b : Nat} {aC : Nat → ClassId} {H0 : Heap} {N T : Nat} (hN : fa_NX ≤ N) (hT : fa_TX ≤ T) (o : Nat) (a1 : Nat) (a2 : Nat) (ho : (fa_sh o).1 = 2) (ha1 : (fa_sh a1).1 = 4) (ha2 : (fa_sh a2).1 = 1)  (w : fa_W) (r : fa_W) (hM : fm_Groups_mateBySites o a1 a2 w = some r) : fa_MC l D b aC H0 N T y_Groups_mateBySites prog_3_method_4_code 6 ((Option.none : Option Jvm.ClassFile.FieldType)) (3) [.ref (b + o), .ref (b + a1), .ref (b + a2)] w (none) r := by
  refine fa_enter (lv := [(0, .ref (b + o)), (1, .ref (b + a1)), (2, .ref (b + a2))]) (by decide +kernel) (Nat.le_of_ble_eq_true rfl) rfl (fun hh hle hnm X => ?_)
  unfold fm_Groups_mateBySites at hM
  refine g_iconst X d_Groups_mateBySites_0 ?_
  refine g_istorec_n X [(3, .int (fa_I 0)), (0, .ref (b + o)), (1, .ref (b + a1)), (2, .ref (b + a2))] d_Groups_mateBySites_1 (by decide) rfl ?_
  exact g_lv [1, 2, 3, 0] rfl (c_Groups_mateBySites_l2 X hle hN hT o a1 a2 ho ha1 ha2   fa_FU _ _ hM)
theorem d_Groups_sort_0 : decode prog_3_method_2_code 0 = .ok (.aload_n 0, 1) := by decide +kernel
theorem d_Groups_sort_1 : decode prog_3_method_2_code 1 = .ok (.getfield 14, 3) := by decide +kernel
theorem d_Groups_sort_4 : decode prog_3_method_2_code 4 = .ok (.bipush 72, 2) := by decide +kernel
theorem d_Groups_sort_6 : decode prog_3_method_2_code 6 = .ok (.iconst 0, 1) := by decide +kernel
theorem d_Groups_sort_7 : decode prog_3_method_2_code 7 = .ok (.invokevirtual 26, 3) := by decide +kernel
theorem d_Groups_sort_10 : decode prog_3_method_2_code 10 = .ok (.aload_n 0, 1) := by decide +kernel
theorem d_Groups_sort_11 : decode prog_3_method_2_code 11 = .ok (.getfield 20, 3) := by decide +kernel
theorem d_Groups_sort_14 : decode prog_3_method_2_code 14 = .ok (.iconst 3, 1) := by decide +kernel
theorem d_Groups_sort_15 : decode prog_3_method_2_code 15 = .ok (.iconst 0, 1) := by decide +kernel
theorem d_Groups_sort_16 : decode prog_3_method_2_code 16 = .ok (.invokevirtual 26, 3) := by decide +kernel
theorem d_Groups_sort_19 : decode prog_3_method_2_code 19 = .ok (.aload_n 0, 1) := by decide +kernel
theorem d_Groups_sort_20 : decode prog_3_method_2_code 20 = .ok (.getfield 23, 3) := by decide +kernel
theorem d_Groups_sort_23 : decode prog_3_method_2_code 23 = .ok (.aload_n 1, 1) := by decide +kernel
theorem d_Groups_sort_24 : decode prog_3_method_2_code 24 = .ok (.getfield 30, 3) := by decide +kernel
theorem d_Groups_sort_27 : decode prog_3_method_2_code 27 = .ok (.aload_n 3, 1) := by decide +kernel
theorem d_Groups_sort_28 : decode prog_3_method_2_code 28 = .ok (.getfield 36, 3) := by decide +kernel
theorem d_Groups_sort_31 : decode prog_3_method_2_code 31 = .ok (.invokevirtual 26, 3) := by decide +kernel
theorem d_Groups_sort_34 : decode prog_3_method_2_code 34 = .ok (.aload_n 0, 1) := by decide +kernel
theorem d_Groups_sort_35 : decode prog_3_method_2_code 35 = .ok (.iconst 0, 1) := by decide +kernel
theorem d_Groups_sort_36 : decode prog_3_method_2_code 36 = .ok (.aload_n 3, 1) := by decide +kernel
theorem d_Groups_sort_37 : decode prog_3_method_2_code 37 = .ok (.getfield 36, 3) := by decide +kernel
theorem d_Groups_sort_40 : decode prog_3_method_2_code 40 = .ok (.invokevirtual 41, 3) := by decide +kernel
theorem d_Groups_sort_43 : decode prog_3_method_2_code 43 = .ok (.aload_n 0, 1) := by decide +kernel
theorem d_Groups_sort_44 : decode prog_3_method_2_code 44 = .ok (.aload_n 1, 1) := by decide +kernel
theorem d_Groups_sort_45 : decode prog_3_method_2_code 45 = .ok (.aload_n 2, 1) := by decide +kernel
theorem d_Groups_sort_46 : decode prog_3_method_2_code 46 = .ok (.aload_n 3, 1) := by decide +kernel
theorem d_Groups_sort_47 : decode prog_3_method_2_code 47 = .ok (.getfield 36, 3) := by decide +kernel
theorem d_Groups_sort_50 : decode prog_3_method_2_code 50 = .ok (.invokevirtual 44, 3) := by decide +kernel
theorem d_Groups_sort_53 : decode prog_3_method_2_code 53 = .ok (.aload_n 0, 1) := by decide +kernel
theorem d_Groups_sort_54 : decode prog_3_method_2_code 54 = .ok (.iconst 1, 1) := by decide +kernel
theorem d_Groups_sort_55 : decode prog_3_method_2_code 55 = .ok (.aload_n 3, 1) := by decide +kernel
theorem d_Groups_sort_56 : decode prog_3_method_2_code 56 = .ok (.getfield 36, 3) := by decide +kernel
theorem d_Groups_sort_59 : decode prog_3_method_2_code 59 = .ok (.invokevirtual 41, 3) := by decide +kernel
theorem d_Groups_sort_62 : decode prog_3_method_2_code 62 = .ok (.aload_n 0, 1) := by decide +kernel
theorem d_Groups_sort_63 : decode prog_3_method_2_code 63 = .ok (.aload_n 1, 1) := by decide +kernel
theorem d_Groups_sort_64 : decode prog_3_method_2_code 64 = .ok (.aload_n 3, 1) := by decide +kernel
theorem d_Groups_sort_65 : decode prog_3_method_2_code 65 = .ok (.invokevirtual 48, 3) := by decide +kernel
theorem d_Groups_sort_68 : decode prog_3_method_2_code 68 = .ok (.aload_n 0, 1) := by decide +kernel
theorem d_Groups_sort_69 : decode prog_3_method_2_code 69 = .ok (.iconst 2, 1) := by decide +kernel
theorem d_Groups_sort_70 : decode prog_3_method_2_code 70 = .ok (.aload_n 3, 1) := by decide +kernel
theorem d_Groups_sort_71 : decode prog_3_method_2_code 71 = .ok (.getfield 36, 3) := by decide +kernel
theorem d_Groups_sort_74 : decode prog_3_method_2_code 74 = .ok (.invokevirtual 41, 3) := by decide +kernel
theorem d_Groups_sort_77 : decode prog_3_method_2_code 77 = .ok (.return_, 1) := by decide +kernel
def fm_Groups_sort (o : Nat) (a1 : Nat) (a2 : Nat) (a3 : Nat) (w : fa_W) : Option fa_W :=
  fa_let (fr_refill (fa_rf o 0) 72 0 w) fun w2 =>
  fa_let (fr_refill (fa_rf o 1) 3 0 w2) fun w4 =>
  fa_let (fr_refill (fa_rf o 2) (w4 a1 14) (w4 a3 5) w4) fun w6 =>
  (fm_Groups_number o 0 (w6 a3 5) w6).bind fun w8 =>
  (fm_Groups_mateByType o a1 a2 (w8 a3 5) w8).bind fun w10 =>
  (fm_Groups_number o 1 (w10 a3 5) w10).bind fun w12 =>
  (fm_Groups_mateBySites o a1 a3 w12).bind fun w14 =>
  (fm_Groups_number o 2 (w14 a3 5) w14).bind fun w16 =>
  some w16
set_option maxHeartbeats 4000000 in
set_option maxRecDepth 100000 in
theorem c_Groups_sort {l : Launch} {D : va_G} {b : Nat} {aC : Nat → ClassId} {H0 : Heap} {N T : Nat} (hN : fa_NX ≤ N) (hT : fa_TX ≤ T) (o : Nat) (a1 : Nat) (a2 : Nat) (a3 : Nat) (ho : (fa_sh o).1 = 2) (ha1 : (fa_sh a1).1 = 4) (ha2 : (fa_sh a2).1 = 8) (ha3 : (fa_sh a3).1 = 1)  (w : fa_W) (r : fa_W) (hM : fm_Groups_sort o a1 a2 a3 w = some r) : fa_MC l D b aC H0 N T y_Groups_sort prog_3_method_2_code 4 ((Option.none : Option Jvm.ClassFile.FieldType)) (4) [.ref (b + o), .ref (b + a1), .ref (b + a2), .ref (b + a3)] w (none) r := by
  refine fa_enter (lv := [(0, .ref (b + o)), (1, .ref (b + a1)), (2, .ref (b + a2)), (3, .ref (b + a3))]) (by decide +kernel) (Nat.le_of_ble_eq_true rfl) rfl (fun hh hle hnm X => ?_)
  unfold fm_Groups_sort at hM
  refine g_aload_n X 0 rfl d_Groups_sort_0 ?_
  refine g_get X ck_2 ho (fa_xn ho (by decide) hN) 0 (by decide) wd_374 rfl (fa_fvR rfl (fa_xt ho (by decide) hT 0)) d_Groups_sort_1 ?_
  refine g_bipush X (by decide) d_Groups_sort_4 ?_
  refine g_iconst X d_Groups_sort_6 ?_
  obtain ⟨w2, e1⟩ : ∃ q, fr_refill (fa_rf o 0) 72 0 w = q := ⟨_, rfl⟩
  have hM := fa_let_to hM e1.symm
  refine g_callV_v X ck_6 (fa_r2_0 _ ho) (fa_xn (fa_r2_0 _ ho) (by decide) hN) rfl mi_Row_refill (ct_Row_refill (fa_rf o 0) 72 0 (fa_ro (fa_r2_0 _ ho) hN hT) w _ e1) wd_592 rfl (Nat.le_trans (Nat.le_of_ble_eq_true rfl) hle) (st := []) (Nat.le_of_ble_eq_true rfl) rfl d_Groups_sort_7 ?_
  refine g_aload_n X 0 rfl d_Groups_sort_10 ?_
  refine g_get X ck_2 ho (fa_xn ho (by decide) hN) 1 (by decide) wd_375 rfl (fa_fvR rfl (fa_xt ho (by decide) hT 1)) d_Groups_sort_11 ?_
  refine g_iconst X d_Groups_sort_14 ?_
  refine g_iconst X d_Groups_sort_15 ?_
  obtain ⟨w4, e3⟩ : ∃ q, fr_refill (fa_rf o 1) 3 0 w2 = q := ⟨_, rfl⟩
  have hM := fa_let_to hM e3.symm
  refine g_callV_v X ck_6 (fa_r2_1 _ ho) (fa_xn (fa_r2_1 _ ho) (by decide) hN) rfl mi_Row_refill (ct_Row_refill (fa_rf o 1) 3 0 (fa_ro (fa_r2_1 _ ho) hN hT) w2 _ e3) wd_592 rfl (Nat.le_trans (Nat.le_of_ble_eq_true rfl) hle) (st := []) (Nat.le_of_ble_eq_true rfl) rfl d_Groups_sort_16 ?_
  refine g_aload_n X 0 rfl d_Groups_sort_19 ?_
  refine g_get X ck_2 ho (fa_xn ho (by decide) hN) 2 (by decide) wd_376 rfl (fa_fvR rfl (fa_xt ho (by decide) hT 2)) d_Groups_sort_20 ?_
  refine g_aload_n X 1 rfl d_Groups_sort_23 ?_
  refine g_getN X ck_4 ha1 (fa_xn ha1 (by decide) hN) 14 (by decide) wd_97 rfl (fa_fvI rfl) d_Groups_sort_24 ?_
  refine g_aload_n X 3 rfl d_Groups_sort_27 ?_
  refine g_getN X ck_1 ha3 (fa_xn ha3 (by decide) hN) 5 (by decide) wd_342 rfl (fa_fvI rfl) d_Groups_sort_28 ?_
  obtain ⟨w6, e5⟩ : ∃ q, fr_refill (fa_rf o 2) (w4 a1 14) (w4 a3 5) w4 = q := ⟨_, rfl⟩
  have hM := fa_let_to hM e5.symm
  refine g_callV_v X ck_6 (fa_r2_2 _ ho) (fa_xn (fa_r2_2 _ ho) (by decide) hN) rfl mi_Row_refill (ct_Row_refill (fa_rf o 2) (w4 a1 14) (w4 a3 5) (fa_ro (fa_r2_2 _ ho) hN hT) w4 _ e5) wd_592 rfl (Nat.le_trans (Nat.le_of_ble_eq_true rfl) hle) (st := []) (Nat.le_of_ble_eq_true rfl) rfl d_Groups_sort_31 ?_
  refine g_aload_n X 0 rfl d_Groups_sort_34 ?_
  refine g_iconst X d_Groups_sort_35 ?_
  refine g_aload_n X 3 rfl d_Groups_sort_36 ?_
  refine g_getN X ck_1 ha3 (fa_xn ha3 (by decide) hN) 5 (by decide) wd_342 rfl (fa_fvI rfl) d_Groups_sort_37 ?_
  obtain ⟨w8, e7, hM⟩ := fa_ob hM
  refine g_callV_v X ck_2 ho (fa_xn ho (by decide) hN) rfl mi_Groups_number (c_Groups_number hN hT o 0 (w6 a3 5) ho w6 _ e7) wd_593 rfl (Nat.le_trans (Nat.le_of_ble_eq_true rfl) hle) (st := []) (Nat.le_of_ble_eq_true rfl) rfl d_Groups_sort_40 ?_
  refine g_aload_n X 0 rfl d_Groups_sort_43 ?_
  refine g_aload_n X 1 rfl d_Groups_sort_44 ?_
  refine g_aload_n X 2 rfl d_Groups_sort_45 ?_
  refine g_aload_n X 3 rfl d_Groups_sort_46 ?_
  refine g_getN X ck_1 ha3 (fa_xn ha3 (by decide) hN) 5 (by decide) wd_342 rfl (fa_fvI rfl) d_Groups_sort_47 ?_
  obtain ⟨w10, e9, hM⟩ := fa_ob hM
  refine g_callV_v X ck_2 ho (fa_xn ho (by decide) hN) rfl mi_Groups_mateByType (c_Groups_mateByType hN hT o a1 a2 (w8 a3 5) ho ha1 ha2 w8 _ e9) wd_612 rfl (Nat.le_trans (Nat.le_of_ble_eq_true rfl) hle) (st := []) (Nat.le_of_ble_eq_true rfl) rfl d_Groups_sort_50 ?_
  refine g_aload_n X 0 rfl d_Groups_sort_53 ?_
  refine g_iconst X d_Groups_sort_54 ?_
  refine g_aload_n X 3 rfl d_Groups_sort_55 ?_
  refine g_getN X ck_1 ha3 (fa_xn ha3 (by decide) hN) 5 (by decide) wd_342 rfl (fa_fvI rfl) d_Groups_sort_56 ?_
  obtain ⟨w12, e11, hM⟩ := fa_ob hM
  refine g_callV_v X ck_2 ho (fa_xn ho (by decide) hN) rfl mi_Groups_number (c_Groups_number hN hT o 1 (w10 a3 5) ho w10 _ e11) wd_593 rfl (Nat.le_trans (Nat.le_of_ble_eq_true rfl) hle) (st := []) (Nat.le_of_ble_eq_true rfl) rfl d_Groups_sort_59 ?_
  refine g_aload_n X 0 rfl d_Groups_sort_62 ?_
  refine g_aload_n X 1 rfl d_Groups_sort_63 ?_
  refine g_aload_n X 3 rfl d_Groups_sort_64 ?_
  obtain ⟨w14, e13, hM⟩ := fa_ob hM
  refine g_callV_v X ck_2 ho (fa_xn ho (by decide) hN) rfl mi_Groups_mateBySites (c_Groups_mateBySites hN hT o a1 a3 ho ha1 ha3 w12 _ e13) wd_621 rfl (Nat.le_trans (Nat.le_of_ble_eq_true rfl) hle) (st := []) (Nat.le_of_ble_eq_true rfl) rfl d_Groups_sort_65 ?_
  refine g_aload_n X 0 rfl d_Groups_sort_68 ?_
  refine g_iconst X d_Groups_sort_69 ?_
  refine g_aload_n X 3 rfl d_Groups_sort_70 ?_
  refine g_getN X ck_1 ha3 (fa_xn ha3 (by decide) hN) 5 (by decide) wd_342 rfl (fa_fvI rfl) d_Groups_sort_71 ?_
  obtain ⟨w16, e15, hM⟩ := fa_ob hM
  refine g_callV_v X ck_2 ho (fa_xn ho (by decide) hN) rfl mi_Groups_number (c_Groups_number hN hT o 2 (w14 a3 5) ho w14 _ e15) wd_593 rfl (Nat.le_trans (Nat.le_of_ble_eq_true rfl) hle) (st := []) (Nat.le_of_ble_eq_true rfl) rfl d_Groups_sort_74 ?_
  cases hM
  exact g_vret X d_Groups_sort_77
theorem d_Groups_members_0 : decode prog_3_method_7_code 0 = .ok (.iload_n 2, 1) := by decide +kernel
theorem d_Groups_members_1 : decode prog_3_method_7_code 1 = .ok (.ifCond .lt 28, 3) := by decide +kernel
theorem d_Groups_members_4 : decode prog_3_method_7_code 4 = .ok (.iload_n 2, 1) := by decide +kernel
theorem d_Groups_members_5 : decode prog_3_method_7_code 5 = .ok (.aload_n 0, 1) := by decide +kernel
theorem d_Groups_members_6 : decode prog_3_method_7_code 6 = .ok (.iload_n 1, 1) := by decide +kernel
theorem d_Groups_members_7 : decode prog_3_method_7_code 7 = .ok (.invokevirtual 91, 3) := by decide +kernel
theorem d_Groups_members_10 : decode prog_3_method_7_code 10 = .ok (.if_icmp .ge 19, 3) := by decide +kernel
theorem d_Groups_members_13 : decode prog_3_method_7_code 13 = .ok (.aload_n 0, 1) := by decide +kernel
theorem d_Groups_members_14 : decode prog_3_method_7_code 14 = .ok (.getfield 14, 3) := by decide +kernel
theorem d_Groups_members_17 : decode prog_3_method_7_code 17 = .ok (.iload_n 1, 1) := by decide +kernel
theorem d_Groups_members_18 : decode prog_3_method_7_code 18 = .ok (.bipush 24, 2) := by decide +kernel
theorem d_Groups_members_20 : decode prog_3_method_7_code 20 = .ok (.imul, 1) := by decide +kernel
theorem d_Groups_members_21 : decode prog_3_method_7_code 21 = .ok (.iload_n 2, 1) := by decide +kernel
theorem d_Groups_members_22 : decode prog_3_method_7_code 22 = .ok (.iadd, 1) := by decide +kernel
theorem d_Groups_members_23 : decode prog_3_method_7_code 23 = .ok (.invokevirtual 81, 3) := by decide +kernel
theorem d_Groups_members_26 : decode prog_3_method_7_code 26 = .ok (.goto 4, 3) := by decide +kernel
theorem d_Groups_members_29 : decode prog_3_method_7_code 29 = .ok (.iconst 0, 1) := by decide +kernel
theorem d_Groups_members_30 : decode prog_3_method_7_code 30 = .ok (.ireturn, 1) := by decide +kernel
def fm_Groups_members (o : Nat) (a1 : Int) (a2 : Int) (w : fa_W) : Int :=
  if fa_wr a2 < 0 then
  0
  else
  (if fa_wr (fm_Groups_many o a1 w) ≤ fa_wr a2 then
  0
  else
  fr_bits (fa_rf o 0) ((a1 * 24) + a2) w)
set_option maxHeartbeats 4000000 in
set_option maxRecDepth 100000 in
theorem c_Groups_members {l : Launch} {D : va_G} {b : Nat} {aC : Nat → ClassId} {H0 : Heap} {N T : Nat} (hN : fa_NX ≤ N) (hT : fa_TX ≤ T) (o : Nat) (a1 : Int) (a2 : Int) (ho : (fa_sh o).1 = 2)  (w : fa_W) (r : Int) (hM : fm_Groups_members o a1 a2 w = r) : fa_MC l D b aC H0 N T y_Groups_members prog_3_method_7_code 3 ((Option.some Jvm.ClassFile.FieldType.int)) (2) [.ref (b + o), .int (fa_I a1), .int (fa_I a2)] w (some (.int (fa_I r))) w := by
  refine fa_enter (lv := [(0, .ref (b + o)), (1, .int (fa_I a1)), (2, .int (fa_I a2))]) (by decide +kernel) (Nat.le_of_ble_eq_true rfl) rfl (fun hh hle hnm X => ?_)
  unfold fm_Groups_members at hM
  refine g_iload_n X 2 rfl d_Groups_members_0 ?_
  refine g_if_lt X 29 d_Groups_members_1 (by decide) (fun hc1 => ?_) (fun hc1 => ?_)
  · have hM := fa_if_t hM hc1
    refine g_iconst X d_Groups_members_29 ?_
    subst hM
    exact g_iret X d_Groups_members_30
  · have hM := fa_if_f hM hc1
    refine g_iload_n X 2 rfl d_Groups_members_4 ?_
    refine g_aload_n X 0 rfl d_Groups_members_5 ?_
    refine g_iload_n X 1 rfl d_Groups_members_6 ?_
    refine g_callV_i X ck_2 ho (fa_xn ho (by decide) hN) rfl mi_Groups_many (c_Groups_many hN hT o a1 ho w _ rfl) wd_607 rfl (Nat.le_trans (Nat.le_of_ble_eq_true rfl) hle) (st := [.int (fa_I a2)]) (Nat.le_of_ble_eq_true rfl) rfl d_Groups_members_7 ?_
    refine g_icmp_ge X 29 d_Groups_members_10 (by decide) (fun hc3 => ?_) (fun hc3 => ?_)
    · have hM := fa_if_t hM hc3
      refine g_iconst X d_Groups_members_29 ?_
      subst hM
      exact g_iret X d_Groups_members_30
    · have hM := fa_if_f hM hc3
      refine g_aload_n X 0 rfl d_Groups_members_13 ?_
      refine g_get X ck_2 ho (fa_xn ho (by decide) hN) 0 (by decide) wd_374 rfl (fa_fvR rfl (fa_xt ho (by decide) hT 0)) d_Groups_members_14 ?_
      refine g_iload_n X 1 rfl d_Groups_members_17 ?_
      refine g_bipush X (by decide) d_Groups_members_18 ?_
      refine g_imul X d_Groups_members_20 ?_
      refine g_iload_n X 2 rfl d_Groups_members_21 ?_
      refine g_iadd X d_Groups_members_22 ?_
      refine g_callV_i X ck_6 (fa_r2_0 _ ho) (fa_xn (fa_r2_0 _ ho) (by decide) hN) rfl mi_Row_bits (ct_Row_bits (fa_rf o 0) ((a1 * 24) + a2) (fa_ro (fa_r2_0 _ ho) hN hT) w _ rfl) wd_599 rfl (Nat.le_trans (Nat.le_of_ble_eq_true rfl) hle) (st := []) (Nat.le_of_ble_eq_true rfl) rfl d_Groups_members_23 ?_
      refine g_goto X 30 d_Groups_members_26 (by decide) ?_
      subst hM
      exact g_iret X d_Groups_members_30
theorem d_Groups_groupOf_0 : decode prog_3_method_8_code 0 = .ok (.iconst 0, 1) := by decide +kernel
theorem d_Groups_groupOf_1 : decode prog_3_method_8_code 1 = .ok (.istore_n 3, 1) := by decide +kernel
theorem d_Groups_groupOf_2 : decode prog_3_method_8_code 2 = .ok (.iload_n 3, 1) := by decide +kernel
theorem d_Groups_groupOf_3 : decode prog_3_method_8_code 3 = .ok (.aload_n 0, 1) := by decide +kernel
theorem d_Groups_groupOf_4 : decode prog_3_method_8_code 4 = .ok (.getfield 20, 3) := by decide +kernel
theorem d_Groups_groupOf_7 : decode prog_3_method_8_code 7 = .ok (.iload_n 1, 1) := by decide +kernel
theorem d_Groups_groupOf_8 : decode prog_3_method_8_code 8 = .ok (.invokevirtual 81, 3) := by decide +kernel
theorem d_Groups_groupOf_11 : decode prog_3_method_8_code 11 = .ok (.if_icmp .ge 31, 3) := by decide +kernel
theorem d_Groups_groupOf_14 : decode prog_3_method_8_code 14 = .ok (.aload_n 0, 1) := by decide +kernel
theorem d_Groups_groupOf_15 : decode prog_3_method_8_code 15 = .ok (.getfield 14, 3) := by decide +kernel
theorem d_Groups_groupOf_18 : decode prog_3_method_8_code 18 = .ok (.iload_n 1, 1) := by decide +kernel
theorem d_Groups_groupOf_19 : decode prog_3_method_8_code 19 = .ok (.bipush 24, 2) := by decide +kernel
theorem d_Groups_groupOf_21 : decode prog_3_method_8_code 21 = .ok (.imul, 1) := by decide +kernel
theorem d_Groups_groupOf_22 : decode prog_3_method_8_code 22 = .ok (.iload_n 3, 1) := by decide +kernel
theorem d_Groups_groupOf_23 : decode prog_3_method_8_code 23 = .ok (.iadd, 1) := by decide +kernel
theorem d_Groups_groupOf_24 : decode prog_3_method_8_code 24 = .ok (.invokevirtual 81, 3) := by decide +kernel
theorem d_Groups_groupOf_27 : decode prog_3_method_8_code 27 = .ok (.iload_n 2, 1) := by decide +kernel
theorem d_Groups_groupOf_28 : decode prog_3_method_8_code 28 = .ok (.invokestatic 52, 3) := by decide +kernel
theorem d_Groups_groupOf_31 : decode prog_3_method_8_code 31 = .ok (.ifCond .eq 5, 3) := by decide +kernel
theorem d_Groups_groupOf_34 : decode prog_3_method_8_code 34 = .ok (.iload_n 3, 1) := by decide +kernel
theorem d_Groups_groupOf_35 : decode prog_3_method_8_code 35 = .ok (.ireturn, 1) := by decide +kernel
theorem d_Groups_groupOf_36 : decode prog_3_method_8_code 36 = .ok (.iinc 3 1, 3) := by decide +kernel
theorem d_Groups_groupOf_39 : decode prog_3_method_8_code 39 = .ok (.goto (-37), 3) := by decide +kernel
theorem d_Groups_groupOf_42 : decode prog_3_method_8_code 42 = .ok (.iconst (-1), 1) := by decide +kernel
theorem d_Groups_groupOf_43 : decode prog_3_method_8_code 43 = .ok (.ireturn, 1) := by decide +kernel
def fm_Groups_groupOf_l2 (o : Nat) (a1 : Int) (a2 : Int) (w : fa_W) : Nat → Int → Option Int
  | 0, _ => none
  | n + 1, x3 => if fa_wr (fr_bits (fa_rf o 1) a1 w) ≤ fa_wr x3 then
  some (-1)
  else
  (if fm_Face_hasBit (fr_bits (fa_rf o 0) ((a1 * 24) + x3) w) a2 w = true then
  some x3
  else
  (fa_let (x3 + 1) fun x3_6 =>
  fm_Groups_groupOf_l2 o a1 a2 w n x3_6))
set_option maxHeartbeats 4000000 in
set_option maxRecDepth 100000 in
theorem c_Groups_groupOf_l2 {p : Program} {l : Launch} {e : Env} {s : State} {m : MethodId} {args : Array Value} {below : List Frame} {meth : Method} {c : Code} {hh : Nat} {D : va_G} {b : Nat} {aC : Nat → ClassId} {H0 : Heap} {N T : Nat} (X : fa_GX p s m args meth c prog_3_method_8_code 4 ((Option.some Jvm.ClassFile.FieldType.int)) y_Groups_groupOf.cls D b aC) (hle : 1 ≤ hh) (hN : fa_NX ≤ N) (hT : fa_TX ≤ T) (o : Nat) (a1 : Int) (a2 : Int) (ho : (fa_sh o).1 = 2) {r : Int} (w : fa_W) : ∀ (n : Nat) (x3 : Int), fm_Groups_groupOf_l2 o a1 a2 w n x3 = some r → fa_GJ p l e (fa_rm hh) s m args below meth c 0 0 (MQ below (fa_Qc D b aC H0 N T (some (.int (fa_I r))) w) args s 0 0 (fun q => b ≤ q)) D b aC H0 N T 4 w 2 [(0, .ref (b + o)), (1, .int (fa_I a1)), (2, .int (fa_I a2)), (3, .int (fa_I x3))] [] := by
  intro n
  induction n with
  | zero => intro x3 hM; exact fa_no hM
  | succ n ih =>
    intro x3 hM
    rw [fm_Groups_groupOf_l2] at hM
    refine g_iload_n X 3 rfl d_Groups_groupOf_2 ?_
    refine g_aload_n X 0 rfl d_Groups_groupOf_3 ?_
    refine g_get X ck_2 ho (fa_xn ho (by decide) hN) 1 (by decide) wd_375 rfl (fa_fvR rfl (fa_xt ho (by decide) hT 1)) d_Groups_groupOf_4 ?_
    refine g_iload_n X 1 rfl d_Groups_groupOf_7 ?_
    refine g_callV_i X ck_6 (fa_r2_1 _ ho) (fa_xn (fa_r2_1 _ ho) (by decide) hN) rfl mi_Row_bits (ct_Row_bits (fa_rf o 1) a1 (fa_ro (fa_r2_1 _ ho) hN hT) w _ rfl) wd_599 rfl (Nat.le_trans (Nat.le_of_ble_eq_true rfl) hle) (st := [.int (fa_I x3)]) (Nat.le_of_ble_eq_true rfl) rfl d_Groups_groupOf_8 ?_
    refine g_icmp_ge X 42 d_Groups_groupOf_11 (by decide) (fun hc2 => ?_) (fun hc2 => ?_)
    · have hM := fa_if_t hM hc2
      refine g_iconst X d_Groups_groupOf_42 ?_
      cases hM
      exact g_iret X d_Groups_groupOf_43
    · have hM := fa_if_f hM hc2
      refine g_aload_n X 0 rfl d_Groups_groupOf_14 ?_
      refine g_get X ck_2 ho (fa_xn ho (by decide) hN) 0 (by decide) wd_374 rfl (fa_fvR rfl (fa_xt ho (by decide) hT 0)) d_Groups_groupOf_15 ?_
      refine g_iload_n X 1 rfl d_Groups_groupOf_18 ?_
      refine g_bipush X (by decide) d_Groups_groupOf_19 ?_
      refine g_imul X d_Groups_groupOf_21 ?_
      refine g_iload_n X 3 rfl d_Groups_groupOf_22 ?_
      refine g_iadd X d_Groups_groupOf_23 ?_
      refine g_callV_i X ck_6 (fa_r2_0 _ ho) (fa_xn (fa_r2_0 _ ho) (by decide) hN) rfl mi_Row_bits (ct_Row_bits (fa_rf o 0) ((a1 * 24) + x3) (fa_ro (fa_r2_0 _ ho) hN hT) w _ rfl) wd_599 rfl (Nat.le_trans (Nat.le_of_ble_eq_true rfl) hle) (st := []) (Nat.le_of_ble_eq_true rfl) rfl d_Groups_groupOf_24 ?_
      refine g_iload_n X 2 rfl d_Groups_groupOf_27 ?_
      refine g_callSN_i X mi_Face_hasBit (c_Face_hasBit hN hT (fr_bits (fa_rf o 0) ((a1 * 24) + x3) w) a2 w _ rfl) wd_598 rfl (Nat.le_trans (Nat.le_of_ble_eq_true rfl) hle) (st := []) (Nat.le_of_ble_eq_true rfl) rfl d_Groups_groupOf_28 ?_
      refine g_ifb_eq X 36 d_Groups_groupOf_31 (by decide) (fun hc5 => ?_) (fun hc5 => ?_)
      · have hM := fa_ifb_f hM hc5
        refine g_iinc X 3 (fun x3_6 => [(3, .int (fa_I x3_6)), (0, .ref (b + o)), (1, .int (fa_I a1)), (2, .int (fa_I a2))]) d_Groups_groupOf_36 rfl (by decide) (fun _ => rfl) (fun x3_6 ex3_6 => ?_)
        have hM := fa_let_to hM ex3_6
        refine g_goto X 2 d_Groups_groupOf_39 (by decide) ?_
        exact g_lv [1, 2, 3, 0] rfl (ih _ hM)
      · have hM := fa_ifb_t hM hc5
        refine g_iload_n X 3 rfl d_Groups_groupOf_34 ?_
        cases hM
        exact g_iret X d_Groups_groupOf_35
def fm_Groups_groupOf (o : Nat) (a1 : Int) (a2 : Int) (w : fa_W) : Option Int :=
  fm_Groups_groupOf_l2 o a1 a2 w fa_FU 0
set_option maxHeartbeats 4000000 in
set_option maxRecDepth 100000 in
theorem c_Groups_groupOf {l : Launch} {D : va_G} {b : Nat} {aC : Nat → ClassId} {H0 : Heap} {N T : Nat} (hN : fa_NX ≤ N) (hT : fa_TX ≤ T) (o : Nat) (a1 : Int) (a2 : Int) (ho : (fa_sh o).1 = 2)  (w : fa_W) (r : Int) (hM : fm_Groups_groupOf o a1 a2 w = some r) : fa_MC l D b aC H0 N T y_Groups_groupOf prog_3_method_8_code 4 ((Option.some Jvm.ClassFile.FieldType.int)) (1) [.ref (b + o), .int (fa_I a1), .int (fa_I a2)] w (some (.int (fa_I r))) w := by
  refine fa_enter (lv := [(0, .ref (b + o)), (1, .int (fa_I a1)), (2, .int (fa_I a2))]) (by decide +kernel) (Nat.le_of_ble_eq_true rfl) rfl (fun hh hle hnm X => ?_)
  unfold fm_Groups_groupOf at hM
  refine g_iconst X d_Groups_groupOf_0 ?_
  refine g_istorec_n X [(3, .int (fa_I 0)), (0, .ref (b + o)), (1, .int (fa_I a1)), (2, .int (fa_I a2))] d_Groups_groupOf_1 (by decide) rfl ?_
  exact g_lv [1, 2, 3, 0] rfl (c_Groups_groupOf_l2 X hle hN hT o a1 a2 ho w  fa_FU _ hM)
theorem d_Groups_manyWithCases_0 : decode prog_3_method_9_code 0 = .ok (.iconst 0, 1) := by decide +kernel
theorem d_Groups_manyWithCases_1 : decode prog_3_method_9_code 1 = .ok (.istore_n 3, 1) := by decide +kernel
theorem d_Groups_manyWithCases_2 : decode prog_3_method_9_code 2 = .ok (.iconst 0, 1) := by decide +kernel
theorem d_Groups_manyWithCases_3 : decode prog_3_method_9_code 3 = .ok (.istore 4, 2) := by decide +kernel
theorem d_Groups_manyWithCases_5 : decode prog_3_method_9_code 5 = .ok (.iload 4, 2) := by decide +kernel
theorem d_Groups_manyWithCases_7 : decode prog_3_method_9_code 7 = .ok (.aload_n 0, 1) := by decide +kernel
theorem d_Groups_manyWithCases_8 : decode prog_3_method_9_code 8 = .ok (.iload_n 1, 1) := by decide +kernel
theorem d_Groups_manyWithCases_9 : decode prog_3_method_9_code 9 = .ok (.invokevirtual 91, 3) := by decide +kernel
theorem d_Groups_manyWithCases_12 : decode prog_3_method_9_code 12 = .ok (.if_icmp .ge 32, 3) := by decide +kernel
theorem d_Groups_manyWithCases_15 : decode prog_3_method_9_code 15 = .ok (.iload_n 3, 1) := by decide +kernel
theorem d_Groups_manyWithCases_16 : decode prog_3_method_9_code 16 = .ok (.aload_n 0, 1) := by decide +kernel
theorem d_Groups_manyWithCases_17 : decode prog_3_method_9_code 17 = .ok (.iload_n 1, 1) := by decide +kernel
theorem d_Groups_manyWithCases_18 : decode prog_3_method_9_code 18 = .ok (.iload 4, 2) := by decide +kernel
theorem d_Groups_manyWithCases_20 : decode prog_3_method_9_code 20 = .ok (.invokevirtual 94, 3) := by decide +kernel
theorem d_Groups_manyWithCases_23 : decode prog_3_method_9_code 23 = .ok (.iload_n 2, 1) := by decide +kernel
theorem d_Groups_manyWithCases_24 : decode prog_3_method_9_code 24 = .ok (.iand, 1) := by decide +kernel
theorem d_Groups_manyWithCases_25 : decode prog_3_method_9_code 25 = .ok (.ifCond .eq 7, 3) := by decide +kernel
theorem d_Groups_manyWithCases_28 : decode prog_3_method_9_code 28 = .ok (.iconst 1, 1) := by decide +kernel
theorem d_Groups_manyWithCases_29 : decode prog_3_method_9_code 29 = .ok (.goto 4, 3) := by decide +kernel
theorem d_Groups_manyWithCases_32 : decode prog_3_method_9_code 32 = .ok (.iconst 0, 1) := by decide +kernel
theorem d_Groups_manyWithCases_33 : decode prog_3_method_9_code 33 = .ok (.invokestatic 98, 3) := by decide +kernel
theorem d_Groups_manyWithCases_36 : decode prog_3_method_9_code 36 = .ok (.iadd, 1) := by decide +kernel
theorem d_Groups_manyWithCases_37 : decode prog_3_method_9_code 37 = .ok (.istore_n 3, 1) := by decide +kernel
theorem d_Groups_manyWithCases_38 : decode prog_3_method_9_code 38 = .ok (.iinc 4 1, 3) := by decide +kernel
theorem d_Groups_manyWithCases_41 : decode prog_3_method_9_code 41 = .ok (.goto (-36), 3) := by decide +kernel
theorem d_Groups_manyWithCases_44 : decode prog_3_method_9_code 44 = .ok (.iload_n 3, 1) := by decide +kernel
theorem d_Groups_manyWithCases_45 : decode prog_3_method_9_code 45 = .ok (.ireturn, 1) := by decide +kernel
def fm_Groups_manyWithCases_j33 (o : Nat) (a1 : Int) (a2 : Int) (w : fa_W) (k5 : Int → Int → Option Int) (x4 : Int) (s0 : Bool) (s1 : Int) : Option Int :=
  fa_let (s1 + (fm_Face_oneIf s0 w)) fun x3_6 =>
  fa_let (x4 + 1) fun x4_7 =>
  k5 x3_6 x4_7
set_option maxHeartbeats 4000000 in
set_option maxRecDepth 100000 in
theorem c_Groups_manyWithCases_j33 {p : Program} {l : Launch} {e : Env} {s : State} {m : MethodId} {args : Array Value} {below : List Frame} {meth : Method} {c : Code} {hh : Nat} {D : va_G} {b : Nat} {aC : Nat → ClassId} {H0 : Heap} {N T : Nat} (X : fa_GX p s m args meth c prog_3_method_9_code 5 ((Option.some Jvm.ClassFile.FieldType.int)) y_Groups_manyWithCases.cls D b aC) (hle : 3 ≤ hh) (hN : fa_NX ≤ N) (hT : fa_TX ≤ T) (o : Nat) (a1 : Int) (a2 : Int) (ho : (fa_sh o).1 = 2) {r : Int} (w : fa_W) (k5 : Int → Int → Option Int) (K5 : ∀ (x3 : Int) (x4 : Int), k5 x3 x4 = some r → fa_GJ p l e (fa_rm hh) s m args below meth c 0 0 (MQ below (fa_Qc D b aC H0 N T (some (.int (fa_I r))) w) args s 0 0 (fun q => b ≤ q)) D b aC H0 N T 5 w 5 [(0, .ref (b + o)), (1, .int (fa_I a1)), (2, .int (fa_I a2)), (3, .int (fa_I x3)), (4, .int (fa_I x4))] []) : ∀ (x4 : Int) (s0 : Bool) (s1 : Int) (_ : fm_Groups_manyWithCases_j33 o a1 a2 w k5 x4 s0 s1 = some r), fa_GJ p l e (fa_rm hh) s m args below meth c 0 0 (MQ below (fa_Qc D b aC H0 N T (some (.int (fa_I r))) w) args s 0 0 (fun q => b ≤ q)) D b aC H0 N T 5 w 33 [(0, .ref (b + o)), (1, .int (fa_I a1)), (2, .int (fa_I a2)), (4, .int (fa_I x4))] [.int (fa_I (fa_bi s0)), .int (fa_I s1)] := by
  intro x4 s0 s1 hM
  unfold fm_Groups_manyWithCases_j33 at hM
  refine g_callSN_i X mi_Face_oneIf (c_Face_oneIf hN hT s0 w _ rfl) wd_1293 rfl (Nat.le_trans (Nat.le_of_ble_eq_true rfl) hle) (st := [.int (fa_I s1)]) (Nat.le_of_ble_eq_true rfl) rfl d_Groups_manyWithCases_33 ?_
  refine g_iadd X d_Groups_manyWithCases_36 ?_
  refine g_istore_n X (fun x3_6 => [(3, .int (fa_I x3_6)), (0, .ref (b + o)), (1, .int (fa_I a1)), (2, .int (fa_I a2)), (4, .int (fa_I x4))]) d_Groups_manyWithCases_37 (by decide) (fun _ => rfl) (fun x3_6 ex3_6 => ?_)
  have hM := fa_let_to hM ex3_6
  refine g_iinc X 4 (fun x4_7 => [(4, .int (fa_I x4_7)), (3, .int (fa_I x3_6)), (0, .ref (b + o)), (1, .int (fa_I a1)), (2, .int (fa_I a2))]) d_Groups_manyWithCases_38 rfl (by decide) (fun _ => rfl) (fun x4_7 ex4_7 => ?_)
  have hM := fa_let_to hM ex4_7
  refine g_goto X 5 d_Groups_manyWithCases_41 (by decide) ?_
  exact g_lv [2, 3, 4, 1, 0] rfl (K5 _ _ hM)
def fm_Groups_manyWithCases_l5 (o : Nat) (a1 : Int) (a2 : Int) (w : fa_W) : Nat → Int → Int → Option Int
  | 0, _, _ => none
  | n + 1, x3, x4 => if fa_wr (fm_Groups_many o a1 w) ≤ fa_wr x4 then
  some x3
  else
  (if fa_wr (fa_iand (fm_Groups_members o a1 x4 w) a2) = 0 then
  fm_Groups_manyWithCases_j33 o a1 a2 w (fun x3 x4 => fm_Groups_manyWithCases_l5 o a1 a2 w n x3 x4) x4 false x3
  else
  fm_Groups_manyWithCases_j33 o a1 a2 w (fun x3 x4 => fm_Groups_manyWithCases_l5 o a1 a2 w n x3 x4) x4 true x3)
set_option maxHeartbeats 4000000 in
set_option maxRecDepth 100000 in
theorem c_Groups_manyWithCases_l5 {p : Program} {l : Launch} {e : Env} {s : State} {m : MethodId} {args : Array Value} {below : List Frame} {meth : Method} {c : Code} {hh : Nat} {D : va_G} {b : Nat} {aC : Nat → ClassId} {H0 : Heap} {N T : Nat} (X : fa_GX p s m args meth c prog_3_method_9_code 5 ((Option.some Jvm.ClassFile.FieldType.int)) y_Groups_manyWithCases.cls D b aC) (hle : 3 ≤ hh) (hN : fa_NX ≤ N) (hT : fa_TX ≤ T) (o : Nat) (a1 : Int) (a2 : Int) (ho : (fa_sh o).1 = 2) {r : Int} (w : fa_W) : ∀ (n : Nat) (x3 : Int) (x4 : Int), fm_Groups_manyWithCases_l5 o a1 a2 w n x3 x4 = some r → fa_GJ p l e (fa_rm hh) s m args below meth c 0 0 (MQ below (fa_Qc D b aC H0 N T (some (.int (fa_I r))) w) args s 0 0 (fun q => b ≤ q)) D b aC H0 N T 5 w 5 [(0, .ref (b + o)), (1, .int (fa_I a1)), (2, .int (fa_I a2)), (3, .int (fa_I x3)), (4, .int (fa_I x4))] [] := by
  intro n
  induction n with
  | zero => intro x3 x4 hM; exact fa_no hM
  | succ n ih =>
    intro x3 x4 hM
    rw [fm_Groups_manyWithCases_l5] at hM
    refine g_iload X 4 rfl d_Groups_manyWithCases_5 ?_
    refine g_aload_n X 0 rfl d_Groups_manyWithCases_7 ?_
    refine g_iload_n X 1 rfl d_Groups_manyWithCases_8 ?_
    refine g_callV_i X ck_2 ho (fa_xn ho (by decide) hN) rfl mi_Groups_many (c_Groups_many hN hT o a1 ho w _ rfl) wd_607 rfl (Nat.le_trans (Nat.le_of_ble_eq_true rfl) hle) (st := [.int (fa_I x4)]) (Nat.le_of_ble_eq_true rfl) rfl d_Groups_manyWithCases_9 ?_
    refine g_icmp_ge X 44 d_Groups_manyWithCases_12 (by decide) (fun hc2 => ?_) (fun hc2 => ?_)
    · have hM := fa_if_t hM hc2
      refine g_iload_n X 3 rfl d_Groups_manyWithCases_44 ?_
      cases hM
      exact g_iret X d_Groups_manyWithCases_45
    · have hM := fa_if_f hM hc2
      refine g_iload_n X 3 rfl d_Groups_manyWithCases_15 ?_
      refine g_aload_n X 0 rfl d_Groups_manyWithCases_16 ?_
      refine g_iload_n X 1 rfl d_Groups_manyWithCases_17 ?_
      refine g_iload X 4 rfl d_Groups_manyWithCases_18 ?_
      refine g_callV_i X ck_2 ho (fa_xn ho (by decide) hN) rfl mi_Groups_members (c_Groups_members hN hT o a1 x4 ho w _ rfl) wd_1289 rfl (Nat.le_trans (Nat.le_of_ble_eq_true rfl) hle) (st := [.int (fa_I x3)]) (Nat.le_of_ble_eq_true rfl) rfl d_Groups_manyWithCases_20 ?_
      refine g_iload_n X 2 rfl d_Groups_manyWithCases_23 ?_
      refine g_iand X d_Groups_manyWithCases_24 ?_
      refine g_if_eq X 32 d_Groups_manyWithCases_25 (by decide) (fun hc4 => ?_) (fun hc4 => ?_)
      · have hM := fa_if_t hM hc4
        refine g_iconst X d_Groups_manyWithCases_32 ?_
        exact g_lv [0, 1, 2, 4] rfl (c_Groups_manyWithCases_j33 X hle hN hT o a1 a2 ho w (fun x3 x4 => fm_Groups_manyWithCases_l5 o a1 a2 w n x3 x4) (fun _ _ h => ih _ _ h)  _ _ _ hM)
      · have hM := fa_if_f hM hc4
        refine g_iconst X d_Groups_manyWithCases_28 ?_
        refine g_goto X 33 d_Groups_manyWithCases_29 (by decide) ?_
        exact g_lv [0, 1, 2, 4] rfl (c_Groups_manyWithCases_j33 X hle hN hT o a1 a2 ho w (fun x3 x4 => fm_Groups_manyWithCases_l5 o a1 a2 w n x3 x4) (fun _ _ h => ih _ _ h)  _ _ _ hM)
def fm_Groups_manyWithCases (o : Nat) (a1 : Int) (a2 : Int) (w : fa_W) : Option Int :=
  fm_Groups_manyWithCases_l5 o a1 a2 w fa_FU 0 0
set_option maxHeartbeats 4000000 in
set_option maxRecDepth 100000 in
theorem c_Groups_manyWithCases {l : Launch} {D : va_G} {b : Nat} {aC : Nat → ClassId} {H0 : Heap} {N T : Nat} (hN : fa_NX ≤ N) (hT : fa_TX ≤ T) (o : Nat) (a1 : Int) (a2 : Int) (ho : (fa_sh o).1 = 2)  (w : fa_W) (r : Int) (hM : fm_Groups_manyWithCases o a1 a2 w = some r) : fa_MC l D b aC H0 N T y_Groups_manyWithCases prog_3_method_9_code 5 ((Option.some Jvm.ClassFile.FieldType.int)) (3) [.ref (b + o), .int (fa_I a1), .int (fa_I a2)] w (some (.int (fa_I r))) w := by
  refine fa_enter (lv := [(0, .ref (b + o)), (1, .int (fa_I a1)), (2, .int (fa_I a2))]) (by decide +kernel) (Nat.le_of_ble_eq_true rfl) rfl (fun hh hle hnm X => ?_)
  unfold fm_Groups_manyWithCases at hM
  refine g_iconst X d_Groups_manyWithCases_0 ?_
  refine g_istorec_n X [(3, .int (fa_I 0)), (0, .ref (b + o)), (1, .int (fa_I a1)), (2, .int (fa_I a2))] d_Groups_manyWithCases_1 (by decide) rfl ?_
  refine g_iconst X d_Groups_manyWithCases_2 ?_
  refine g_istorec X [(4, .int (fa_I 0)), (3, .int (fa_I 0)), (0, .ref (b + o)), (1, .int (fa_I a1)), (2, .int (fa_I a2))] d_Groups_manyWithCases_3 (by decide) rfl ?_
  exact g_lv [2, 3, 4, 1, 0] rfl (c_Groups_manyWithCases_l5 X hle hN hT o a1 a2 ho w  fa_FU _ _ hM)
theorem d_Groups_mostCases_0 : decode prog_3_method_10_code 0 = .ok (.iconst 0, 1) := by decide +kernel
theorem d_Groups_mostCases_1 : decode prog_3_method_10_code 1 = .ok (.istore_n 3, 1) := by decide +kernel
theorem d_Groups_mostCases_2 : decode prog_3_method_10_code 2 = .ok (.iconst 0, 1) := by decide +kernel
theorem d_Groups_mostCases_3 : decode prog_3_method_10_code 3 = .ok (.istore 4, 2) := by decide +kernel
theorem d_Groups_mostCases_5 : decode prog_3_method_10_code 5 = .ok (.iload 4, 2) := by decide +kernel
theorem d_Groups_mostCases_7 : decode prog_3_method_10_code 7 = .ok (.aload_n 0, 1) := by decide +kernel
theorem d_Groups_mostCases_8 : decode prog_3_method_10_code 8 = .ok (.iload_n 1, 1) := by decide +kernel
theorem d_Groups_mostCases_9 : decode prog_3_method_10_code 9 = .ok (.invokevirtual 91, 3) := by decide +kernel
theorem d_Groups_mostCases_12 : decode prog_3_method_10_code 12 = .ok (.if_icmp .ge 26, 3) := by decide +kernel
theorem d_Groups_mostCases_15 : decode prog_3_method_10_code 15 = .ok (.iload_n 3, 1) := by decide +kernel
theorem d_Groups_mostCases_16 : decode prog_3_method_10_code 16 = .ok (.aload_n 0, 1) := by decide +kernel
theorem d_Groups_mostCases_17 : decode prog_3_method_10_code 17 = .ok (.iload_n 1, 1) := by decide +kernel
theorem d_Groups_mostCases_18 : decode prog_3_method_10_code 18 = .ok (.iload 4, 2) := by decide +kernel
theorem d_Groups_mostCases_20 : decode prog_3_method_10_code 20 = .ok (.invokevirtual 94, 3) := by decide +kernel
theorem d_Groups_mostCases_23 : decode prog_3_method_10_code 23 = .ok (.iload_n 2, 1) := by decide +kernel
theorem d_Groups_mostCases_24 : decode prog_3_method_10_code 24 = .ok (.iand, 1) := by decide +kernel
theorem d_Groups_mostCases_25 : decode prog_3_method_10_code 25 = .ok (.invokestatic 102, 3) := by decide +kernel
theorem d_Groups_mostCases_28 : decode prog_3_method_10_code 28 = .ok (.invokestatic 107, 3) := by decide +kernel
theorem d_Groups_mostCases_31 : decode prog_3_method_10_code 31 = .ok (.istore_n 3, 1) := by decide +kernel
theorem d_Groups_mostCases_32 : decode prog_3_method_10_code 32 = .ok (.iinc 4 1, 3) := by decide +kernel
theorem d_Groups_mostCases_35 : decode prog_3_method_10_code 35 = .ok (.goto (-30), 3) := by decide +kernel
theorem d_Groups_mostCases_38 : decode prog_3_method_10_code 38 = .ok (.iload_n 3, 1) := by decide +kernel
theorem d_Groups_mostCases_39 : decode prog_3_method_10_code 39 = .ok (.ireturn, 1) := by decide +kernel
def fm_Groups_mostCases_l5 (o : Nat) (a1 : Int) (a2 : Int) (w : fa_W) : Nat → Int → Int → Option Int
  | 0, _, _ => none
  | n + 1, x3, x4 => if fa_wr (fm_Groups_many o a1 w) ≤ fa_wr x4 then
  some x3
  else
  (fa_let (fa_max x3 (fm_Integer_bitCount (fa_iand (fm_Groups_members o a1 x4 w) a2) w)) fun x3_5 =>
  fa_let (x4 + 1) fun x4_6 =>
  fm_Groups_mostCases_l5 o a1 a2 w n x3_5 x4_6)
set_option maxHeartbeats 4000000 in
set_option maxRecDepth 100000 in
theorem c_Groups_mostCases_l5 {p : Program} {l : Launch} {e : Env} {s : State} {m : MethodId} {args : Array Value} {below : List Frame} {meth : Method} {c : Code} {hh : Nat} {D : va_G} {b : Nat} {aC : Nat → ClassId} {H0 : Heap} {N T : Nat} (X : fa_GX p s m args meth c prog_3_method_10_code 5 ((Option.some Jvm.ClassFile.FieldType.int)) y_Groups_mostCases.cls D b aC) (hle : 3 ≤ hh) (hN : fa_NX ≤ N) (hT : fa_TX ≤ T) (o : Nat) (a1 : Int) (a2 : Int) (ho : (fa_sh o).1 = 2) {r : Int} (w : fa_W) : ∀ (n : Nat) (x3 : Int) (x4 : Int), fm_Groups_mostCases_l5 o a1 a2 w n x3 x4 = some r → fa_GJ p l e (fa_rm hh) s m args below meth c 0 0 (MQ below (fa_Qc D b aC H0 N T (some (.int (fa_I r))) w) args s 0 0 (fun q => b ≤ q)) D b aC H0 N T 5 w 5 [(0, .ref (b + o)), (1, .int (fa_I a1)), (2, .int (fa_I a2)), (3, .int (fa_I x3)), (4, .int (fa_I x4))] [] := by
  intro n
  induction n with
  | zero => intro x3 x4 hM; exact fa_no hM
  | succ n ih =>
    intro x3 x4 hM
    rw [fm_Groups_mostCases_l5] at hM
    refine g_iload X 4 rfl d_Groups_mostCases_5 ?_
    refine g_aload_n X 0 rfl d_Groups_mostCases_7 ?_
    refine g_iload_n X 1 rfl d_Groups_mostCases_8 ?_
    refine g_callV_i X ck_2 ho (fa_xn ho (by decide) hN) rfl mi_Groups_many (c_Groups_many hN hT o a1 ho w _ rfl) wd_607 rfl (Nat.le_trans (Nat.le_of_ble_eq_true rfl) hle) (st := [.int (fa_I x4)]) (Nat.le_of_ble_eq_true rfl) rfl d_Groups_mostCases_9 ?_
    refine g_icmp_ge X 38 d_Groups_mostCases_12 (by decide) (fun hc2 => ?_) (fun hc2 => ?_)
    · have hM := fa_if_t hM hc2
      refine g_iload_n X 3 rfl d_Groups_mostCases_38 ?_
      cases hM
      exact g_iret X d_Groups_mostCases_39
    · have hM := fa_if_f hM hc2
      refine g_iload_n X 3 rfl d_Groups_mostCases_15 ?_
      refine g_aload_n X 0 rfl d_Groups_mostCases_16 ?_
      refine g_iload_n X 1 rfl d_Groups_mostCases_17 ?_
      refine g_iload X 4 rfl d_Groups_mostCases_18 ?_
      refine g_callV_i X ck_2 ho (fa_xn ho (by decide) hN) rfl mi_Groups_members (c_Groups_members hN hT o a1 x4 ho w _ rfl) wd_1289 rfl (Nat.le_trans (Nat.le_of_ble_eq_true rfl) hle) (st := [.int (fa_I x3)]) (Nat.le_of_ble_eq_true rfl) rfl d_Groups_mostCases_20 ?_
      refine g_iload_n X 2 rfl d_Groups_mostCases_23 ?_
      refine g_iand X d_Groups_mostCases_24 ?_
      refine g_callS_i X mi_Integer_bitCount (c_Integer_bitCount (fa_iand (fm_Groups_members o a1 x4 w) a2) w _ rfl) wd_1298 rfl (Nat.le_trans (Nat.le_of_ble_eq_true rfl) hle) (st := [.int (fa_I x3)]) (Nat.le_of_ble_eq_true rfl) rfl d_Groups_mostCases_25 ?_
      refine g_mmax X (Nat.le_trans (Nat.le_of_ble_eq_true rfl) hle) wd_1299 (Nat.le_of_ble_eq_true rfl) d_Groups_mostCases_28 ?_
      refine g_istore_n X (fun x3_5 => [(3, .int (fa_I x3_5)), (0, .ref (b + o)), (1, .int (fa_I a1)), (2, .int (fa_I a2)), (4, .int (fa_I x4))]) d_Groups_mostCases_31 (by decide) (fun _ => rfl) (fun x3_5 ex3_5 => ?_)
      have hM := fa_let_to hM ex3_5
      refine g_iinc X 4 (fun x4_6 => [(4, .int (fa_I x4_6)), (3, .int (fa_I x3_5)), (0, .ref (b + o)), (1, .int (fa_I a1)), (2, .int (fa_I a2))]) d_Groups_mostCases_32 rfl (by decide) (fun _ => rfl) (fun x4_6 ex4_6 => ?_)
      have hM := fa_let_to hM ex4_6
      refine g_goto X 5 d_Groups_mostCases_35 (by decide) ?_
      exact g_lv [2, 3, 4, 1, 0] rfl (ih _ _ hM)
def fm_Groups_mostCases (o : Nat) (a1 : Int) (a2 : Int) (w : fa_W) : Option Int :=
  fm_Groups_mostCases_l5 o a1 a2 w fa_FU 0 0
set_option maxHeartbeats 4000000 in
set_option maxRecDepth 100000 in
theorem c_Groups_mostCases {l : Launch} {D : va_G} {b : Nat} {aC : Nat → ClassId} {H0 : Heap} {N T : Nat} (hN : fa_NX ≤ N) (hT : fa_TX ≤ T) (o : Nat) (a1 : Int) (a2 : Int) (ho : (fa_sh o).1 = 2)  (w : fa_W) (r : Int) (hM : fm_Groups_mostCases o a1 a2 w = some r) : fa_MC l D b aC H0 N T y_Groups_mostCases prog_3_method_10_code 5 ((Option.some Jvm.ClassFile.FieldType.int)) (3) [.ref (b + o), .int (fa_I a1), .int (fa_I a2)] w (some (.int (fa_I r))) w := by
  refine fa_enter (lv := [(0, .ref (b + o)), (1, .int (fa_I a1)), (2, .int (fa_I a2))]) (by decide +kernel) (Nat.le_of_ble_eq_true rfl) rfl (fun hh hle hnm X => ?_)
  unfold fm_Groups_mostCases at hM
  refine g_iconst X d_Groups_mostCases_0 ?_
  refine g_istorec_n X [(3, .int (fa_I 0)), (0, .ref (b + o)), (1, .int (fa_I a1)), (2, .int (fa_I a2))] d_Groups_mostCases_1 (by decide) rfl ?_
  refine g_iconst X d_Groups_mostCases_2 ?_
  refine g_istorec X [(4, .int (fa_I 0)), (3, .int (fa_I 0)), (0, .ref (b + o)), (1, .int (fa_I a1)), (2, .int (fa_I a2))] d_Groups_mostCases_3 (by decide) rfl ?_
  exact g_lv [2, 3, 4, 1, 0] rfl (c_Groups_mostCases_l5 X hle hN hT o a1 a2 ho w  fa_FU _ _ hM)
theorem d_Groups_allCases_0 : decode prog_3_method_11_code 0 = .ok (.iconst 0, 1) := by decide +kernel
theorem d_Groups_allCases_1 : decode prog_3_method_11_code 1 = .ok (.istore_n 3, 1) := by decide +kernel
theorem d_Groups_allCases_2 : decode prog_3_method_11_code 2 = .ok (.iconst 0, 1) := by decide +kernel
theorem d_Groups_allCases_3 : decode prog_3_method_11_code 3 = .ok (.istore 4, 2) := by decide +kernel
theorem d_Groups_allCases_5 : decode prog_3_method_11_code 5 = .ok (.iload 4, 2) := by decide +kernel
theorem d_Groups_allCases_7 : decode prog_3_method_11_code 7 = .ok (.aload_n 0, 1) := by decide +kernel
theorem d_Groups_allCases_8 : decode prog_3_method_11_code 8 = .ok (.iload_n 1, 1) := by decide +kernel
theorem d_Groups_allCases_9 : decode prog_3_method_11_code 9 = .ok (.invokevirtual 91, 3) := by decide +kernel
theorem d_Groups_allCases_12 : decode prog_3_method_11_code 12 = .ok (.if_icmp .ge 21, 3) := by decide +kernel
theorem d_Groups_allCases_15 : decode prog_3_method_11_code 15 = .ok (.iload_n 3, 1) := by decide +kernel
theorem d_Groups_allCases_16 : decode prog_3_method_11_code 16 = .ok (.aload_n 0, 1) := by decide +kernel
theorem d_Groups_allCases_17 : decode prog_3_method_11_code 17 = .ok (.iload_n 1, 1) := by decide +kernel
theorem d_Groups_allCases_18 : decode prog_3_method_11_code 18 = .ok (.iload 4, 2) := by decide +kernel
theorem d_Groups_allCases_20 : decode prog_3_method_11_code 20 = .ok (.invokevirtual 94, 3) := by decide +kernel
theorem d_Groups_allCases_23 : decode prog_3_method_11_code 23 = .ok (.iload_n 2, 1) := by decide +kernel
theorem d_Groups_allCases_24 : decode prog_3_method_11_code 24 = .ok (.iand, 1) := by decide +kernel
theorem d_Groups_allCases_25 : decode prog_3_method_11_code 25 = .ok (.ior, 1) := by decide +kernel
theorem d_Groups_allCases_26 : decode prog_3_method_11_code 26 = .ok (.istore_n 3, 1) := by decide +kernel
theorem d_Groups_allCases_27 : decode prog_3_method_11_code 27 = .ok (.iinc 4 1, 3) := by decide +kernel
theorem d_Groups_allCases_30 : decode prog_3_method_11_code 30 = .ok (.goto (-25), 3) := by decide +kernel
theorem d_Groups_allCases_33 : decode prog_3_method_11_code 33 = .ok (.iload_n 3, 1) := by decide +kernel
theorem d_Groups_allCases_34 : decode prog_3_method_11_code 34 = .ok (.ireturn, 1) := by decide +kernel
def fm_Groups_allCases_l5 (o : Nat) (a1 : Int) (a2 : Int) (w : fa_W) : Nat → Int → Int → Option Int
  | 0, _, _ => none
  | n + 1, x3, x4 => if fa_wr (fm_Groups_many o a1 w) ≤ fa_wr x4 then
  some x3
  else
  (fa_let (fa_ior x3 (fa_iand (fm_Groups_members o a1 x4 w) a2)) fun x3_4 =>
  fa_let (x4 + 1) fun x4_5 =>
  fm_Groups_allCases_l5 o a1 a2 w n x3_4 x4_5)
set_option maxHeartbeats 4000000 in
set_option maxRecDepth 100000 in
theorem c_Groups_allCases_l5 {p : Program} {l : Launch} {e : Env} {s : State} {m : MethodId} {args : Array Value} {below : List Frame} {meth : Method} {c : Code} {hh : Nat} {D : va_G} {b : Nat} {aC : Nat → ClassId} {H0 : Heap} {N T : Nat} (X : fa_GX p s m args meth c prog_3_method_11_code 5 ((Option.some Jvm.ClassFile.FieldType.int)) y_Groups_allCases.cls D b aC) (hle : 3 ≤ hh) (hN : fa_NX ≤ N) (hT : fa_TX ≤ T) (o : Nat) (a1 : Int) (a2 : Int) (ho : (fa_sh o).1 = 2) {r : Int} (w : fa_W) : ∀ (n : Nat) (x3 : Int) (x4 : Int), fm_Groups_allCases_l5 o a1 a2 w n x3 x4 = some r → fa_GJ p l e (fa_rm hh) s m args below meth c 0 0 (MQ below (fa_Qc D b aC H0 N T (some (.int (fa_I r))) w) args s 0 0 (fun q => b ≤ q)) D b aC H0 N T 5 w 5 [(0, .ref (b + o)), (1, .int (fa_I a1)), (2, .int (fa_I a2)), (3, .int (fa_I x3)), (4, .int (fa_I x4))] [] := by
  intro n
  induction n with
  | zero => intro x3 x4 hM; exact fa_no hM
  | succ n ih =>
    intro x3 x4 hM
    rw [fm_Groups_allCases_l5] at hM
    refine g_iload X 4 rfl d_Groups_allCases_5 ?_
    refine g_aload_n X 0 rfl d_Groups_allCases_7 ?_
    refine g_iload_n X 1 rfl d_Groups_allCases_8 ?_
    refine g_callV_i X ck_2 ho (fa_xn ho (by decide) hN) rfl mi_Groups_many (c_Groups_many hN hT o a1 ho w _ rfl) wd_607 rfl (Nat.le_trans (Nat.le_of_ble_eq_true rfl) hle) (st := [.int (fa_I x4)]) (Nat.le_of_ble_eq_true rfl) rfl d_Groups_allCases_9 ?_
    refine g_icmp_ge X 33 d_Groups_allCases_12 (by decide) (fun hc2 => ?_) (fun hc2 => ?_)
    · have hM := fa_if_t hM hc2
      refine g_iload_n X 3 rfl d_Groups_allCases_33 ?_
      cases hM
      exact g_iret X d_Groups_allCases_34
    · have hM := fa_if_f hM hc2
      refine g_iload_n X 3 rfl d_Groups_allCases_15 ?_
      refine g_aload_n X 0 rfl d_Groups_allCases_16 ?_
      refine g_iload_n X 1 rfl d_Groups_allCases_17 ?_
      refine g_iload X 4 rfl d_Groups_allCases_18 ?_
      refine g_callV_i X ck_2 ho (fa_xn ho (by decide) hN) rfl mi_Groups_members (c_Groups_members hN hT o a1 x4 ho w _ rfl) wd_1289 rfl (Nat.le_trans (Nat.le_of_ble_eq_true rfl) hle) (st := [.int (fa_I x3)]) (Nat.le_of_ble_eq_true rfl) rfl d_Groups_allCases_20 ?_
      refine g_iload_n X 2 rfl d_Groups_allCases_23 ?_
      refine g_iand X d_Groups_allCases_24 ?_
      refine g_ior X d_Groups_allCases_25 ?_
      refine g_istore_n X (fun x3_4 => [(3, .int (fa_I x3_4)), (0, .ref (b + o)), (1, .int (fa_I a1)), (2, .int (fa_I a2)), (4, .int (fa_I x4))]) d_Groups_allCases_26 (by decide) (fun _ => rfl) (fun x3_4 ex3_4 => ?_)
      have hM := fa_let_to hM ex3_4
      refine g_iinc X 4 (fun x4_5 => [(4, .int (fa_I x4_5)), (3, .int (fa_I x3_4)), (0, .ref (b + o)), (1, .int (fa_I a1)), (2, .int (fa_I a2))]) d_Groups_allCases_27 rfl (by decide) (fun _ => rfl) (fun x4_5 ex4_5 => ?_)
      have hM := fa_let_to hM ex4_5
      refine g_goto X 5 d_Groups_allCases_30 (by decide) ?_
      exact g_lv [2, 3, 4, 1, 0] rfl (ih _ _ hM)
def fm_Groups_allCases (o : Nat) (a1 : Int) (a2 : Int) (w : fa_W) : Option Int :=
  fm_Groups_allCases_l5 o a1 a2 w fa_FU 0 0
set_option maxHeartbeats 4000000 in
set_option maxRecDepth 100000 in
theorem c_Groups_allCases {l : Launch} {D : va_G} {b : Nat} {aC : Nat → ClassId} {H0 : Heap} {N T : Nat} (hN : fa_NX ≤ N) (hT : fa_TX ≤ T) (o : Nat) (a1 : Int) (a2 : Int) (ho : (fa_sh o).1 = 2)  (w : fa_W) (r : Int) (hM : fm_Groups_allCases o a1 a2 w = some r) : fa_MC l D b aC H0 N T y_Groups_allCases prog_3_method_11_code 5 ((Option.some Jvm.ClassFile.FieldType.int)) (3) [.ref (b + o), .int (fa_I a1), .int (fa_I a2)] w (some (.int (fa_I r))) w := by
  refine fa_enter (lv := [(0, .ref (b + o)), (1, .int (fa_I a1)), (2, .int (fa_I a2))]) (by decide +kernel) (Nat.le_of_ble_eq_true rfl) rfl (fun hh hle hnm X => ?_)
  unfold fm_Groups_allCases at hM
  refine g_iconst X d_Groups_allCases_0 ?_
  refine g_istorec_n X [(3, .int (fa_I 0)), (0, .ref (b + o)), (1, .int (fa_I a1)), (2, .int (fa_I a2))] d_Groups_allCases_1 (by decide) rfl ?_
  refine g_iconst X d_Groups_allCases_2 ?_
  refine g_istorec X [(4, .int (fa_I 0)), (3, .int (fa_I 0)), (0, .ref (b + o)), (1, .int (fa_I a1)), (2, .int (fa_I a2))] d_Groups_allCases_3 (by decide) rfl ?_
  exact g_lv [2, 3, 4, 1, 0] rfl (c_Groups_allCases_l5 X hle hN hT o a1 a2 ho w  fa_FU _ _ hM)
