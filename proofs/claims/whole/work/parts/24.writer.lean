theorem d_Writer_putName_0 : decode prog_10_method_16_code 0 = .ok (.bipush 24, 2) := by decide +kernel
theorem d_Writer_putName_2 : decode prog_10_method_16_code 2 = .ok (.istore_n 2, 1) := by decide +kernel
theorem d_Writer_putName_3 : decode prog_10_method_16_code 3 = .ok (.iload_n 2, 1) := by decide +kernel
theorem d_Writer_putName_4 : decode prog_10_method_16_code 4 = .ok (.ifCond .lt 33, 3) := by decide +kernel
theorem d_Writer_putName_7 : decode prog_10_method_16_code 7 = .ok (.iload_n 1, 1) := by decide +kernel
theorem d_Writer_putName_8 : decode prog_10_method_16_code 8 = .ok (.iload_n 2, 1) := by decide +kernel
theorem d_Writer_putName_9 : decode prog_10_method_16_code 9 = .ok (.iushr, 1) := by decide +kernel
theorem d_Writer_putName_10 : decode prog_10_method_16_code 10 = .ok (.sipush 255, 3) := by decide +kernel
theorem d_Writer_putName_13 : decode prog_10_method_16_code 13 = .ok (.iand, 1) := by decide +kernel
theorem d_Writer_putName_14 : decode prog_10_method_16_code 14 = .ok (.ifCond .eq 17, 3) := by decide +kernel
theorem d_Writer_putName_17 : decode prog_10_method_16_code 17 = .ok (.aload_n 0, 1) := by decide +kernel
theorem d_Writer_putName_18 : decode prog_10_method_16_code 18 = .ok (.getfield 30, 3) := by decide +kernel
theorem d_Writer_putName_21 : decode prog_10_method_16_code 21 = .ok (.iload_n 1, 1) := by decide +kernel
theorem d_Writer_putName_22 : decode prog_10_method_16_code 22 = .ok (.iload_n 2, 1) := by decide +kernel
theorem d_Writer_putName_23 : decode prog_10_method_16_code 23 = .ok (.iushr, 1) := by decide +kernel
theorem d_Writer_putName_24 : decode prog_10_method_16_code 24 = .ok (.sipush 255, 3) := by decide +kernel
theorem d_Writer_putName_27 : decode prog_10_method_16_code 27 = .ok (.iand, 1) := by decide +kernel
theorem d_Writer_putName_28 : decode prog_10_method_16_code 28 = .ok (.invokevirtual 141, 3) := by decide +kernel
theorem d_Writer_putName_31 : decode prog_10_method_16_code 31 = .ok (.iinc 2 (-8), 3) := by decide +kernel
theorem d_Writer_putName_34 : decode prog_10_method_16_code 34 = .ok (.goto (-31), 3) := by decide +kernel
theorem d_Writer_putName_37 : decode prog_10_method_16_code 37 = .ok (.return_, 1) := by decide +kernel
def fm_Writer_putName_l3 (a1 : Int) : Nat → Int → fa_W → Option fa_W
  | 0, _, _ => none
  | n + 1, x2, w => if fa_wr x2 < 0 then
  some w
  else
  (if fa_wr (fa_iand (fa_iushr a1 x2) 255) = 0 then
  (fa_let (x2 + (-8)) fun x2_3 =>
  fm_Writer_putName_l3 a1 n x2_3 w)
  else
  (fa_let (fr_add 3 (fa_iand (fa_iushr a1 x2) 255) w) fun w5 =>
  fa_let (x2 + (-8)) fun x2_6 =>
  fm_Writer_putName_l3 a1 n x2_6 w5))
set_option maxHeartbeats 4000000 in
set_option maxRecDepth 100000 in
theorem c_Writer_putName_l3 {p : Program} {l : Launch} {e : Env} {s : State} {m : MethodId} {args : Array Value} {below : List Frame} {meth : Method} {c : Code} {hh : Nat} {D : va_G} {b : Nat} {aC : Nat → ClassId} {H0 : Heap} {N T : Nat} (X : fa_GX p s m args meth c prog_10_method_16_code 3 ((Option.none : Option Jvm.ClassFile.FieldType)) y_Writer_putName.cls D b aC) (hle : 1 ≤ hh) (hN : fa_NX ≤ N) (hT : fa_TX ≤ T) (a1 : Int) {r : fa_W}  : ∀ (n : Nat) (x2 : Int) (w : fa_W), fm_Writer_putName_l3 a1 n x2 w = some r → fa_GJ p l e (fa_rm hh) s m args below meth c 0 0 (MQ below (fa_Qc D b aC H0 N T (none) r) args s 0 0 (fun q => b ≤ q)) D b aC H0 N T 3 w 3 [(0, .ref (b + 37)), (1, .int (fa_I a1)), (2, .int (fa_I x2))] [] := by
  intro n
  induction n with
  | zero => intro x2 w hM; exact fa_no hM
  | succ n ih =>
    intro x2 w hM
    rw [fm_Writer_putName_l3] at hM
    refine g_iload_n X 2 rfl d_Writer_putName_3 ?_
    refine g_if_lt X 37 d_Writer_putName_4 (by decide) (fun hc1 => ?_) (fun hc1 => ?_)
    · have hM := fa_if_t hM hc1
      cases hM
      exact g_vret X d_Writer_putName_37
    · have hM := fa_if_f hM hc1
      refine g_iload_n X 1 rfl d_Writer_putName_7 ?_
      refine g_iload_n X 2 rfl d_Writer_putName_8 ?_
      refine g_iushr X d_Writer_putName_9 ?_
      refine g_sipush X (by decide) d_Writer_putName_10 ?_
      refine g_iand X d_Writer_putName_13 ?_
      refine g_if_eq X 31 d_Writer_putName_14 (by decide) (fun hc2 => ?_) (fun hc2 => ?_)
      · have hM := fa_if_t hM hc2
        refine g_iinc X 2 (fun x2_3 => [(2, .int (fa_I x2_3)), (0, .ref (b + 37)), (1, .int (fa_I a1))]) d_Writer_putName_31 rfl (by decide) (fun _ => rfl) (fun x2_3 ex2_3 => ?_)
        have hM := fa_let_to hM ex2_3
        refine g_goto X 3 d_Writer_putName_34 (by decide) ?_
        exact g_lv [1, 2, 0] rfl (ih _ _ hM)
      · have hM := fa_if_f hM hc2
        refine g_aload_n X 0 rfl d_Writer_putName_17 ?_
        refine g_get X ck_9 fo_37 (fa_xn fo_37 (by decide) hN) 0 (by decide) wd_199 rfl (fr_37_0 rfl hT) d_Writer_putName_18 ?_
        refine g_iload_n X 1 rfl d_Writer_putName_21 ?_
        refine g_iload_n X 2 rfl d_Writer_putName_22 ?_
        refine g_iushr X d_Writer_putName_23 ?_
        refine g_sipush X (by decide) d_Writer_putName_24 ?_
        refine g_iand X d_Writer_putName_27 ?_
        obtain ⟨w5, e4⟩ : ∃ q, fr_add 3 (fa_iand (fa_iushr a1 x2) 255) w = q := ⟨_, rfl⟩
        have hM := fa_let_to hM e4.symm
        refine g_callV_v X ck_6 fo_3 (fa_xn fo_3 (by decide) hN) rfl mi_Row_add (ct_Row_add 3 (fa_iand (fa_iushr a1 x2) 255) (fa_ro fo_3 hN hT) w _ e4) wd_684 rfl (Nat.le_trans (Nat.le_of_ble_eq_true rfl) hle) (st := []) (Nat.le_of_ble_eq_true rfl) rfl d_Writer_putName_28 ?_
        refine g_iinc X 2 (fun x2_6 => [(2, .int (fa_I x2_6)), (0, .ref (b + 37)), (1, .int (fa_I a1))]) d_Writer_putName_31 rfl (by decide) (fun _ => rfl) (fun x2_6 ex2_6 => ?_)
        have hM := fa_let_to hM ex2_6
        refine g_goto X 3 d_Writer_putName_34 (by decide) ?_
        exact g_lv [1, 2, 0] rfl (ih _ _ hM)
def fm_Writer_putName (a1 : Int) (w : fa_W) : Option fa_W :=
  fm_Writer_putName_l3 a1 fa_FU 24 w
set_option maxHeartbeats 4000000 in
set_option maxRecDepth 100000 in
theorem c_Writer_putName {l : Launch} {D : va_G} {b : Nat} {aC : Nat → ClassId} {H0 : Heap} {N T : Nat} (hN : fa_NX ≤ N) (hT : fa_TX ≤ T) (a1 : Int)  (w : fa_W) (r : fa_W) (hM : fm_Writer_putName a1 w = some r) : fa_MC l D b aC H0 N T y_Writer_putName prog_10_method_16_code 3 ((Option.none : Option Jvm.ClassFile.FieldType)) (1) [.ref (b + 37), .int (fa_I a1)] w (none) r := by
  refine fa_enter (lv := [(0, .ref (b + 37)), (1, .int (fa_I a1))]) (by decide +kernel) (Nat.le_of_ble_eq_true rfl) rfl (fun hh hle hnm X => ?_)
  unfold fm_Writer_putName at hM
  refine g_bipush X (by decide) d_Writer_putName_0 ?_
  refine g_istorec_n X [(2, .int (fa_I 24)), (0, .ref (b + 37)), (1, .int (fa_I a1))] d_Writer_putName_2 (by decide) rfl ?_
  exact g_lv [1, 2, 0] rfl (c_Writer_putName_l3 X hle hN hT a1   fa_FU _ _ hM)
theorem d_Writer_showName_0 : decode prog_10_method_2_code 0 = .ok (.aload_n 0, 1) := by decide +kernel
theorem d_Writer_showName_1 : decode prog_10_method_2_code 1 = .ok (.getfield 30, 3) := by decide +kernel
theorem d_Writer_showName_4 : decode prog_10_method_2_code 4 = .ok (.invokevirtual 33, 3) := by decide +kernel
theorem d_Writer_showName_7 : decode prog_10_method_2_code 7 = .ok (.aload_n 0, 1) := by decide +kernel
theorem d_Writer_showName_8 : decode prog_10_method_2_code 8 = .ok (.iload_n 1, 1) := by decide +kernel
theorem d_Writer_showName_9 : decode prog_10_method_2_code 9 = .ok (.invokevirtual 36, 3) := by decide +kernel
theorem d_Writer_showName_12 : decode prog_10_method_2_code 12 = .ok (.aload_n 0, 1) := by decide +kernel
theorem d_Writer_showName_13 : decode prog_10_method_2_code 13 = .ok (.getfield 30, 3) := by decide +kernel
theorem d_Writer_showName_16 : decode prog_10_method_2_code 16 = .ok (.invokevirtual 39, 3) := by decide +kernel
theorem d_Writer_showName_19 : decode prog_10_method_2_code 19 = .ok (.ireturn, 1) := by decide +kernel
def fm_Writer_showName (a1 : Int) (w : fa_W) : Option (Int × fa_W) :=
  fa_let (fm_Row_clear 3 w) fun w2 =>
  (fm_Writer_putName a1 w2).bind fun w4 =>
  some (fm_Row_size 3 w4, w4)
set_option maxHeartbeats 4000000 in
set_option maxRecDepth 100000 in
theorem c_Writer_showName {l : Launch} {D : va_G} {b : Nat} {aC : Nat → ClassId} {H0 : Heap} {N T : Nat} (hN : fa_NX ≤ N) (hT : fa_TX ≤ T) (a1 : Int)  (w : fa_W) (r : Int × fa_W) (hM : fm_Writer_showName a1 w = some r) : fa_MC l D b aC H0 N T y_Writer_showName prog_10_method_2_code 2 ((Option.some Jvm.ClassFile.FieldType.int)) (2) [.ref (b + 37), .int (fa_I a1)] w (some (.int (fa_I r.1))) r.2 := by
  refine fa_enter (lv := [(0, .ref (b + 37)), (1, .int (fa_I a1))]) (by decide +kernel) (Nat.le_of_ble_eq_true rfl) rfl (fun hh hle hnm X => ?_)
  unfold fm_Writer_showName at hM
  refine g_aload_n X 0 rfl d_Writer_showName_0 ?_
  refine g_get X ck_9 fo_37 (fa_xn fo_37 (by decide) hN) 0 (by decide) wd_199 rfl (fr_37_0 rfl hT) d_Writer_showName_1 ?_
  obtain ⟨w2, e1⟩ : ∃ q, fm_Row_clear 3 w = q := ⟨_, rfl⟩
  have hM := fa_let_to hM e1.symm
  refine g_callV_v X ck_6 fo_3 (fa_xn fo_3 (by decide) hN) rfl mi_Row_clear (c_Row_clear 3 (fa_ro fo_3 hN hT) w _ e1) wd_683 rfl (Nat.le_trans (Nat.le_of_ble_eq_true rfl) hle) (st := []) (Nat.le_of_ble_eq_true rfl) rfl d_Writer_showName_4 ?_
  refine g_aload_n X 0 rfl d_Writer_showName_7 ?_
  refine g_iload_n X 1 rfl d_Writer_showName_8 ?_
  obtain ⟨w4, e3, hM⟩ := fa_ob hM
  refine g_callV_v X ck_9 fo_37 (fa_xn fo_37 (by decide) hN) rfl mi_Writer_putName (c_Writer_putName hN hT a1 w2 _ e3) wd_816 rfl (Nat.le_trans (Nat.le_of_ble_eq_true rfl) hle) (st := []) (Nat.le_of_ble_eq_true rfl) rfl d_Writer_showName_9 ?_
  refine g_aload_n X 0 rfl d_Writer_showName_12 ?_
  refine g_get X ck_9 fo_37 (fa_xn fo_37 (by decide) hN) 0 (by decide) wd_199 rfl (fr_37_0 rfl hT) d_Writer_showName_13 ?_
  refine g_callV_i X ck_6 fo_3 (fa_xn fo_3 (by decide) hN) rfl mi_Row_size (c_Row_size 3 (fa_ro fo_3 hN hT) w4 _ rfl) wd_686 rfl (Nat.le_trans (Nat.le_of_ble_eq_true rfl) hle) (st := []) (Nat.le_of_ble_eq_true rfl) rfl d_Writer_showName_16 ?_
  cases hM
  exact g_iret X d_Writer_showName_19
theorem d_Writer_putText_0 : decode prog_10_method_15_code 0 = .ok (.iconst 0, 1) := by decide +kernel
theorem d_Writer_putText_1 : decode prog_10_method_15_code 1 = .ok (.istore_n 2, 1) := by decide +kernel
theorem d_Writer_putText_2 : decode prog_10_method_15_code 2 = .ok (.iload_n 2, 1) := by decide +kernel
theorem d_Writer_putText_3 : decode prog_10_method_15_code 3 = .ok (.aload_n 1, 1) := by decide +kernel
theorem d_Writer_putText_4 : decode prog_10_method_15_code 4 = .ok (.invokevirtual 217, 3) := by decide +kernel
theorem d_Writer_putText_7 : decode prog_10_method_15_code 7 = .ok (.if_icmp .ge 21, 3) := by decide +kernel
theorem d_Writer_putText_10 : decode prog_10_method_15_code 10 = .ok (.aload_n 0, 1) := by decide +kernel
theorem d_Writer_putText_11 : decode prog_10_method_15_code 11 = .ok (.getfield 30, 3) := by decide +kernel
theorem d_Writer_putText_14 : decode prog_10_method_15_code 14 = .ok (.aload_n 1, 1) := by decide +kernel
theorem d_Writer_putText_15 : decode prog_10_method_15_code 15 = .ok (.iload_n 2, 1) := by decide +kernel
theorem d_Writer_putText_16 : decode prog_10_method_15_code 16 = .ok (.invokevirtual 222, 3) := by decide +kernel
theorem d_Writer_putText_19 : decode prog_10_method_15_code 19 = .ok (.invokevirtual 141, 3) := by decide +kernel
theorem d_Writer_putText_22 : decode prog_10_method_15_code 22 = .ok (.iinc 2 1, 3) := by decide +kernel
theorem d_Writer_putText_25 : decode prog_10_method_15_code 25 = .ok (.goto (-23), 3) := by decide +kernel
theorem d_Writer_putText_28 : decode prog_10_method_15_code 28 = .ok (.return_, 1) := by decide +kernel
def fm_Writer_putText_l2 (a1 : Fin 35) : Nat → Int → fa_W → Option fa_W
  | 0, _, _ => none
  | n + 1, x2, w => if fa_wr (fs_len a1) ≤ fa_wr x2 then
  some w
  else
  ((fa_ix x2 (fa_lens.getD (a1).val 0)).bind fun j2 =>
  fa_let (fr_add 3 (fs_ch a1 j2) w) fun w4 =>
  fa_let (x2 + 1) fun x2_5 =>
  fm_Writer_putText_l2 a1 n x2_5 w4)
set_option maxHeartbeats 4000000 in
set_option maxRecDepth 100000 in
theorem c_Writer_putText_l2 {p : Program} {l : Launch} {e : Env} {s : State} {m : MethodId} {args : Array Value} {below : List Frame} {meth : Method} {c : Code} {hh : Nat} {D : va_G} {b : Nat} {aC : Nat → ClassId} {H0 : Heap} {N T : Nat} (X : fa_GX p s m args meth c prog_10_method_15_code 3 ((Option.none : Option Jvm.ClassFile.FieldType)) y_Writer_putText.cls D b aC) (hle : 4 ≤ hh) (hN : fa_NX ≤ N) (hT : fa_TX ≤ T) (a1 : Fin 35) {r : fa_W}  : ∀ (n : Nat) (x2 : Int) (w : fa_W), fm_Writer_putText_l2 a1 n x2 w = some r → fa_GJ p l e (fa_rm hh) s m args below meth c 0 0 (MQ below (fa_Qc D b aC H0 N T (none) r) args s 0 0 (fun q => b ≤ q)) D b aC H0 N T 3 w 2 [(0, .ref (b + 37)), (1, .ref (D.2 100 (a1).val)), (2, .int (fa_I x2))] [] := by
  intro n
  induction n with
  | zero => intro x2 w hM; exact fa_no hM
  | succ n ih =>
    intro x2 w hM
    rw [fm_Writer_putText_l2] at hM
    refine g_iload_n X 2 rfl d_Writer_putText_2 ?_
    refine g_aload_n X 1 rfl d_Writer_putText_3 ?_
    refine g_callT X a1 rfl mi_String_length (c_String_length a1 w) wd_767 rfl (Nat.le_trans (Nat.le_of_ble_eq_true rfl) hle) (st := [.int (fa_I x2)]) (Nat.le_of_ble_eq_true rfl) rfl d_Writer_putText_4 ?_
    refine g_icmp_ge X 28 d_Writer_putText_7 (by decide) (fun hc1 => ?_) (fun hc1 => ?_)
    · have hM := fa_if_t hM hc1
      cases hM
      exact g_vret X d_Writer_putText_28
    · have hM := fa_if_f hM hc1
      refine g_aload_n X 0 rfl d_Writer_putText_10 ?_
      refine g_get X ck_9 fo_37 (fa_xn fo_37 (by decide) hN) 0 (by decide) wd_199 rfl (fr_37_0 rfl hT) d_Writer_putText_11 ?_
      refine g_aload_n X 1 rfl d_Writer_putText_14 ?_
      refine g_iload_n X 2 rfl d_Writer_putText_15 ?_
      obtain ⟨j2, ej2, hM⟩ := fa_ob hM
      refine g_callT X a1 rfl mi_String_charAt (c_String_charAt a1 x2 j2 ej2 w) wd_777 rfl (Nat.le_trans (Nat.le_of_ble_eq_true rfl) hle) (st := [.ref (b + 3)]) (Nat.le_of_ble_eq_true rfl) rfl d_Writer_putText_16 ?_
      obtain ⟨w4, e3⟩ : ∃ q, fr_add 3 (fs_ch a1 j2) w = q := ⟨_, rfl⟩
      have hM := fa_let_to hM e3.symm
      refine g_callV_v X ck_6 fo_3 (fa_xn fo_3 (by decide) hN) rfl mi_Row_add (ct_Row_add 3 (fs_ch a1 j2) (fa_ro fo_3 hN hT) w _ e3) wd_684 rfl (Nat.le_trans (Nat.le_of_ble_eq_true rfl) hle) (st := []) (Nat.le_of_ble_eq_true rfl) rfl d_Writer_putText_19 ?_
      refine g_iinc X 2 (fun x2_5 => [(2, .int (fa_I x2_5)), (0, .ref (b + 37)), (1, .ref (D.2 100 (a1).val))]) d_Writer_putText_22 rfl (by decide) (fun _ => rfl) (fun x2_5 ex2_5 => ?_)
      have hM := fa_let_to hM ex2_5
      refine g_goto X 2 d_Writer_putText_25 (by decide) ?_
      exact g_lv [1, 2, 0] rfl (ih _ _ hM)
def fm_Writer_putText (a1 : Fin 35) (w : fa_W) : Option fa_W :=
  fm_Writer_putText_l2 a1 fa_FU 0 w
set_option maxHeartbeats 4000000 in
set_option maxRecDepth 100000 in
theorem c_Writer_putText {l : Launch} {D : va_G} {b : Nat} {aC : Nat → ClassId} {H0 : Heap} {N T : Nat} (hN : fa_NX ≤ N) (hT : fa_TX ≤ T) (a1 : Fin 35)  (w : fa_W) (r : fa_W) (hM : fm_Writer_putText a1 w = some r) : fa_MC l D b aC H0 N T y_Writer_putText prog_10_method_15_code 3 ((Option.none : Option Jvm.ClassFile.FieldType)) (4) [.ref (b + 37), .ref (D.2 100 (a1).val)] w (none) r := by
  refine fa_enter (lv := [(0, .ref (b + 37)), (1, .ref (D.2 100 (a1).val))]) (by decide +kernel) (Nat.le_of_ble_eq_true rfl) rfl (fun hh hle hnm X => ?_)
  unfold fm_Writer_putText at hM
  refine g_iconst X d_Writer_putText_0 ?_
  refine g_istorec_n X [(2, .int (fa_I 0)), (0, .ref (b + 37)), (1, .ref (D.2 100 (a1).val))] d_Writer_putText_1 (by decide) rfl ?_
  exact g_lv [1, 2, 0] rfl (c_Writer_putText_l2 X hle hN hT a1   fa_FU _ _ hM)
theorem d_Writer_putNumber_0 : decode prog_10_method_17_code 0 = .ok (.iconst 0, 1) := by decide +kernel
theorem d_Writer_putNumber_1 : decode prog_10_method_17_code 1 = .ok (.istore_n 2, 1) := by decide +kernel
theorem d_Writer_putNumber_2 : decode prog_10_method_17_code 2 = .ok (.sipush 1000, 3) := by decide +kernel
theorem d_Writer_putNumber_5 : decode prog_10_method_17_code 5 = .ok (.istore_n 3, 1) := by decide +kernel
theorem d_Writer_putNumber_6 : decode prog_10_method_17_code 6 = .ok (.iload_n 3, 1) := by decide +kernel
theorem d_Writer_putNumber_7 : decode prog_10_method_17_code 7 = .ok (.ifCond .le 51, 3) := by decide +kernel
theorem d_Writer_putNumber_10 : decode prog_10_method_17_code 10 = .ok (.iload_n 2, 1) := by decide +kernel
theorem d_Writer_putNumber_11 : decode prog_10_method_17_code 11 = .ok (.ifCond .ne 13, 3) := by decide +kernel
theorem d_Writer_putNumber_14 : decode prog_10_method_17_code 14 = .ok (.iload_n 3, 1) := by decide +kernel
theorem d_Writer_putNumber_15 : decode prog_10_method_17_code 15 = .ok (.iconst 1, 1) := by decide +kernel
theorem d_Writer_putNumber_16 : decode prog_10_method_17_code 16 = .ok (.if_icmp .eq 8, 3) := by decide +kernel
theorem d_Writer_putNumber_19 : decode prog_10_method_17_code 19 = .ok (.iload_n 1, 1) := by decide +kernel
theorem d_Writer_putNumber_20 : decode prog_10_method_17_code 20 = .ok (.iload_n 3, 1) := by decide +kernel
theorem d_Writer_putNumber_21 : decode prog_10_method_17_code 21 = .ok (.if_icmp .lt 7, 3) := by decide +kernel
theorem d_Writer_putNumber_24 : decode prog_10_method_17_code 24 = .ok (.iconst 1, 1) := by decide +kernel
theorem d_Writer_putNumber_25 : decode prog_10_method_17_code 25 = .ok (.goto 4, 3) := by decide +kernel
theorem d_Writer_putNumber_28 : decode prog_10_method_17_code 28 = .ok (.iconst 0, 1) := by decide +kernel
theorem d_Writer_putNumber_29 : decode prog_10_method_17_code 29 = .ok (.istore_n 2, 1) := by decide +kernel
theorem d_Writer_putNumber_30 : decode prog_10_method_17_code 30 = .ok (.iload_n 2, 1) := by decide +kernel
theorem d_Writer_putNumber_31 : decode prog_10_method_17_code 31 = .ok (.ifCond .eq 19, 3) := by decide +kernel
theorem d_Writer_putNumber_34 : decode prog_10_method_17_code 34 = .ok (.aload_n 0, 1) := by decide +kernel
theorem d_Writer_putNumber_35 : decode prog_10_method_17_code 35 = .ok (.getfield 30, 3) := by decide +kernel
theorem d_Writer_putNumber_38 : decode prog_10_method_17_code 38 = .ok (.bipush 48, 2) := by decide +kernel
theorem d_Writer_putNumber_40 : decode prog_10_method_17_code 40 = .ok (.iload_n 1, 1) := by decide +kernel
theorem d_Writer_putNumber_41 : decode prog_10_method_17_code 41 = .ok (.iload_n 3, 1) := by decide +kernel
theorem d_Writer_putNumber_42 : decode prog_10_method_17_code 42 = .ok (.idiv, 1) := by decide +kernel
theorem d_Writer_putNumber_43 : decode prog_10_method_17_code 43 = .ok (.bipush 10, 2) := by decide +kernel
theorem d_Writer_putNumber_45 : decode prog_10_method_17_code 45 = .ok (.irem, 1) := by decide +kernel
theorem d_Writer_putNumber_46 : decode prog_10_method_17_code 46 = .ok (.iadd, 1) := by decide +kernel
theorem d_Writer_putNumber_47 : decode prog_10_method_17_code 47 = .ok (.invokevirtual 141, 3) := by decide +kernel
theorem d_Writer_putNumber_50 : decode prog_10_method_17_code 50 = .ok (.iload_n 3, 1) := by decide +kernel
theorem d_Writer_putNumber_51 : decode prog_10_method_17_code 51 = .ok (.bipush 10, 2) := by decide +kernel
theorem d_Writer_putNumber_53 : decode prog_10_method_17_code 53 = .ok (.idiv, 1) := by decide +kernel
theorem d_Writer_putNumber_54 : decode prog_10_method_17_code 54 = .ok (.istore_n 3, 1) := by decide +kernel
theorem d_Writer_putNumber_55 : decode prog_10_method_17_code 55 = .ok (.goto (-49), 3) := by decide +kernel
theorem d_Writer_putNumber_58 : decode prog_10_method_17_code 58 = .ok (.return_, 1) := by decide +kernel
def fm_Writer_putNumber_j50 (a1 : Int) (k6 : Bool → Int → fa_W → Option fa_W) (x2 : Bool) (x3 : Int) (w : fa_W) : Option fa_W :=
  fa_let (fa_idiv x3 10) fun x3_4 =>
  k6 x2 x3_4 w
set_option maxHeartbeats 4000000 in
set_option maxRecDepth 100000 in
theorem c_Writer_putNumber_j50 {p : Program} {l : Launch} {e : Env} {s : State} {m : MethodId} {args : Array Value} {below : List Frame} {meth : Method} {c : Code} {hh : Nat} {D : va_G} {b : Nat} {aC : Nat → ClassId} {H0 : Heap} {N T : Nat} (X : fa_GX p s m args meth c prog_10_method_17_code 4 ((Option.none : Option Jvm.ClassFile.FieldType)) y_Writer_putNumber.cls D b aC) (hle : 1 ≤ hh) (hN : fa_NX ≤ N) (hT : fa_TX ≤ T) (a1 : Int) {r : fa_W} (k6 : Bool → Int → fa_W → Option fa_W) (K6 : ∀ (x2 : Bool) (x3 : Int) (w : fa_W), k6 x2 x3 w = some r → fa_GJ p l e (fa_rm hh) s m args below meth c 0 0 (MQ below (fa_Qc D b aC H0 N T (none) r) args s 0 0 (fun q => b ≤ q)) D b aC H0 N T 4 w 6 [(0, .ref (b + 37)), (1, .int (fa_I a1)), (2, .int (fa_I (fa_bi x2))), (3, .int (fa_I x3))] []) : ∀ (x2 : Bool) (x3 : Int) (w : fa_W) (_ : fm_Writer_putNumber_j50 a1 k6 x2 x3 w = some r), fa_GJ p l e (fa_rm hh) s m args below meth c 0 0 (MQ below (fa_Qc D b aC H0 N T (none) r) args s 0 0 (fun q => b ≤ q)) D b aC H0 N T 4 w 50 [(0, .ref (b + 37)), (1, .int (fa_I a1)), (2, .int (fa_I (fa_bi x2))), (3, .int (fa_I x3))] [] := by
  intro x2 x3 w hM
  unfold fm_Writer_putNumber_j50 at hM
  refine g_iload_n X 3 rfl d_Writer_putNumber_50 ?_
  refine g_bipush X (by decide) d_Writer_putNumber_51 ?_
  refine g_idiv X (by decide) d_Writer_putNumber_53 ?_
  refine g_istore_n X (fun x3_4 => [(3, .int (fa_I x3_4)), (0, .ref (b + 37)), (1, .int (fa_I a1)), (2, .int (fa_I (fa_bi x2)))]) d_Writer_putNumber_54 (by decide) (fun _ => rfl) (fun x3_4 ex3_4 => ?_)
  have hM := fa_let_to hM ex3_4
  refine g_goto X 6 d_Writer_putNumber_55 (by decide) ?_
  exact g_lv [1, 2, 3, 0] rfl (K6 _ _ _ hM)
def fm_Writer_putNumber_j29 (a1 : Int) (k6 : Bool → Int → fa_W → Option fa_W) (x3 : Int) (s0 : Bool) (w : fa_W) : Option fa_W :=
  if s0 = true then
  (if fa_wr x3 = 0 then none else
  fa_let (fr_add 3 (48 + (fa_irem (fa_idiv a1 x3) 10)) w) fun w7 =>
  fm_Writer_putNumber_j50 a1 k6 s0 x3 w7)
  else
  fm_Writer_putNumber_j50 a1 k6 s0 x3 w
set_option maxHeartbeats 4000000 in
set_option maxRecDepth 100000 in
theorem c_Writer_putNumber_j29 {p : Program} {l : Launch} {e : Env} {s : State} {m : MethodId} {args : Array Value} {below : List Frame} {meth : Method} {c : Code} {hh : Nat} {D : va_G} {b : Nat} {aC : Nat → ClassId} {H0 : Heap} {N T : Nat} (X : fa_GX p s m args meth c prog_10_method_17_code 4 ((Option.none : Option Jvm.ClassFile.FieldType)) y_Writer_putNumber.cls D b aC) (hle : 1 ≤ hh) (hN : fa_NX ≤ N) (hT : fa_TX ≤ T) (a1 : Int) {r : fa_W} (k6 : Bool → Int → fa_W → Option fa_W) (K6 : ∀ (x2 : Bool) (x3 : Int) (w : fa_W), k6 x2 x3 w = some r → fa_GJ p l e (fa_rm hh) s m args below meth c 0 0 (MQ below (fa_Qc D b aC H0 N T (none) r) args s 0 0 (fun q => b ≤ q)) D b aC H0 N T 4 w 6 [(0, .ref (b + 37)), (1, .int (fa_I a1)), (2, .int (fa_I (fa_bi x2))), (3, .int (fa_I x3))] []) : ∀ (x3 : Int) (s0 : Bool) (w : fa_W) (_ : fm_Writer_putNumber_j29 a1 k6 x3 s0 w = some r), fa_GJ p l e (fa_rm hh) s m args below meth c 0 0 (MQ below (fa_Qc D b aC H0 N T (none) r) args s 0 0 (fun q => b ≤ q)) D b aC H0 N T 4 w 29 [(0, .ref (b + 37)), (1, .int (fa_I a1)), (3, .int (fa_I x3))] [.int (fa_I (fa_bi s0))] := by
  intro x3 s0 w hM
  unfold fm_Writer_putNumber_j29 at hM
  refine g_istorec_n X [(2, .int (fa_I (fa_bi s0))), (0, .ref (b + 37)), (1, .int (fa_I a1)), (3, .int (fa_I x3))] d_Writer_putNumber_29 (by decide) rfl ?_
  refine g_iload_n X 0 rfl d_Writer_putNumber_30 ?_
  refine g_ifb_eq X 50 d_Writer_putNumber_31 (by decide) (fun hc3 => ?_) (fun hc3 => ?_)
  · have hM := fa_ifb_f hM hc3
    exact g_lv [1, 2, 0, 3] rfl (c_Writer_putNumber_j50 X hle hN hT a1  k6 K6  _ _ _ hM)
  · have hM := fa_ifb_t hM hc3
    refine g_aload_n X 1 rfl d_Writer_putNumber_34 ?_
    refine g_get X ck_9 fo_37 (fa_xn fo_37 (by decide) hN) 0 (by decide) wd_199 rfl (fr_37_0 rfl hT) d_Writer_putNumber_35 ?_
    refine g_bipush X (by decide) d_Writer_putNumber_38 ?_
    refine g_iload_n X 2 rfl d_Writer_putNumber_40 ?_
    refine g_iload_n X 3 rfl d_Writer_putNumber_41 ?_
    obtain ⟨hz5, hM⟩ := fa_nz hM
    refine g_idiv X hz5 d_Writer_putNumber_42 ?_
    refine g_bipush X (by decide) d_Writer_putNumber_43 ?_
    refine g_irem X (by decide) d_Writer_putNumber_45 ?_
    refine g_iadd X d_Writer_putNumber_46 ?_
    obtain ⟨w7, e6⟩ : ∃ q, fr_add 3 (48 + (fa_irem (fa_idiv a1 x3) 10)) w = q := ⟨_, rfl⟩
    have hM := fa_let_to hM e6.symm
    refine g_callV_v X ck_6 fo_3 (fa_xn fo_3 (by decide) hN) rfl mi_Row_add (ct_Row_add 3 (48 + (fa_irem (fa_idiv a1 x3) 10)) (fa_ro fo_3 hN hT) w _ e6) wd_684 rfl (Nat.le_trans (Nat.le_of_ble_eq_true rfl) hle) (st := []) (Nat.le_of_ble_eq_true rfl) rfl d_Writer_putNumber_47 ?_
    exact g_lv [1, 2, 0, 3] rfl (c_Writer_putNumber_j50 X hle hN hT a1  k6 K6  _ _ _ hM)
def fm_Writer_putNumber_j24 (a1 : Int) (k6 : Bool → Int → fa_W → Option fa_W) (x3 : Int) (w : fa_W) : Option fa_W :=
  fm_Writer_putNumber_j29 a1 k6 x3 true w
set_option maxHeartbeats 4000000 in
set_option maxRecDepth 100000 in
theorem c_Writer_putNumber_j24 {p : Program} {l : Launch} {e : Env} {s : State} {m : MethodId} {args : Array Value} {below : List Frame} {meth : Method} {c : Code} {hh : Nat} {D : va_G} {b : Nat} {aC : Nat → ClassId} {H0 : Heap} {N T : Nat} (X : fa_GX p s m args meth c prog_10_method_17_code 4 ((Option.none : Option Jvm.ClassFile.FieldType)) y_Writer_putNumber.cls D b aC) (hle : 1 ≤ hh) (hN : fa_NX ≤ N) (hT : fa_TX ≤ T) (a1 : Int) {r : fa_W} (k6 : Bool → Int → fa_W → Option fa_W) (K6 : ∀ (x2 : Bool) (x3 : Int) (w : fa_W), k6 x2 x3 w = some r → fa_GJ p l e (fa_rm hh) s m args below meth c 0 0 (MQ below (fa_Qc D b aC H0 N T (none) r) args s 0 0 (fun q => b ≤ q)) D b aC H0 N T 4 w 6 [(0, .ref (b + 37)), (1, .int (fa_I a1)), (2, .int (fa_I (fa_bi x2))), (3, .int (fa_I x3))] []) : ∀ (x3 : Int) (w : fa_W) (_ : fm_Writer_putNumber_j24 a1 k6 x3 w = some r), fa_GJ p l e (fa_rm hh) s m args below meth c 0 0 (MQ below (fa_Qc D b aC H0 N T (none) r) args s 0 0 (fun q => b ≤ q)) D b aC H0 N T 4 w 24 [(0, .ref (b + 37)), (1, .int (fa_I a1)), (3, .int (fa_I x3))] [] := by
  intro x3 w hM
  unfold fm_Writer_putNumber_j24 at hM
  refine g_iconst X d_Writer_putNumber_24 ?_
  refine g_goto X 29 d_Writer_putNumber_25 (by decide) ?_
  exact g_lv [0, 1, 2] rfl (c_Writer_putNumber_j29 X hle hN hT a1  k6 K6  _ _ _ hM)
def fm_Writer_putNumber_l6 (a1 : Int) : Nat → Bool → Int → fa_W → Option fa_W
  | 0, _, _, _ => none
  | n + 1, x2, x3, w => if fa_wr x3 ≤ 0 then
  some w
  else
  (if x2 = true then
  fm_Writer_putNumber_j24 a1 (fun x2 x3 w9 => fm_Writer_putNumber_l6 a1 n x2 x3 w9) x3 w
  else
  (if fa_wr x3 = 1 then
  fm_Writer_putNumber_j24 a1 (fun x2 x3 w9 => fm_Writer_putNumber_l6 a1 n x2 x3 w9) x3 w
  else
  (if fa_wr a1 < fa_wr x3 then
  fm_Writer_putNumber_j29 a1 (fun x2 x3 w9 => fm_Writer_putNumber_l6 a1 n x2 x3 w9) x3 false w
  else
  fm_Writer_putNumber_j24 a1 (fun x2 x3 w9 => fm_Writer_putNumber_l6 a1 n x2 x3 w9) x3 w)))
set_option maxHeartbeats 4000000 in
set_option maxRecDepth 100000 in
theorem c_Writer_putNumber_l6 {p : Program} {l : Launch} {e : Env} {s : State} {m : MethodId} {args : Array Value} {below : List Frame} {meth : Method} {c : Code} {hh : Nat} {D : va_G} {b : Nat} {aC : Nat → ClassId} {H0 : Heap} {N T : Nat} (X : fa_GX p s m args meth c prog_10_method_17_code 4 ((Option.none : Option Jvm.ClassFile.FieldType)) y_Writer_putNumber.cls D b aC) (hle : 1 ≤ hh) (hN : fa_NX ≤ N) (hT : fa_TX ≤ T) (a1 : Int) {r : fa_W}  : ∀ (n : Nat) (x2 : Bool) (x3 : Int) (w : fa_W), fm_Writer_putNumber_l6 a1 n x2 x3 w = some r → fa_GJ p l e (fa_rm hh) s m args below meth c 0 0 (MQ below (fa_Qc D b aC H0 N T (none) r) args s 0 0 (fun q => b ≤ q)) D b aC H0 N T 4 w 6 [(0, .ref (b + 37)), (1, .int (fa_I a1)), (2, .int (fa_I (fa_bi x2))), (3, .int (fa_I x3))] [] := by
  intro n
  induction n with
  | zero => intro x2 x3 w hM; exact fa_no hM
  | succ n ih =>
    intro x2 x3 w hM
    rw [fm_Writer_putNumber_l6] at hM
    refine g_iload_n X 3 rfl d_Writer_putNumber_6 ?_
    refine g_if_le X 58 d_Writer_putNumber_7 (by decide) (fun hc1 => ?_) (fun hc1 => ?_)
    · have hM := fa_if_t hM hc1
      cases hM
      exact g_vret X d_Writer_putNumber_58
    · have hM := fa_if_f hM hc1
      refine g_iload_n X 2 rfl d_Writer_putNumber_10 ?_
      refine g_ifb_ne X 24 d_Writer_putNumber_11 (by decide) (fun hc2 => ?_) (fun hc2 => ?_)
      · have hM := fa_ifb_t hM hc2
        exact g_lv [0, 1, 3] rfl (c_Writer_putNumber_j24 X hle hN hT a1  (fun x2 x3 w9 => fm_Writer_putNumber_l6 a1 n x2 x3 w9) (fun _ _ _ h => ih _ _ _ h)  _ _ hM)
      · have hM := fa_ifb_f hM hc2
        refine g_iload_n X 3 rfl d_Writer_putNumber_14 ?_
        refine g_iconst X d_Writer_putNumber_15 ?_
        refine g_icmp_eq X 24 d_Writer_putNumber_16 (by decide) (fun hc8 => ?_) (fun hc8 => ?_)
        · have hM := fa_if_t hM hc8
          exact g_lv [0, 1, 3] rfl (c_Writer_putNumber_j24 X hle hN hT a1  (fun x2 x3 w9 => fm_Writer_putNumber_l6 a1 n x2 x3 w9) (fun _ _ _ h => ih _ _ _ h)  _ _ hM)
        · have hM := fa_if_f hM hc8
          refine g_iload_n X 1 rfl d_Writer_putNumber_19 ?_
          refine g_iload_n X 3 rfl d_Writer_putNumber_20 ?_
          refine g_icmp_lt X 28 d_Writer_putNumber_21 (by decide) (fun hc9 => ?_) (fun hc9 => ?_)
          · have hM := fa_if_t hM hc9
            refine g_iconst X d_Writer_putNumber_28 ?_
            exact g_lv [0, 1, 3] rfl (c_Writer_putNumber_j29 X hle hN hT a1  (fun x2 x3 w9 => fm_Writer_putNumber_l6 a1 n x2 x3 w9) (fun _ _ _ h => ih _ _ _ h)  _ _ _ hM)
          · have hM := fa_if_f hM hc9
            exact g_lv [0, 1, 3] rfl (c_Writer_putNumber_j24 X hle hN hT a1  (fun x2 x3 w9 => fm_Writer_putNumber_l6 a1 n x2 x3 w9) (fun _ _ _ h => ih _ _ _ h)  _ _ hM)
def fm_Writer_putNumber (a1 : Int) (w : fa_W) : Option fa_W :=
  fm_Writer_putNumber_l6 a1 fa_FU false 1000 w
set_option maxHeartbeats 4000000 in
set_option maxRecDepth 100000 in
theorem c_Writer_putNumber {l : Launch} {D : va_G} {b : Nat} {aC : Nat → ClassId} {H0 : Heap} {N T : Nat} (hN : fa_NX ≤ N) (hT : fa_TX ≤ T) (a1 : Int)  (w : fa_W) (r : fa_W) (hM : fm_Writer_putNumber a1 w = some r) : fa_MC l D b aC H0 N T y_Writer_putNumber prog_10_method_17_code 4 ((Option.none : Option Jvm.ClassFile.FieldType)) (1) [.ref (b + 37), .int (fa_I a1)] w (none) r := by
  refine fa_enter (lv := [(0, .ref (b + 37)), (1, .int (fa_I a1))]) (by decide +kernel) (Nat.le_of_ble_eq_true rfl) rfl (fun hh hle hnm X => ?_)
  unfold fm_Writer_putNumber at hM
  refine g_iconst X d_Writer_putNumber_0 ?_
  refine g_istorec_n X [(2, .int (fa_I 0)), (0, .ref (b + 37)), (1, .int (fa_I a1))] d_Writer_putNumber_1 (by decide) rfl ?_
  refine g_sipush X (by decide) d_Writer_putNumber_2 ?_
  refine g_istorec_n X [(3, .int (fa_I 1000)), (2, .int (fa_I 0)), (0, .ref (b + 37)), (1, .int (fa_I a1))] d_Writer_putNumber_5 (by decide) rfl ?_
  exact g_lv [2, 3, 1, 0] rfl (c_Writer_putNumber_l6 X hle hN hT a1   fa_FU _ _ _ hM)
theorem d_Writer_putData_0 : decode prog_10_method_10_code 0 = .ok (.aload_n 0, 1) := by decide +kernel
theorem d_Writer_putData_1 : decode prog_10_method_10_code 1 = .ok (.ldc 188, 2) := by decide +kernel
theorem d_Writer_putData_3 : decode prog_10_method_10_code 3 = .ok (.invokevirtual 56, 3) := by decide +kernel
theorem d_Writer_putData_6 : decode prog_10_method_10_code 6 = .ok (.aload_n 0, 1) := by decide +kernel
theorem d_Writer_putData_7 : decode prog_10_method_10_code 7 = .ok (.iload_n 2, 1) := by decide +kernel
theorem d_Writer_putData_8 : decode prog_10_method_10_code 8 = .ok (.invokevirtual 130, 3) := by decide +kernel
theorem d_Writer_putData_11 : decode prog_10_method_10_code 11 = .ok (.aload_n 0, 1) := by decide +kernel
theorem d_Writer_putData_12 : decode prog_10_method_10_code 12 = .ok (.ldc 190, 2) := by decide +kernel
theorem d_Writer_putData_14 : decode prog_10_method_10_code 14 = .ok (.invokevirtual 56, 3) := by decide +kernel
theorem d_Writer_putData_17 : decode prog_10_method_10_code 17 = .ok (.aload_n 1, 1) := by decide +kernel
theorem d_Writer_putData_18 : decode prog_10_method_10_code 18 = .ok (.iload_n 2, 1) := by decide +kernel
theorem d_Writer_putData_19 : decode prog_10_method_10_code 19 = .ok (.aload_n 0, 1) := by decide +kernel
theorem d_Writer_putData_20 : decode prog_10_method_10_code 20 = .ok (.getfield 23, 3) := by decide +kernel
theorem d_Writer_putData_23 : decode prog_10_method_10_code 23 = .ok (.invokevirtual 192, 3) := by decide +kernel
theorem d_Writer_putData_26 : decode prog_10_method_10_code 26 = .ok (.iconst 0, 1) := by decide +kernel
theorem d_Writer_putData_27 : decode prog_10_method_10_code 27 = .ok (.istore_n 3, 1) := by decide +kernel
theorem d_Writer_putData_28 : decode prog_10_method_10_code 28 = .ok (.iload_n 3, 1) := by decide +kernel
theorem d_Writer_putData_29 : decode prog_10_method_10_code 29 = .ok (.aload_n 0, 1) := by decide +kernel
theorem d_Writer_putData_30 : decode prog_10_method_10_code 30 = .ok (.getfield 23, 3) := by decide +kernel
theorem d_Writer_putData_33 : decode prog_10_method_10_code 33 = .ok (.invokevirtual 39, 3) := by decide +kernel
theorem d_Writer_putData_36 : decode prog_10_method_10_code 36 = .ok (.if_icmp .ge 43, 3) := by decide +kernel
theorem d_Writer_putData_39 : decode prog_10_method_10_code 39 = .ok (.aload_n 0, 1) := by decide +kernel
theorem d_Writer_putData_40 : decode prog_10_method_10_code 40 = .ok (.iload_n 3, 1) := by decide +kernel
theorem d_Writer_putData_41 : decode prog_10_method_10_code 41 = .ok (.ifCond .ne 8, 3) := by decide +kernel
theorem d_Writer_putData_44 : decode prog_10_method_10_code 44 = .ok (.ldc 122, 2) := by decide +kernel
theorem d_Writer_putData_46 : decode prog_10_method_10_code 46 = .ok (.goto 5, 3) := by decide +kernel
theorem d_Writer_putData_49 : decode prog_10_method_10_code 49 = .ok (.ldc 196, 2) := by decide +kernel
theorem d_Writer_putData_51 : decode prog_10_method_10_code 51 = .ok (.invokevirtual 56, 3) := by decide +kernel
theorem d_Writer_putData_54 : decode prog_10_method_10_code 54 = .ok (.aload_n 0, 1) := by decide +kernel
theorem d_Writer_putData_55 : decode prog_10_method_10_code 55 = .ok (.aload_n 1, 1) := by decide +kernel
theorem d_Writer_putData_56 : decode prog_10_method_10_code 56 = .ok (.getfield 69, 3) := by decide +kernel
theorem d_Writer_putData_59 : decode prog_10_method_10_code 59 = .ok (.aload_n 0, 1) := by decide +kernel
theorem d_Writer_putData_60 : decode prog_10_method_10_code 60 = .ok (.getfield 23, 3) := by decide +kernel
theorem d_Writer_putData_63 : decode prog_10_method_10_code 63 = .ok (.iload_n 3, 1) := by decide +kernel
theorem d_Writer_putData_64 : decode prog_10_method_10_code 64 = .ok (.invokevirtual 63, 3) := by decide +kernel
theorem d_Writer_putData_67 : decode prog_10_method_10_code 67 = .ok (.invokevirtual 63, 3) := by decide +kernel
theorem d_Writer_putData_70 : decode prog_10_method_10_code 70 = .ok (.invokevirtual 36, 3) := by decide +kernel
theorem d_Writer_putData_73 : decode prog_10_method_10_code 73 = .ok (.iinc 3 1, 3) := by decide +kernel
theorem d_Writer_putData_76 : decode prog_10_method_10_code 76 = .ok (.goto (-48), 3) := by decide +kernel
theorem d_Writer_putData_79 : decode prog_10_method_10_code 79 = .ok (.aload_n 0, 1) := by decide +kernel
theorem d_Writer_putData_80 : decode prog_10_method_10_code 80 = .ok (.ldc 186, 2) := by decide +kernel
theorem d_Writer_putData_82 : decode prog_10_method_10_code 82 = .ok (.invokevirtual 56, 3) := by decide +kernel
theorem d_Writer_putData_85 : decode prog_10_method_10_code 85 = .ok (.return_, 1) := by decide +kernel
def fm_Writer_putData_j51 (a1 : Nat) (a2 : Int) (k28 : Int → fa_W → Option fa_W) (x3 : Int) (s0 : Fin 35) (w : fa_W) : Option fa_W :=
  (fm_Writer_putText s0 w).bind fun w15 =>
  (fm_Writer_putName (fr_at (fa_rf a1 6) (fr_at 42 x3 w15) w15) w15).bind fun w19 =>
  fa_let (x3 + 1) fun x3_20 =>
  k28 x3_20 w19
set_option maxHeartbeats 4000000 in
set_option maxRecDepth 100000 in
theorem c_Writer_putData_j51 {p : Program} {l : Launch} {e : Env} {s : State} {m : MethodId} {args : Array Value} {below : List Frame} {meth : Method} {c : Code} {hh : Nat} {D : va_G} {b : Nat} {aC : Nat → ClassId} {H0 : Heap} {N T : Nat} (X : fa_GX p s m args meth c prog_10_method_10_code 4 ((Option.none : Option Jvm.ClassFile.FieldType)) y_Writer_putData.cls D b aC) (hle : 5 ≤ hh) (hN : fa_NX ≤ N) (hT : fa_TX ≤ T) (a1 : Nat) (a2 : Int) (ha1 : (fa_sh a1).1 = 4) {r : fa_W} (k28 : Int → fa_W → Option fa_W) (K28 : ∀ (x3 : Int) (w : fa_W), k28 x3 w = some r → fa_GJ p l e (fa_rm hh) s m args below meth c 0 0 (MQ below (fa_Qc D b aC H0 N T (none) r) args s 0 0 (fun q => b ≤ q)) D b aC H0 N T 4 w 28 [(0, .ref (b + 37)), (1, .ref (b + a1)), (3, .int (fa_I x3))] []) : ∀ (x3 : Int) (s0 : Fin 35) (w : fa_W) (_ : fm_Writer_putData_j51 a1 a2 k28 x3 s0 w = some r), fa_GJ p l e (fa_rm hh) s m args below meth c 0 0 (MQ below (fa_Qc D b aC H0 N T (none) r) args s 0 0 (fun q => b ≤ q)) D b aC H0 N T 4 w 51 [(0, .ref (b + 37)), (1, .ref (b + a1)), (3, .int (fa_I x3))] [.ref (D.2 100 (s0).val), .ref (b + 37)] := by
  intro x3 s0 w hM
  unfold fm_Writer_putData_j51 at hM
  obtain ⟨w15, e14, hM⟩ := fa_ob hM
  refine g_callV_v X ck_9 fo_37 (fa_xn fo_37 (by decide) hN) rfl mi_Writer_putText (c_Writer_putText hN hT s0 w _ e14) wd_763 rfl (Nat.le_trans (Nat.le_of_ble_eq_true rfl) hle) (st := []) (Nat.le_of_ble_eq_true rfl) rfl d_Writer_putData_51 ?_
  refine g_aload_n X 0 rfl d_Writer_putData_54 ?_
  refine g_aload_n X 1 rfl d_Writer_putData_55 ?_
  refine g_getN X ck_4 ha1 (fa_xn ha1 (by decide) hN) 6 (by decide) wd_75 rfl (fa_fvR rfl (fa_xt ha1 (by decide) hT 6)) d_Writer_putData_56 ?_
  refine g_aload_n X 0 rfl d_Writer_putData_59 ?_
  refine g_get X ck_9 fo_37 (fa_xn fo_37 (by decide) hN) 3 (by decide) wd_202 rfl (fr_37_3 rfl hT) d_Writer_putData_60 ?_
  refine g_iload_n X 2 rfl d_Writer_putData_63 ?_
  refine g_callV_i X ck_6 fo_42 (fa_xn fo_42 (by decide) hN) rfl mi_Row_at (ct_Row_at 42 x3 (fa_ro fo_42 hN hT) w15 _ rfl) wd_815 rfl (Nat.le_trans (Nat.le_of_ble_eq_true rfl) hle) (st := [.ref (b + (fa_rf a1 6)), .ref (b + 37)]) (Nat.le_of_ble_eq_true rfl) rfl d_Writer_putData_64 ?_
  refine g_callV_i X ck_6 (fa_r4_6 _ ha1) (fa_xn (fa_r4_6 _ ha1) (by decide) hN) rfl mi_Row_at (ct_Row_at (fa_rf a1 6) (fr_at 42 x3 w15) (fa_ro (fa_r4_6 _ ha1) hN hT) w15 _ rfl) wd_815 rfl (Nat.le_trans (Nat.le_of_ble_eq_true rfl) hle) (st := [.ref (b + 37)]) (Nat.le_of_ble_eq_true rfl) rfl d_Writer_putData_67 ?_
  obtain ⟨w19, e18, hM⟩ := fa_ob hM
  refine g_callV_v X ck_9 fo_37 (fa_xn fo_37 (by decide) hN) rfl mi_Writer_putName (c_Writer_putName hN hT (fr_at (fa_rf a1 6) (fr_at 42 x3 w15) w15) w15 _ e18) wd_816 rfl (Nat.le_trans (Nat.le_of_ble_eq_true rfl) hle) (st := []) (Nat.le_of_ble_eq_true rfl) rfl d_Writer_putData_70 ?_
  refine g_iinc X 2 (fun x3_20 => [(3, .int (fa_I x3_20)), (0, .ref (b + 37)), (1, .ref (b + a1))]) d_Writer_putData_73 rfl (by decide) (fun _ => rfl) (fun x3_20 ex3_20 => ?_)
  have hM := fa_let_to hM ex3_20
  refine g_goto X 28 d_Writer_putData_76 (by decide) ?_
  exact g_lv [1, 2, 0] rfl (K28 _ _ hM)
def fm_Writer_putData_l28 (a1 : Nat) (a2 : Int) : Nat → Int → fa_W → Option fa_W
  | 0, _, _ => none
  | n + 1, x3, w => if fa_wr (fm_Row_size 42 w) ≤ fa_wr x3 then
  ((fm_Writer_putText (12 : Fin 35) w).bind fun w12 =>
  some w12)
  else
  (if fa_wr x3 = 0 then
  fm_Writer_putData_j51 a1 a2 (fun x3 w9 => fm_Writer_putData_l28 a1 a2 n x3 w9) x3 (4 : Fin 35) w
  else
  fm_Writer_putData_j51 a1 a2 (fun x3 w9 => fm_Writer_putData_l28 a1 a2 n x3 w9) x3 (15 : Fin 35) w)
set_option maxHeartbeats 4000000 in
set_option maxRecDepth 100000 in
theorem c_Writer_putData_l28 {p : Program} {l : Launch} {e : Env} {s : State} {m : MethodId} {args : Array Value} {below : List Frame} {meth : Method} {c : Code} {hh : Nat} {D : va_G} {b : Nat} {aC : Nat → ClassId} {H0 : Heap} {N T : Nat} (X : fa_GX p s m args meth c prog_10_method_10_code 4 ((Option.none : Option Jvm.ClassFile.FieldType)) y_Writer_putData.cls D b aC) (hle : 5 ≤ hh) (hN : fa_NX ≤ N) (hT : fa_TX ≤ T) (a1 : Nat) (a2 : Int) (ha1 : (fa_sh a1).1 = 4) {r : fa_W}  : ∀ (n : Nat) (x3 : Int) (w : fa_W), fm_Writer_putData_l28 a1 a2 n x3 w = some r → fa_GJ p l e (fa_rm hh) s m args below meth c 0 0 (MQ below (fa_Qc D b aC H0 N T (none) r) args s 0 0 (fun q => b ≤ q)) D b aC H0 N T 4 w 28 [(0, .ref (b + 37)), (1, .ref (b + a1)), (3, .int (fa_I x3))] [] := by
  intro n
  induction n with
  | zero => intro x3 w hM; exact fa_no hM
  | succ n ih =>
    intro x3 w hM
    rw [fm_Writer_putData_l28] at hM
    refine g_iload_n X 2 rfl d_Writer_putData_28 ?_
    refine g_aload_n X 0 rfl d_Writer_putData_29 ?_
    refine g_get X ck_9 fo_37 (fa_xn fo_37 (by decide) hN) 3 (by decide) wd_202 rfl (fr_37_3 rfl hT) d_Writer_putData_30 ?_
    refine g_callV_i X ck_6 fo_42 (fa_xn fo_42 (by decide) hN) rfl mi_Row_size (c_Row_size 42 (fa_ro fo_42 hN hT) w _ rfl) wd_686 rfl (Nat.le_trans (Nat.le_of_ble_eq_true rfl) hle) (st := [.int (fa_I x3)]) (Nat.le_of_ble_eq_true rfl) rfl d_Writer_putData_33 ?_
    refine g_icmp_ge X 79 d_Writer_putData_36 (by decide) (fun hc10 => ?_) (fun hc10 => ?_)
    · have hM := fa_if_t hM hc10
      refine g_aload_n X 0 rfl d_Writer_putData_79 ?_
      refine g_ldcs X (12 : Fin 35) (List.mem_of_getElem? (i := 12) rfl) d_Writer_putData_80 ?_
      obtain ⟨w12, e11, hM⟩ := fa_ob hM
      refine g_callV_v X ck_9 fo_37 (fa_xn fo_37 (by decide) hN) rfl mi_Writer_putText (c_Writer_putText hN hT (12 : Fin 35) w _ e11) wd_763 rfl (Nat.le_trans (Nat.le_of_ble_eq_true rfl) hle) (st := []) (Nat.le_of_ble_eq_true rfl) rfl d_Writer_putData_82 ?_
      cases hM
      exact g_vret X d_Writer_putData_85
    · have hM := fa_if_f hM hc10
      refine g_aload_n X 0 rfl d_Writer_putData_39 ?_
      refine g_iload_n X 2 rfl d_Writer_putData_40 ?_
      refine g_if_ne X 49 d_Writer_putData_41 (by decide) (fun hc13 => ?_) (fun hc13 => ?_)
      · have hM := fa_if_f hM hc13
        refine g_ldcs X (15 : Fin 35) (List.mem_of_getElem? (i := 15) rfl) d_Writer_putData_49 ?_
        exact g_lv [0, 1, 2] rfl (c_Writer_putData_j51 X hle hN hT a1 a2 ha1  (fun x3 w9 => fm_Writer_putData_l28 a1 a2 n x3 w9) (fun _ _ h => ih _ _ h)  _ _ _ hM)
      · have hM := fa_if_t hM hc13
        refine g_ldcs X (4 : Fin 35) (List.mem_of_getElem? (i := 4) rfl) d_Writer_putData_44 ?_
        refine g_goto X 51 d_Writer_putData_46 (by decide) ?_
        exact g_lv [0, 1, 2] rfl (c_Writer_putData_j51 X hle hN hT a1 a2 ha1  (fun x3 w9 => fm_Writer_putData_l28 a1 a2 n x3 w9) (fun _ _ h => ih _ _ h)  _ _ _ hM)
def fm_Writer_putData (a1 : Nat) (a2 : Int) (w : fa_W) : Option fa_W :=
  (fm_Writer_putText (13 : Fin 35) w).bind fun w2 =>
  (fm_Writer_putNumber a2 w2).bind fun w4 =>
  (fm_Writer_putText (14 : Fin 35) w4).bind fun w6 =>
  (fm_Program_listFields a1 a2 42 w6).bind fun w8 =>
  fm_Writer_putData_l28 a1 a2 fa_FU 0 w8
set_option maxHeartbeats 4000000 in
set_option maxRecDepth 100000 in
theorem c_Writer_putData {l : Launch} {D : va_G} {b : Nat} {aC : Nat → ClassId} {H0 : Heap} {N T : Nat} (hN : fa_NX ≤ N) (hT : fa_TX ≤ T) (a1 : Nat) (a2 : Int) (ha1 : (fa_sh a1).1 = 4)  (w : fa_W) (r : fa_W) (hM : fm_Writer_putData a1 a2 w = some r) : fa_MC l D b aC H0 N T y_Writer_putData prog_10_method_10_code 4 ((Option.none : Option Jvm.ClassFile.FieldType)) (5) [.ref (b + 37), .ref (b + a1), .int (fa_I a2)] w (none) r := by
  refine fa_enter (lv := [(0, .ref (b + 37)), (1, .ref (b + a1)), (2, .int (fa_I a2))]) (by decide +kernel) (Nat.le_of_ble_eq_true rfl) rfl (fun hh hle hnm X => ?_)
  unfold fm_Writer_putData at hM
  refine g_aload_n X 0 rfl d_Writer_putData_0 ?_
  refine g_ldcs X (13 : Fin 35) (List.mem_of_getElem? (i := 13) rfl) d_Writer_putData_1 ?_
  obtain ⟨w2, e1, hM⟩ := fa_ob hM
  refine g_callV_v X ck_9 fo_37 (fa_xn fo_37 (by decide) hN) rfl mi_Writer_putText (c_Writer_putText hN hT (13 : Fin 35) w _ e1) wd_763 rfl (Nat.le_trans (Nat.le_of_ble_eq_true rfl) hle) (st := []) (Nat.le_of_ble_eq_true rfl) rfl d_Writer_putData_3 ?_
  refine g_aload_n X 0 rfl d_Writer_putData_6 ?_
  refine g_iload_n X 2 rfl d_Writer_putData_7 ?_
  obtain ⟨w4, e3, hM⟩ := fa_ob hM
  refine g_callV_v X ck_9 fo_37 (fa_xn fo_37 (by decide) hN) rfl mi_Writer_putNumber (c_Writer_putNumber hN hT a2 w2 _ e3) wd_832 rfl (Nat.le_trans (Nat.le_of_ble_eq_true rfl) hle) (st := []) (Nat.le_of_ble_eq_true rfl) rfl d_Writer_putData_8 ?_
  refine g_aload_n X 0 rfl d_Writer_putData_11 ?_
  refine g_ldcs X (14 : Fin 35) (List.mem_of_getElem? (i := 14) rfl) d_Writer_putData_12 ?_
  obtain ⟨w6, e5, hM⟩ := fa_ob hM
  refine g_callV_v X ck_9 fo_37 (fa_xn fo_37 (by decide) hN) rfl mi_Writer_putText (c_Writer_putText hN hT (14 : Fin 35) w4 _ e5) wd_763 rfl (Nat.le_trans (Nat.le_of_ble_eq_true rfl) hle) (st := []) (Nat.le_of_ble_eq_true rfl) rfl d_Writer_putData_14 ?_
  refine g_aload_n X 1 rfl d_Writer_putData_17 ?_
  refine g_iload_n X 2 rfl d_Writer_putData_18 ?_
  refine g_aload_n X 0 rfl d_Writer_putData_19 ?_
  refine g_get X ck_9 fo_37 (fa_xn fo_37 (by decide) hN) 3 (by decide) wd_202 rfl (fr_37_3 rfl hT) d_Writer_putData_20 ?_
  obtain ⟨w8, e7, hM⟩ := fa_ob hM
  refine g_callV_v X ck_4 ha1 (fa_xn ha1 (by decide) hN) rfl mi_Program_listFields (c_Program_listFields hN hT a1 a2 42 ha1 fo_42 w6 _ e7) wd_842 rfl (Nat.le_trans (Nat.le_of_ble_eq_true rfl) hle) (st := []) (Nat.le_of_ble_eq_true rfl) rfl d_Writer_putData_23 ?_
  refine g_iconst X d_Writer_putData_26 ?_
  refine g_istorec_n X [(3, .int (fa_I 0)), (0, .ref (b + 37)), (1, .ref (b + a1)), (2, .int (fa_I a2))] d_Writer_putData_27 (by decide) rfl ?_
  exact g_lv [1, 2, 0] rfl (c_Writer_putData_l28 X hle hN hT a1 a2 ha1   fa_FU _ _ hM)
theorem d_Writer_putLambda_0 : decode prog_10_method_9_code 0 = .ok (.iload_n 3, 1) := by decide +kernel
theorem d_Writer_putLambda_1 : decode prog_10_method_9_code 1 = .ok (.ifCond .ne 30, 3) := by decide +kernel
theorem d_Writer_putLambda_4 : decode prog_10_method_9_code 4 = .ok (.aload_n 0, 1) := by decide +kernel
theorem d_Writer_putLambda_5 : decode prog_10_method_9_code 5 = .ok (.ldc 184, 2) := by decide +kernel
theorem d_Writer_putLambda_7 : decode prog_10_method_9_code 7 = .ok (.invokevirtual 56, 3) := by decide +kernel
theorem d_Writer_putLambda_10 : decode prog_10_method_9_code 10 = .ok (.aload_n 0, 1) := by decide +kernel
theorem d_Writer_putLambda_11 : decode prog_10_method_9_code 11 = .ok (.aload_n 1, 1) := by decide +kernel
theorem d_Writer_putLambda_12 : decode prog_10_method_9_code 12 = .ok (.getfield 69, 3) := by decide +kernel
theorem d_Writer_putLambda_15 : decode prog_10_method_9_code 15 = .ok (.iload_n 2, 1) := by decide +kernel
theorem d_Writer_putLambda_16 : decode prog_10_method_9_code 16 = .ok (.invokevirtual 63, 3) := by decide +kernel
theorem d_Writer_putLambda_19 : decode prog_10_method_9_code 19 = .ok (.invokevirtual 36, 3) := by decide +kernel
theorem d_Writer_putLambda_22 : decode prog_10_method_9_code 22 = .ok (.aload_n 0, 1) := by decide +kernel
theorem d_Writer_putLambda_23 : decode prog_10_method_9_code 23 = .ok (.ldc 139, 2) := by decide +kernel
theorem d_Writer_putLambda_25 : decode prog_10_method_9_code 25 = .ok (.invokevirtual 56, 3) := by decide +kernel
theorem d_Writer_putLambda_28 : decode prog_10_method_9_code 28 = .ok (.goto 9, 3) := by decide +kernel
theorem d_Writer_putLambda_31 : decode prog_10_method_9_code 31 = .ok (.aload_n 0, 1) := by decide +kernel
theorem d_Writer_putLambda_32 : decode prog_10_method_9_code 32 = .ok (.ldc 186, 2) := by decide +kernel
theorem d_Writer_putLambda_34 : decode prog_10_method_9_code 34 = .ok (.invokevirtual 56, 3) := by decide +kernel
theorem d_Writer_putLambda_37 : decode prog_10_method_9_code 37 = .ok (.return_, 1) := by decide +kernel
def fm_Writer_putLambda (a1 : Nat) (a2 : Int) (a3 : Int) (w : fa_W) : Option fa_W :=
  if fa_wr a3 = 0 then
  ((fm_Writer_putText (11 : Fin 35) w).bind fun w5 =>
  (fm_Writer_putName (fr_at (fa_rf a1 6) a2 w5) w5).bind fun w8 =>
  (fm_Writer_putText (9 : Fin 35) w8).bind fun w10 =>
  some w10)
  else
  ((fm_Writer_putText (12 : Fin 35) w).bind fun w3 =>
  some w3)
set_option maxHeartbeats 4000000 in
set_option maxRecDepth 100000 in
theorem c_Writer_putLambda {l : Launch} {D : va_G} {b : Nat} {aC : Nat → ClassId} {H0 : Heap} {N T : Nat} (hN : fa_NX ≤ N) (hT : fa_TX ≤ T) (a1 : Nat) (a2 : Int) (a3 : Int) (ha1 : (fa_sh a1).1 = 4)  (w : fa_W) (r : fa_W) (hM : fm_Writer_putLambda a1 a2 a3 w = some r) : fa_MC l D b aC H0 N T y_Writer_putLambda prog_10_method_9_code 4 ((Option.none : Option Jvm.ClassFile.FieldType)) (5) [.ref (b + 37), .ref (b + a1), .int (fa_I a2), .int (fa_I a3)] w (none) r := by
  refine fa_enter (lv := [(0, .ref (b + 37)), (1, .ref (b + a1)), (2, .int (fa_I a2)), (3, .int (fa_I a3))]) (by decide +kernel) (Nat.le_of_ble_eq_true rfl) rfl (fun hh hle hnm X => ?_)
  unfold fm_Writer_putLambda at hM
  refine g_iload_n X 3 rfl d_Writer_putLambda_0 ?_
  refine g_if_ne X 31 d_Writer_putLambda_1 (by decide) (fun hc1 => ?_) (fun hc1 => ?_)
  · have hM := fa_if_f hM hc1
    refine g_aload_n X 0 rfl d_Writer_putLambda_31 ?_
    refine g_ldcs X (12 : Fin 35) (List.mem_of_getElem? (i := 12) rfl) d_Writer_putLambda_32 ?_
    obtain ⟨w3, e2, hM⟩ := fa_ob hM
    refine g_callV_v X ck_9 fo_37 (fa_xn fo_37 (by decide) hN) rfl mi_Writer_putText (c_Writer_putText hN hT (12 : Fin 35) w _ e2) wd_763 rfl (Nat.le_trans (Nat.le_of_ble_eq_true rfl) hle) (st := []) (Nat.le_of_ble_eq_true rfl) rfl d_Writer_putLambda_34 ?_
    cases hM
    exact g_vret X d_Writer_putLambda_37
  · have hM := fa_if_t hM hc1
    refine g_aload_n X 0 rfl d_Writer_putLambda_4 ?_
    refine g_ldcs X (11 : Fin 35) (List.mem_of_getElem? (i := 11) rfl) d_Writer_putLambda_5 ?_
    obtain ⟨w5, e4, hM⟩ := fa_ob hM
    refine g_callV_v X ck_9 fo_37 (fa_xn fo_37 (by decide) hN) rfl mi_Writer_putText (c_Writer_putText hN hT (11 : Fin 35) w _ e4) wd_763 rfl (Nat.le_trans (Nat.le_of_ble_eq_true rfl) hle) (st := []) (Nat.le_of_ble_eq_true rfl) rfl d_Writer_putLambda_7 ?_
    refine g_aload_n X 0 rfl d_Writer_putLambda_10 ?_
    refine g_aload_n X 1 rfl d_Writer_putLambda_11 ?_
    refine g_getN X ck_4 ha1 (fa_xn ha1 (by decide) hN) 6 (by decide) wd_75 rfl (fa_fvR rfl (fa_xt ha1 (by decide) hT 6)) d_Writer_putLambda_12 ?_
    refine g_iload_n X 2 rfl d_Writer_putLambda_15 ?_
    refine g_callV_i X ck_6 (fa_r4_6 _ ha1) (fa_xn (fa_r4_6 _ ha1) (by decide) hN) rfl mi_Row_at (ct_Row_at (fa_rf a1 6) a2 (fa_ro (fa_r4_6 _ ha1) hN hT) w5 _ rfl) wd_815 rfl (Nat.le_trans (Nat.le_of_ble_eq_true rfl) hle) (st := [.ref (b + 37)]) (Nat.le_of_ble_eq_true rfl) rfl d_Writer_putLambda_16 ?_
    obtain ⟨w8, e7, hM⟩ := fa_ob hM
    refine g_callV_v X ck_9 fo_37 (fa_xn fo_37 (by decide) hN) rfl mi_Writer_putName (c_Writer_putName hN hT (fr_at (fa_rf a1 6) a2 w5) w5 _ e7) wd_816 rfl (Nat.le_trans (Nat.le_of_ble_eq_true rfl) hle) (st := []) (Nat.le_of_ble_eq_true rfl) rfl d_Writer_putLambda_19 ?_
    refine g_aload_n X 0 rfl d_Writer_putLambda_22 ?_
    refine g_ldcs X (9 : Fin 35) (List.mem_of_getElem? (i := 9) rfl) d_Writer_putLambda_23 ?_
    obtain ⟨w10, e9, hM⟩ := fa_ob hM
    refine g_callV_v X ck_9 fo_37 (fa_xn fo_37 (by decide) hN) rfl mi_Writer_putText (c_Writer_putText hN hT (9 : Fin 35) w8 _ e9) wd_763 rfl (Nat.le_trans (Nat.le_of_ble_eq_true rfl) hle) (st := []) (Nat.le_of_ble_eq_true rfl) rfl d_Writer_putLambda_25 ?_
    refine g_goto X 37 d_Writer_putLambda_28 (by decide) ?_
    cases hM
    exact g_vret X d_Writer_putLambda_37
theorem d_Writer_choicePiece_0 : decode prog_10_method_11_code 0 = .ok (.iload_n 0, 1) := by decide +kernel
theorem d_Writer_choicePiece_1 : decode prog_10_method_11_code 1 = .ok (.tableswitch 36 0 2 #[27, 30, 33], 27) := by decide +kernel
theorem d_Writer_choicePiece_28 : decode prog_10_method_11_code 28 = .ok (.ldc 198, 2) := by decide +kernel
theorem d_Writer_choicePiece_30 : decode prog_10_method_11_code 30 = .ok (.areturn, 1) := by decide +kernel
theorem d_Writer_choicePiece_31 : decode prog_10_method_11_code 31 = .ok (.ldc 200, 2) := by decide +kernel
theorem d_Writer_choicePiece_33 : decode prog_10_method_11_code 33 = .ok (.areturn, 1) := by decide +kernel
theorem d_Writer_choicePiece_34 : decode prog_10_method_11_code 34 = .ok (.ldc 202, 2) := by decide +kernel
theorem d_Writer_choicePiece_36 : decode prog_10_method_11_code 36 = .ok (.areturn, 1) := by decide +kernel
theorem d_Writer_choicePiece_37 : decode prog_10_method_11_code 37 = .ok (.ldc 186, 2) := by decide +kernel
theorem d_Writer_choicePiece_39 : decode prog_10_method_11_code 39 = .ok (.areturn, 1) := by decide +kernel
def fm_Writer_choicePiece (a1 : Int) (w : fa_W) : Fin 35 :=
  if fa_wr a1 = 0 then
  (16 : Fin 35)
  else
  if fa_wr a1 = 1 then
  (17 : Fin 35)
  else
  if fa_wr a1 = 2 then
  (18 : Fin 35)
  else
  (12 : Fin 35)
set_option maxHeartbeats 4000000 in
set_option maxRecDepth 100000 in
theorem c_Writer_choicePiece {l : Launch} {D : va_G} {b : Nat} {aC : Nat → ClassId} {H0 : Heap} {N T : Nat} (hN : fa_NX ≤ N) (hT : fa_TX ≤ T) (a1 : Int)  (w : fa_W) (r : Fin 35) (hM : fm_Writer_choicePiece a1 w = r) : fa_MC l D b aC H0 N T y_Writer_choicePiece prog_10_method_11_code 1 ((Option.some (Jvm.ClassFile.FieldType.object "java/lang/String"))) (0) [.int (fa_I a1)] w (some (.ref (D.2 100 (r).val))) w := by
  refine fa_enter (lv := [(0, .int (fa_I a1))]) (by decide +kernel) (Nat.le_of_ble_eq_true rfl) rfl (fun hh hle hnm X => ?_)
  unfold fm_Writer_choicePiece at hM
  refine g_iload_n X 0 rfl d_Writer_choicePiece_0 ?_
  by_cases hc1 : fa_wr a1 = 0
  · have hM := fa_if_t hM hc1
    refine g_tableIn X 0 28 d_Writer_choicePiece_1 hc1 (by decide) (by decide) rfl (by decide) ?_
    refine g_ldcs X (16 : Fin 35) (List.mem_of_getElem? (i := 16) rfl) d_Writer_choicePiece_28 ?_
    subst hM
    exact g_aret X rfl (Or.inl ⟨_, rfl⟩) d_Writer_choicePiece_30
  have hM := fa_if_f hM hc1
  by_cases hc2 : fa_wr a1 = 1
  · have hM := fa_if_t hM hc2
    refine g_tableIn X 1 31 d_Writer_choicePiece_1 hc2 (by decide) (by decide) rfl (by decide) ?_
    refine g_ldcs X (17 : Fin 35) (List.mem_of_getElem? (i := 17) rfl) d_Writer_choicePiece_31 ?_
    subst hM
    exact g_aret X rfl (Or.inl ⟨_, rfl⟩) d_Writer_choicePiece_33
  have hM := fa_if_f hM hc2
  by_cases hc3 : fa_wr a1 = 2
  · have hM := fa_if_t hM hc3
    refine g_tableIn X 2 34 d_Writer_choicePiece_1 hc3 (by decide) (by decide) rfl (by decide) ?_
    refine g_ldcs X (18 : Fin 35) (List.mem_of_getElem? (i := 18) rfl) d_Writer_choicePiece_34 ?_
    subst hM
    exact g_aret X rfl (Or.inl ⟨_, rfl⟩) d_Writer_choicePiece_36
  have hM := fa_if_f hM hc3
  refine g_tableDef X 37 d_Writer_choicePiece_1 (by
    exact Or.inl (by omega)) (by decide) ?_
  refine g_ldcs X (12 : Fin 35) (List.mem_of_getElem? (i := 12) rfl) d_Writer_choicePiece_37 ?_
  subst hM
  exact g_aret X rfl (Or.inl ⟨_, rfl⟩) d_Writer_choicePiece_39
theorem d_Writer_putLet_0 : decode prog_10_method_12_code 0 = .ok (.iload_n 3, 1) := by decide +kernel
theorem d_Writer_putLet_1 : decode prog_10_method_12_code 1 = .ok (.ifCond .ne 30, 3) := by decide +kernel
theorem d_Writer_putLet_4 : decode prog_10_method_12_code 4 = .ok (.aload_n 0, 1) := by decide +kernel
theorem d_Writer_putLet_5 : decode prog_10_method_12_code 5 = .ok (.ldc 204, 2) := by decide +kernel
theorem d_Writer_putLet_7 : decode prog_10_method_12_code 7 = .ok (.invokevirtual 56, 3) := by decide +kernel
theorem d_Writer_putLet_10 : decode prog_10_method_12_code 10 = .ok (.aload_n 0, 1) := by decide +kernel
theorem d_Writer_putLet_11 : decode prog_10_method_12_code 11 = .ok (.aload_n 1, 1) := by decide +kernel
theorem d_Writer_putLet_12 : decode prog_10_method_12_code 12 = .ok (.getfield 69, 3) := by decide +kernel
theorem d_Writer_putLet_15 : decode prog_10_method_12_code 15 = .ok (.iload_n 2, 1) := by decide +kernel
theorem d_Writer_putLet_16 : decode prog_10_method_12_code 16 = .ok (.invokevirtual 63, 3) := by decide +kernel
theorem d_Writer_putLet_19 : decode prog_10_method_12_code 19 = .ok (.invokevirtual 36, 3) := by decide +kernel
theorem d_Writer_putLet_22 : decode prog_10_method_12_code 22 = .ok (.aload_n 0, 1) := by decide +kernel
theorem d_Writer_putLet_23 : decode prog_10_method_12_code 23 = .ok (.ldc 72, 2) := by decide +kernel
theorem d_Writer_putLet_25 : decode prog_10_method_12_code 25 = .ok (.invokevirtual 56, 3) := by decide +kernel
theorem d_Writer_putLet_28 : decode prog_10_method_12_code 28 = .ok (.goto 19, 3) := by decide +kernel
theorem d_Writer_putLet_31 : decode prog_10_method_12_code 31 = .ok (.aload_n 0, 1) := by decide +kernel
theorem d_Writer_putLet_32 : decode prog_10_method_12_code 32 = .ok (.iload_n 3, 1) := by decide +kernel
theorem d_Writer_putLet_33 : decode prog_10_method_12_code 33 = .ok (.iconst 1, 1) := by decide +kernel
theorem d_Writer_putLet_34 : decode prog_10_method_12_code 34 = .ok (.if_icmp .ne 8, 3) := by decide +kernel
theorem d_Writer_putLet_37 : decode prog_10_method_12_code 37 = .ok (.ldc 206, 2) := by decide +kernel
theorem d_Writer_putLet_39 : decode prog_10_method_12_code 39 = .ok (.goto 5, 3) := by decide +kernel
theorem d_Writer_putLet_42 : decode prog_10_method_12_code 42 = .ok (.ldc 186, 2) := by decide +kernel
theorem d_Writer_putLet_44 : decode prog_10_method_12_code 44 = .ok (.invokevirtual 56, 3) := by decide +kernel
theorem d_Writer_putLet_47 : decode prog_10_method_12_code 47 = .ok (.return_, 1) := by decide +kernel
def fm_Writer_putLet_j44 (a1 : Nat) (a2 : Int) (a3 : Int) (s0 : Fin 35) (w : fa_W) : Option fa_W :=
  (fm_Writer_putText s0 w).bind fun w4 =>
  some w4
set_option maxHeartbeats 4000000 in
set_option maxRecDepth 100000 in
theorem c_Writer_putLet_j44 {p : Program} {l : Launch} {e : Env} {s : State} {m : MethodId} {args : Array Value} {below : List Frame} {meth : Method} {c : Code} {hh : Nat} {D : va_G} {b : Nat} {aC : Nat → ClassId} {H0 : Heap} {N T : Nat} (X : fa_GX p s m args meth c prog_10_method_12_code 4 ((Option.none : Option Jvm.ClassFile.FieldType)) y_Writer_putLet.cls D b aC) (hle : 5 ≤ hh) (hN : fa_NX ≤ N) (hT : fa_TX ≤ T) (a1 : Nat) (a2 : Int) (a3 : Int) (ha1 : (fa_sh a1).1 = 4) {r : fa_W}  : ∀ (s0 : Fin 35) (w : fa_W) (_ : fm_Writer_putLet_j44 a1 a2 a3 s0 w = some r), fa_GJ p l e (fa_rm hh) s m args below meth c 0 0 (MQ below (fa_Qc D b aC H0 N T (none) r) args s 0 0 (fun q => b ≤ q)) D b aC H0 N T 4 w 44 [] [.ref (D.2 100 (s0).val), .ref (b + 37)] := by
  intro s0 w hM
  unfold fm_Writer_putLet_j44 at hM
  obtain ⟨w4, e3, hM⟩ := fa_ob hM
  refine g_callV_v X ck_9 fo_37 (fa_xn fo_37 (by decide) hN) rfl mi_Writer_putText (c_Writer_putText hN hT s0 w _ e3) wd_763 rfl (Nat.le_trans (Nat.le_of_ble_eq_true rfl) hle) (st := []) (Nat.le_of_ble_eq_true rfl) rfl d_Writer_putLet_44 ?_
  cases hM
  exact g_vret X d_Writer_putLet_47
def fm_Writer_putLet (a1 : Nat) (a2 : Int) (a3 : Int) (w : fa_W) : Option fa_W :=
  if fa_wr a3 = 0 then
  ((fm_Writer_putText (19 : Fin 35) w).bind fun w6 =>
  (fm_Writer_putName (fr_at (fa_rf a1 6) a2 w6) w6).bind fun w9 =>
  (fm_Writer_putText (2 : Fin 35) w9).bind fun w11 =>
  some w11)
  else
  (if fa_wr a3 = 1 then
  fm_Writer_putLet_j44 a1 a2 a3 (20 : Fin 35) w
  else
  fm_Writer_putLet_j44 a1 a2 a3 (12 : Fin 35) w)
set_option maxHeartbeats 4000000 in
set_option maxRecDepth 100000 in
theorem c_Writer_putLet {l : Launch} {D : va_G} {b : Nat} {aC : Nat → ClassId} {H0 : Heap} {N T : Nat} (hN : fa_NX ≤ N) (hT : fa_TX ≤ T) (a1 : Nat) (a2 : Int) (a3 : Int) (ha1 : (fa_sh a1).1 = 4)  (w : fa_W) (r : fa_W) (hM : fm_Writer_putLet a1 a2 a3 w = some r) : fa_MC l D b aC H0 N T y_Writer_putLet prog_10_method_12_code 4 ((Option.none : Option Jvm.ClassFile.FieldType)) (5) [.ref (b + 37), .ref (b + a1), .int (fa_I a2), .int (fa_I a3)] w (none) r := by
  refine fa_enter (lv := [(0, .ref (b + 37)), (1, .ref (b + a1)), (2, .int (fa_I a2)), (3, .int (fa_I a3))]) (by decide +kernel) (Nat.le_of_ble_eq_true rfl) rfl (fun hh hle hnm X => ?_)
  unfold fm_Writer_putLet at hM
  refine g_iload_n X 3 rfl d_Writer_putLet_0 ?_
  refine g_if_ne X 31 d_Writer_putLet_1 (by decide) (fun hc1 => ?_) (fun hc1 => ?_)
  · have hM := fa_if_f hM hc1
    refine g_aload_n X 0 rfl d_Writer_putLet_31 ?_
    refine g_iload_n X 3 rfl d_Writer_putLet_32 ?_
    refine g_iconst X d_Writer_putLet_33 ?_
    refine g_icmp_ne X 42 d_Writer_putLet_34 (by decide) (fun hc2 => ?_) (fun hc2 => ?_)
    · have hM := fa_if_f hM hc2
      refine g_ldcs X (12 : Fin 35) (List.mem_of_getElem? (i := 12) rfl) d_Writer_putLet_42 ?_
      exact g_lv [] rfl (c_Writer_putLet_j44 X hle hN hT a1 a2 a3 ha1    _ _ hM)
    · have hM := fa_if_t hM hc2
      refine g_ldcs X (20 : Fin 35) (List.mem_of_getElem? (i := 20) rfl) d_Writer_putLet_37 ?_
      refine g_goto X 44 d_Writer_putLet_39 (by decide) ?_
      exact g_lv [] rfl (c_Writer_putLet_j44 X hle hN hT a1 a2 a3 ha1    _ _ hM)
  · have hM := fa_if_t hM hc1
    refine g_aload_n X 0 rfl d_Writer_putLet_4 ?_
    refine g_ldcs X (19 : Fin 35) (List.mem_of_getElem? (i := 19) rfl) d_Writer_putLet_5 ?_
    obtain ⟨w6, e5, hM⟩ := fa_ob hM
    refine g_callV_v X ck_9 fo_37 (fa_xn fo_37 (by decide) hN) rfl mi_Writer_putText (c_Writer_putText hN hT (19 : Fin 35) w _ e5) wd_763 rfl (Nat.le_trans (Nat.le_of_ble_eq_true rfl) hle) (st := []) (Nat.le_of_ble_eq_true rfl) rfl d_Writer_putLet_7 ?_
    refine g_aload_n X 0 rfl d_Writer_putLet_10 ?_
    refine g_aload_n X 1 rfl d_Writer_putLet_11 ?_
    refine g_getN X ck_4 ha1 (fa_xn ha1 (by decide) hN) 6 (by decide) wd_75 rfl (fa_fvR rfl (fa_xt ha1 (by decide) hT 6)) d_Writer_putLet_12 ?_
    refine g_iload_n X 2 rfl d_Writer_putLet_15 ?_
    refine g_callV_i X ck_6 (fa_r4_6 _ ha1) (fa_xn (fa_r4_6 _ ha1) (by decide) hN) rfl mi_Row_at (ct_Row_at (fa_rf a1 6) a2 (fa_ro (fa_r4_6 _ ha1) hN hT) w6 _ rfl) wd_815 rfl (Nat.le_trans (Nat.le_of_ble_eq_true rfl) hle) (st := [.ref (b + 37)]) (Nat.le_of_ble_eq_true rfl) rfl d_Writer_putLet_16 ?_
    obtain ⟨w9, e8, hM⟩ := fa_ob hM
    refine g_callV_v X ck_9 fo_37 (fa_xn fo_37 (by decide) hN) rfl mi_Writer_putName (c_Writer_putName hN hT (fr_at (fa_rf a1 6) a2 w6) w6 _ e8) wd_816 rfl (Nat.le_trans (Nat.le_of_ble_eq_true rfl) hle) (st := []) (Nat.le_of_ble_eq_true rfl) rfl d_Writer_putLet_19 ?_
    refine g_aload_n X 0 rfl d_Writer_putLet_22 ?_
    refine g_ldcs X (2 : Fin 35) (List.mem_of_getElem? (i := 2) rfl) d_Writer_putLet_23 ?_
    obtain ⟨w11, e10, hM⟩ := fa_ob hM
    refine g_callV_v X ck_9 fo_37 (fa_xn fo_37 (by decide) hN) rfl mi_Writer_putText (c_Writer_putText hN hT (2 : Fin 35) w9 _ e10) wd_763 rfl (Nat.le_trans (Nat.le_of_ble_eq_true rfl) hle) (st := []) (Nat.le_of_ble_eq_true rfl) rfl d_Writer_putLet_25 ?_
    refine g_goto X 47 d_Writer_putLet_28 (by decide) ?_
    cases hM
    exact g_vret X d_Writer_putLet_47
theorem d_Writer_putOperator_0 : decode prog_10_method_13_code 0 = .ok (.iload_n 2, 1) := by decide +kernel
theorem d_Writer_putOperator_1 : decode prog_10_method_13_code 1 = .ok (.iconst 1, 1) := by decide +kernel
theorem d_Writer_putOperator_2 : decode prog_10_method_13_code 2 = .ok (.if_icmp .ne 14, 3) := by decide +kernel
theorem d_Writer_putOperator_5 : decode prog_10_method_13_code 5 = .ok (.aload_n 0, 1) := by decide +kernel
theorem d_Writer_putOperator_6 : decode prog_10_method_13_code 6 = .ok (.getfield 30, 3) := by decide +kernel
theorem d_Writer_putOperator_9 : decode prog_10_method_13_code 9 = .ok (.iload_n 1, 1) := by decide +kernel
theorem d_Writer_putOperator_10 : decode prog_10_method_13_code 10 = .ok (.invokevirtual 141, 3) := by decide +kernel
theorem d_Writer_putOperator_13 : decode prog_10_method_13_code 13 = .ok (.goto 18, 3) := by decide +kernel
theorem d_Writer_putOperator_16 : decode prog_10_method_13_code 16 = .ok (.aload_n 0, 1) := by decide +kernel
theorem d_Writer_putOperator_17 : decode prog_10_method_13_code 17 = .ok (.iload_n 2, 1) := by decide +kernel
theorem d_Writer_putOperator_18 : decode prog_10_method_13_code 18 = .ok (.ifCond .ne 8, 3) := by decide +kernel
theorem d_Writer_putOperator_21 : decode prog_10_method_13_code 21 = .ok (.ldc 190, 2) := by decide +kernel
theorem d_Writer_putOperator_23 : decode prog_10_method_13_code 23 = .ok (.goto 5, 3) := by decide +kernel
theorem d_Writer_putOperator_26 : decode prog_10_method_13_code 26 = .ok (.ldc 186, 2) := by decide +kernel
theorem d_Writer_putOperator_28 : decode prog_10_method_13_code 28 = .ok (.invokevirtual 56, 3) := by decide +kernel
theorem d_Writer_putOperator_31 : decode prog_10_method_13_code 31 = .ok (.return_, 1) := by decide +kernel
def fm_Writer_putOperator_j28 (a1 : Int) (a2 : Int) (s0 : Fin 35) (w : fa_W) : Option fa_W :=
  (fm_Writer_putText s0 w).bind fun w4 =>
  some w4
set_option maxHeartbeats 4000000 in
set_option maxRecDepth 100000 in
theorem c_Writer_putOperator_j28 {p : Program} {l : Launch} {e : Env} {s : State} {m : MethodId} {args : Array Value} {below : List Frame} {meth : Method} {c : Code} {hh : Nat} {D : va_G} {b : Nat} {aC : Nat → ClassId} {H0 : Heap} {N T : Nat} (X : fa_GX p s m args meth c prog_10_method_13_code 3 ((Option.none : Option Jvm.ClassFile.FieldType)) y_Writer_putOperator.cls D b aC) (hle : 5 ≤ hh) (hN : fa_NX ≤ N) (hT : fa_TX ≤ T) (a1 : Int) (a2 : Int) {r : fa_W}  : ∀ (s0 : Fin 35) (w : fa_W) (_ : fm_Writer_putOperator_j28 a1 a2 s0 w = some r), fa_GJ p l e (fa_rm hh) s m args below meth c 0 0 (MQ below (fa_Qc D b aC H0 N T (none) r) args s 0 0 (fun q => b ≤ q)) D b aC H0 N T 3 w 28 [] [.ref (D.2 100 (s0).val), .ref (b + 37)] := by
  intro s0 w hM
  unfold fm_Writer_putOperator_j28 at hM
  obtain ⟨w4, e3, hM⟩ := fa_ob hM
  refine g_callV_v X ck_9 fo_37 (fa_xn fo_37 (by decide) hN) rfl mi_Writer_putText (c_Writer_putText hN hT s0 w _ e3) wd_763 rfl (Nat.le_trans (Nat.le_of_ble_eq_true rfl) hle) (st := []) (Nat.le_of_ble_eq_true rfl) rfl d_Writer_putOperator_28 ?_
  cases hM
  exact g_vret X d_Writer_putOperator_31
def fm_Writer_putOperator (a1 : Int) (a2 : Int) (w : fa_W) : Option fa_W :=
  if fa_wr a2 = 1 then
  (fa_let (fr_add 3 a1 w) fun w6 =>
  some w6)
  else
  (if fa_wr a2 = 0 then
  fm_Writer_putOperator_j28 a1 a2 (14 : Fin 35) w
  else
  fm_Writer_putOperator_j28 a1 a2 (12 : Fin 35) w)
set_option maxHeartbeats 4000000 in
set_option maxRecDepth 100000 in
theorem c_Writer_putOperator {l : Launch} {D : va_G} {b : Nat} {aC : Nat → ClassId} {H0 : Heap} {N T : Nat} (hN : fa_NX ≤ N) (hT : fa_TX ≤ T) (a1 : Int) (a2 : Int)  (w : fa_W) (r : fa_W) (hM : fm_Writer_putOperator a1 a2 w = some r) : fa_MC l D b aC H0 N T y_Writer_putOperator prog_10_method_13_code 3 ((Option.none : Option Jvm.ClassFile.FieldType)) (5) [.ref (b + 37), .int (fa_I a1), .int (fa_I a2)] w (none) r := by
  refine fa_enter (lv := [(0, .ref (b + 37)), (1, .int (fa_I a1)), (2, .int (fa_I a2))]) (by decide +kernel) (Nat.le_of_ble_eq_true rfl) rfl (fun hh hle hnm X => ?_)
  unfold fm_Writer_putOperator at hM
  refine g_iload_n X 2 rfl d_Writer_putOperator_0 ?_
  refine g_iconst X d_Writer_putOperator_1 ?_
  refine g_icmp_ne X 16 d_Writer_putOperator_2 (by decide) (fun hc1 => ?_) (fun hc1 => ?_)
  · have hM := fa_if_f hM hc1
    refine g_aload_n X 0 rfl d_Writer_putOperator_16 ?_
    refine g_iload_n X 2 rfl d_Writer_putOperator_17 ?_
    refine g_if_ne X 26 d_Writer_putOperator_18 (by decide) (fun hc2 => ?_) (fun hc2 => ?_)
    · have hM := fa_if_f hM hc2
      refine g_ldcs X (12 : Fin 35) (List.mem_of_getElem? (i := 12) rfl) d_Writer_putOperator_26 ?_
      exact g_lv [] rfl (c_Writer_putOperator_j28 X hle hN hT a1 a2    _ _ hM)
    · have hM := fa_if_t hM hc2
      refine g_ldcs X (14 : Fin 35) (List.mem_of_getElem? (i := 14) rfl) d_Writer_putOperator_21 ?_
      refine g_goto X 28 d_Writer_putOperator_23 (by decide) ?_
      exact g_lv [] rfl (c_Writer_putOperator_j28 X hle hN hT a1 a2    _ _ hM)
  · have hM := fa_if_t hM hc1
    refine g_aload_n X 0 rfl d_Writer_putOperator_5 ?_
    refine g_get X ck_9 fo_37 (fa_xn fo_37 (by decide) hN) 0 (by decide) wd_199 rfl (fr_37_0 rfl hT) d_Writer_putOperator_6 ?_
    refine g_iload_n X 1 rfl d_Writer_putOperator_9 ?_
    obtain ⟨w6, e5⟩ : ∃ q, fr_add 3 a1 w = q := ⟨_, rfl⟩
    have hM := fa_let_to hM e5.symm
    refine g_callV_v X ck_6 fo_3 (fa_xn fo_3 (by decide) hN) rfl mi_Row_add (ct_Row_add 3 a1 (fa_ro fo_3 hN hT) w _ e5) wd_684 rfl (Nat.le_trans (Nat.le_of_ble_eq_true rfl) hle) (st := []) (Nat.le_of_ble_eq_true rfl) rfl d_Writer_putOperator_10 ?_
    refine g_goto X 31 d_Writer_putOperator_13 (by decide) ?_
    cases hM
    exact g_vret X d_Writer_putOperator_31
theorem d_Writer_putSite_0 : decode prog_10_method_14_code 0 = .ok (.iload_n 3, 1) := by decide +kernel
theorem d_Writer_putSite_1 : decode prog_10_method_14_code 1 = .ok (.ifCond .ne 66, 3) := by decide +kernel
theorem d_Writer_putSite_4 : decode prog_10_method_14_code 4 = .ok (.aload_n 0, 1) := by decide +kernel
theorem d_Writer_putSite_5 : decode prog_10_method_14_code 5 = .ok (.getfield 26, 3) := by decide +kernel
theorem d_Writer_putSite_8 : decode prog_10_method_14_code 8 = .ok (.iconst (-1), 1) := by decide +kernel
theorem d_Writer_putSite_9 : decode prog_10_method_14_code 9 = .ok (.if_icmp .eq 58, 3) := by decide +kernel
theorem d_Writer_putSite_12 : decode prog_10_method_14_code 12 = .ok (.aload_n 1, 1) := by decide +kernel
theorem d_Writer_putSite_13 : decode prog_10_method_14_code 13 = .ok (.getfield 99, 3) := by decide +kernel
theorem d_Writer_putSite_16 : decode prog_10_method_14_code 16 = .ok (.aload_n 1, 1) := by decide +kernel
theorem d_Writer_putSite_17 : decode prog_10_method_14_code 17 = .ok (.getfield 43, 3) := by decide +kernel
theorem d_Writer_putSite_20 : decode prog_10_method_14_code 20 = .ok (.iload_n 2, 1) := by decide +kernel
theorem d_Writer_putSite_21 : decode prog_10_method_14_code 21 = .ok (.invokevirtual 208, 3) := by decide +kernel
theorem d_Writer_putSite_24 : decode prog_10_method_14_code 24 = .ok (.istore 4, 2) := by decide +kernel
theorem d_Writer_putSite_26 : decode prog_10_method_14_code 26 = .ok (.aload_n 0, 1) := by decide +kernel
theorem d_Writer_putSite_27 : decode prog_10_method_14_code 27 = .ok (.iload 4, 2) := by decide +kernel
theorem d_Writer_putSite_29 : decode prog_10_method_14_code 29 = .ok (.ifCond .ne 8, 3) := by decide +kernel
theorem d_Writer_putSite_32 : decode prog_10_method_14_code 32 = .ok (.ldc 212, 2) := by decide +kernel
theorem d_Writer_putSite_34 : decode prog_10_method_14_code 34 = .ok (.goto 5, 3) := by decide +kernel
theorem d_Writer_putSite_37 : decode prog_10_method_14_code 37 = .ok (.ldc 128, 2) := by decide +kernel
theorem d_Writer_putSite_39 : decode prog_10_method_14_code 39 = .ok (.invokevirtual 56, 3) := by decide +kernel
theorem d_Writer_putSite_42 : decode prog_10_method_14_code 42 = .ok (.iload 4, 2) := by decide +kernel
theorem d_Writer_putSite_44 : decode prog_10_method_14_code 44 = .ok (.ifCond .eq 23, 3) := by decide +kernel
theorem d_Writer_putSite_47 : decode prog_10_method_14_code 47 = .ok (.aload_n 0, 1) := by decide +kernel
theorem d_Writer_putSite_48 : decode prog_10_method_14_code 48 = .ok (.aload_n 1, 1) := by decide +kernel
theorem d_Writer_putSite_49 : decode prog_10_method_14_code 49 = .ok (.getfield 86, 3) := by decide +kernel
theorem d_Writer_putSite_52 : decode prog_10_method_14_code 52 = .ok (.aload_n 0, 1) := by decide +kernel
theorem d_Writer_putSite_53 : decode prog_10_method_14_code 53 = .ok (.getfield 26, 3) := by decide +kernel
theorem d_Writer_putSite_56 : decode prog_10_method_14_code 56 = .ok (.iload 4, 2) := by decide +kernel
theorem d_Writer_putSite_58 : decode prog_10_method_14_code 58 = .ok (.invokestatic 115, 3) := by decide +kernel
theorem d_Writer_putSite_61 : decode prog_10_method_14_code 61 = .ok (.invokevirtual 214, 3) := by decide +kernel
theorem d_Writer_putSite_64 : decode prog_10_method_14_code 64 = .ok (.invokevirtual 130, 3) := by decide +kernel
theorem d_Writer_putSite_67 : decode prog_10_method_14_code 67 = .ok (.iload_n 3, 1) := by decide +kernel
theorem d_Writer_putSite_68 : decode prog_10_method_14_code 68 = .ok (.iconst 1, 1) := by decide +kernel
theorem d_Writer_putSite_69 : decode prog_10_method_14_code 69 = .ok (.if_icmp .ne 25, 3) := by decide +kernel
theorem d_Writer_putSite_72 : decode prog_10_method_14_code 72 = .ok (.aload_n 0, 1) := by decide +kernel
theorem d_Writer_putSite_73 : decode prog_10_method_14_code 73 = .ok (.aload_n 0, 1) := by decide +kernel
theorem d_Writer_putSite_74 : decode prog_10_method_14_code 74 = .ok (.getfield 26, 3) := by decide +kernel
theorem d_Writer_putSite_77 : decode prog_10_method_14_code 77 = .ok (.iconst (-1), 1) := by decide +kernel
theorem d_Writer_putSite_78 : decode prog_10_method_14_code 78 = .ok (.if_icmp .eq 8, 3) := by decide +kernel
theorem d_Writer_putSite_81 : decode prog_10_method_14_code 81 = .ok (.ldc 196, 2) := by decide +kernel
theorem d_Writer_putSite_83 : decode prog_10_method_14_code 83 = .ok (.goto 5, 3) := by decide +kernel
theorem d_Writer_putSite_86 : decode prog_10_method_14_code 86 = .ok (.ldc 67, 2) := by decide +kernel
theorem d_Writer_putSite_88 : decode prog_10_method_14_code 88 = .ok (.invokevirtual 56, 3) := by decide +kernel
theorem d_Writer_putSite_91 : decode prog_10_method_14_code 91 = .ok (.goto 18, 3) := by decide +kernel
theorem d_Writer_putSite_94 : decode prog_10_method_14_code 94 = .ok (.aload_n 0, 1) := by decide +kernel
theorem d_Writer_putSite_95 : decode prog_10_method_14_code 95 = .ok (.iload_n 3, 1) := by decide +kernel
theorem d_Writer_putSite_96 : decode prog_10_method_14_code 96 = .ok (.ifCond .ne 8, 3) := by decide +kernel
theorem d_Writer_putSite_99 : decode prog_10_method_14_code 99 = .ok (.ldc 190, 2) := by decide +kernel
theorem d_Writer_putSite_101 : decode prog_10_method_14_code 101 = .ok (.goto 5, 3) := by decide +kernel
theorem d_Writer_putSite_104 : decode prog_10_method_14_code 104 = .ok (.ldc 186, 2) := by decide +kernel
theorem d_Writer_putSite_106 : decode prog_10_method_14_code 106 = .ok (.invokevirtual 56, 3) := by decide +kernel
theorem d_Writer_putSite_109 : decode prog_10_method_14_code 109 = .ok (.return_, 1) := by decide +kernel
def fm_Writer_putSite_j106 (a1 : Nat) (a2 : Int) (a3 : Int) (s0 : Fin 35) (w : fa_W) : Option fa_W :=
  (fm_Writer_putText s0 w).bind fun w5 =>
  some w5
set_option maxHeartbeats 4000000 in
set_option maxRecDepth 100000 in
theorem c_Writer_putSite_j106 {p : Program} {l : Launch} {e : Env} {s : State} {m : MethodId} {args : Array Value} {below : List Frame} {meth : Method} {c : Code} {hh : Nat} {D : va_G} {b : Nat} {aC : Nat → ClassId} {H0 : Heap} {N T : Nat} (X : fa_GX p s m args meth c prog_10_method_14_code 5 ((Option.none : Option Jvm.ClassFile.FieldType)) y_Writer_putSite.cls D b aC) (hle : 5 ≤ hh) (hN : fa_NX ≤ N) (hT : fa_TX ≤ T) (a1 : Nat) (a2 : Int) (a3 : Int) (ha1 : (fa_sh a1).1 = 7) {r : fa_W}  : ∀ (s0 : Fin 35) (w : fa_W) (_ : fm_Writer_putSite_j106 a1 a2 a3 s0 w = some r), fa_GJ p l e (fa_rm hh) s m args below meth c 0 0 (MQ below (fa_Qc D b aC H0 N T (none) r) args s 0 0 (fun q => b ≤ q)) D b aC H0 N T 5 w 106 [] [.ref (D.2 100 (s0).val), .ref (b + 37)] := by
  intro s0 w hM
  unfold fm_Writer_putSite_j106 at hM
  obtain ⟨w5, e4, hM⟩ := fa_ob hM
  refine g_callV_v X ck_9 fo_37 (fa_xn fo_37 (by decide) hN) rfl mi_Writer_putText (c_Writer_putText hN hT s0 w _ e4) wd_763 rfl (Nat.le_trans (Nat.le_of_ble_eq_true rfl) hle) (st := []) (Nat.le_of_ble_eq_true rfl) rfl d_Writer_putSite_106 ?_
  cases hM
  exact g_vret X d_Writer_putSite_109
def fm_Writer_putSite_j88 (a1 : Nat) (a2 : Int) (a3 : Int) (s0 : Fin 35) (w : fa_W) : Option fa_W :=
  (fm_Writer_putText s0 w).bind fun w8 =>
  some w8
set_option maxHeartbeats 4000000 in
set_option maxRecDepth 100000 in
theorem c_Writer_putSite_j88 {p : Program} {l : Launch} {e : Env} {s : State} {m : MethodId} {args : Array Value} {below : List Frame} {meth : Method} {c : Code} {hh : Nat} {D : va_G} {b : Nat} {aC : Nat → ClassId} {H0 : Heap} {N T : Nat} (X : fa_GX p s m args meth c prog_10_method_14_code 5 ((Option.none : Option Jvm.ClassFile.FieldType)) y_Writer_putSite.cls D b aC) (hle : 5 ≤ hh) (hN : fa_NX ≤ N) (hT : fa_TX ≤ T) (a1 : Nat) (a2 : Int) (a3 : Int) (ha1 : (fa_sh a1).1 = 7) {r : fa_W}  : ∀ (s0 : Fin 35) (w : fa_W) (_ : fm_Writer_putSite_j88 a1 a2 a3 s0 w = some r), fa_GJ p l e (fa_rm hh) s m args below meth c 0 0 (MQ below (fa_Qc D b aC H0 N T (none) r) args s 0 0 (fun q => b ≤ q)) D b aC H0 N T 5 w 88 [] [.ref (D.2 100 (s0).val), .ref (b + 37)] := by
  intro s0 w hM
  unfold fm_Writer_putSite_j88 at hM
  obtain ⟨w8, e7, hM⟩ := fa_ob hM
  refine g_callV_v X ck_9 fo_37 (fa_xn fo_37 (by decide) hN) rfl mi_Writer_putText (c_Writer_putText hN hT s0 w _ e7) wd_763 rfl (Nat.le_trans (Nat.le_of_ble_eq_true rfl) hle) (st := []) (Nat.le_of_ble_eq_true rfl) rfl d_Writer_putSite_88 ?_
  refine g_goto X 109 d_Writer_putSite_91 (by decide) ?_
  cases hM
  exact g_vret X d_Writer_putSite_109
def fm_Writer_putSite_j67 (a1 : Nat) (a2 : Int) (a3 : Int) (w : fa_W) : Option fa_W :=
  if fa_wr a3 = 1 then
  (if fa_wr (w 37 4) = (-1) then
  fm_Writer_putSite_j88 a1 a2 a3 (1 : Fin 35) w
  else
  fm_Writer_putSite_j88 a1 a2 a3 (15 : Fin 35) w)
  else
  (if fa_wr a3 = 0 then
  fm_Writer_putSite_j106 a1 a2 a3 (14 : Fin 35) w
  else
  fm_Writer_putSite_j106 a1 a2 a3 (12 : Fin 35) w)
set_option maxHeartbeats 4000000 in
set_option maxRecDepth 100000 in
theorem c_Writer_putSite_j67 {p : Program} {l : Launch} {e : Env} {s : State} {m : MethodId} {args : Array Value} {below : List Frame} {meth : Method} {c : Code} {hh : Nat} {D : va_G} {b : Nat} {aC : Nat → ClassId} {H0 : Heap} {N T : Nat} (X : fa_GX p s m args meth c prog_10_method_14_code 5 ((Option.none : Option Jvm.ClassFile.FieldType)) y_Writer_putSite.cls D b aC) (hle : 5 ≤ hh) (hN : fa_NX ≤ N) (hT : fa_TX ≤ T) (a1 : Nat) (a2 : Int) (a3 : Int) (ha1 : (fa_sh a1).1 = 7) {r : fa_W}  : ∀ (w : fa_W) (_ : fm_Writer_putSite_j67 a1 a2 a3 w = some r), fa_GJ p l e (fa_rm hh) s m args below meth c 0 0 (MQ below (fa_Qc D b aC H0 N T (none) r) args s 0 0 (fun q => b ≤ q)) D b aC H0 N T 5 w 67 [(0, .ref (b + 37)), (3, .int (fa_I a3))] [] := by
  intro w hM
  unfold fm_Writer_putSite_j67 at hM
  refine g_iload_n X 1 rfl d_Writer_putSite_67 ?_
  refine g_iconst X d_Writer_putSite_68 ?_
  refine g_icmp_ne X 94 d_Writer_putSite_69 (by decide) (fun hc2 => ?_) (fun hc2 => ?_)
  · have hM := fa_if_f hM hc2
    refine g_aload_n X 0 rfl d_Writer_putSite_94 ?_
    refine g_iload_n X 1 rfl d_Writer_putSite_95 ?_
    refine g_if_ne X 104 d_Writer_putSite_96 (by decide) (fun hc3 => ?_) (fun hc3 => ?_)
    · have hM := fa_if_f hM hc3
      refine g_ldcs X (12 : Fin 35) (List.mem_of_getElem? (i := 12) rfl) d_Writer_putSite_104 ?_
      exact g_lv [] rfl (c_Writer_putSite_j106 X hle hN hT a1 a2 a3 ha1    _ _ hM)
    · have hM := fa_if_t hM hc3
      refine g_ldcs X (14 : Fin 35) (List.mem_of_getElem? (i := 14) rfl) d_Writer_putSite_99 ?_
      refine g_goto X 106 d_Writer_putSite_101 (by decide) ?_
      exact g_lv [] rfl (c_Writer_putSite_j106 X hle hN hT a1 a2 a3 ha1    _ _ hM)
  · have hM := fa_if_t hM hc2
    refine g_aload_n X 0 rfl d_Writer_putSite_72 ?_
    refine g_aload_n X 0 rfl d_Writer_putSite_73 ?_
    refine g_get X ck_9 fo_37 (fa_xn fo_37 (by decide) hN) 4 (by decide) wd_203 rfl (fa_fvI rfl) d_Writer_putSite_74 ?_
    refine g_iconst X d_Writer_putSite_77 ?_
    refine g_icmp_eq X 86 d_Writer_putSite_78 (by decide) (fun hc6 => ?_) (fun hc6 => ?_)
    · have hM := fa_if_t hM hc6
      refine g_ldcs X (1 : Fin 35) (List.mem_of_getElem? (i := 1) rfl) d_Writer_putSite_86 ?_
      exact g_lv [] rfl (c_Writer_putSite_j88 X hle hN hT a1 a2 a3 ha1    _ _ hM)
    · have hM := fa_if_f hM hc6
      refine g_ldcs X (15 : Fin 35) (List.mem_of_getElem? (i := 15) rfl) d_Writer_putSite_81 ?_
      refine g_goto X 88 d_Writer_putSite_83 (by decide) ?_
      exact g_lv [] rfl (c_Writer_putSite_j88 X hle hN hT a1 a2 a3 ha1    _ _ hM)
def fm_Writer_putSite_j39 (a1 : Nat) (a2 : Int) (a3 : Int) (x4 : Int) (s0 : Fin 35) (w : fa_W) : Option fa_W :=
  (fm_Writer_putText s0 w).bind fun w14 =>
  if fa_wr x4 = 0 then
  fm_Writer_putSite_j67 a1 a2 a3 w14
  else
  ((fm_Groups_groupOf (fa_rf a1 3) (w14 37 4) (fm_Face_lowest x4 w14) w14).bind fun v18 =>
  (fm_Writer_putNumber v18 w14).bind fun w20 =>
  fm_Writer_putSite_j67 a1 a2 a3 w20)
set_option maxHeartbeats 4000000 in
set_option maxRecDepth 100000 in
theorem c_Writer_putSite_j39 {p : Program} {l : Launch} {e : Env} {s : State} {m : MethodId} {args : Array Value} {below : List Frame} {meth : Method} {c : Code} {hh : Nat} {D : va_G} {b : Nat} {aC : Nat → ClassId} {H0 : Heap} {N T : Nat} (X : fa_GX p s m args meth c prog_10_method_14_code 5 ((Option.none : Option Jvm.ClassFile.FieldType)) y_Writer_putSite.cls D b aC) (hle : 5 ≤ hh) (hN : fa_NX ≤ N) (hT : fa_TX ≤ T) (a1 : Nat) (a2 : Int) (a3 : Int) (ha1 : (fa_sh a1).1 = 7) {r : fa_W}  : ∀ (x4 : Int) (s0 : Fin 35) (w : fa_W) (_ : fm_Writer_putSite_j39 a1 a2 a3 x4 s0 w = some r), fa_GJ p l e (fa_rm hh) s m args below meth c 0 0 (MQ below (fa_Qc D b aC H0 N T (none) r) args s 0 0 (fun q => b ≤ q)) D b aC H0 N T 5 w 39 [(0, .ref (b + 37)), (1, .ref (b + a1)), (3, .int (fa_I a3)), (4, .int (fa_I x4))] [.ref (D.2 100 (s0).val), .ref (b + 37)] := by
  intro x4 s0 w hM
  unfold fm_Writer_putSite_j39 at hM
  obtain ⟨w14, e13, hM⟩ := fa_ob hM
  refine g_callV_v X ck_9 fo_37 (fa_xn fo_37 (by decide) hN) rfl mi_Writer_putText (c_Writer_putText hN hT s0 w _ e13) wd_763 rfl (Nat.le_trans (Nat.le_of_ble_eq_true rfl) hle) (st := []) (Nat.le_of_ble_eq_true rfl) rfl d_Writer_putSite_39 ?_
  refine g_iload X 3 rfl d_Writer_putSite_42 ?_
  refine g_if_eq X 67 d_Writer_putSite_44 (by decide) (fun hc15 => ?_) (fun hc15 => ?_)
  · have hM := fa_if_t hM hc15
    exact g_lv [0, 2] rfl (c_Writer_putSite_j67 X hle hN hT a1 a2 a3 ha1    _ hM)
  · have hM := fa_if_f hM hc15
    refine g_aload_n X 0 rfl d_Writer_putSite_47 ?_
    refine g_aload_n X 1 rfl d_Writer_putSite_48 ?_
    refine g_getN X ck_7 ha1 (fa_xn ha1 (by decide) hN) 3 (by decide) wd_397 rfl (fa_fvR rfl (fa_xt ha1 (by decide) hT 3)) d_Writer_putSite_49 ?_
    refine g_aload_n X 0 rfl d_Writer_putSite_52 ?_
    refine g_get X ck_9 fo_37 (fa_xn fo_37 (by decide) hN) 4 (by decide) wd_203 rfl (fa_fvI rfl) d_Writer_putSite_53 ?_
    refine g_iload X 3 rfl d_Writer_putSite_56 ?_
    refine g_callSN_i X mi_Face_lowest (c_Face_lowest hN hT x4 w14 _ rfl) wd_880 rfl (Nat.le_trans (Nat.le_of_ble_eq_true rfl) hle) (st := [.int (fa_I (w14 37 4)), .ref (b + (fa_rf a1 3)), .ref (b + 37)]) (Nat.le_of_ble_eq_true rfl) rfl d_Writer_putSite_58 ?_
    obtain ⟨v18, e17, hM⟩ := fa_ob hM
    refine g_callV_i X ck_2 (fa_r7_3 _ ha1) (fa_xn (fa_r7_3 _ ha1) (by decide) hN) rfl mi_Groups_groupOf (c_Groups_groupOf hN hT (fa_rf a1 3) (w14 37 4) (fm_Face_lowest x4 w14) (fa_r7_3 _ ha1) w14 _ e17) wd_881 rfl (Nat.le_trans (Nat.le_of_ble_eq_true rfl) hle) (st := [.ref (b + 37)]) (Nat.le_of_ble_eq_true rfl) rfl d_Writer_putSite_61 ?_
    obtain ⟨w20, e19, hM⟩ := fa_ob hM
    refine g_callV_v X ck_9 fo_37 (fa_xn fo_37 (by decide) hN) rfl mi_Writer_putNumber (c_Writer_putNumber hN hT v18 w14 _ e19) wd_832 rfl (Nat.le_trans (Nat.le_of_ble_eq_true rfl) hle) (st := []) (Nat.le_of_ble_eq_true rfl) rfl d_Writer_putSite_64 ?_
    exact g_lv [0, 2] rfl (c_Writer_putSite_j67 X hle hN hT a1 a2 a3 ha1    _ hM)
def fm_Writer_putSite (a1 : Nat) (a2 : Int) (a3 : Int) (w : fa_W) : Option fa_W :=
  if fa_wr a3 = 0 then
  (if fa_wr (w 37 4) = (-1) then
  fm_Writer_putSite_j67 a1 a2 a3 w
  else
  (fa_let (fm_Flow_applied (fa_rf a1 2) (fa_rf a1 0) a2 w) fun x4_11 =>
  if fa_wr x4_11 = 0 then
  fm_Writer_putSite_j39 a1 a2 a3 x4_11 (21 : Fin 35) w
  else
  fm_Writer_putSite_j39 a1 a2 a3 x4_11 (7 : Fin 35) w))
  else
  fm_Writer_putSite_j67 a1 a2 a3 w
set_option maxHeartbeats 4000000 in
set_option maxRecDepth 100000 in
theorem c_Writer_putSite {l : Launch} {D : va_G} {b : Nat} {aC : Nat → ClassId} {H0 : Heap} {N T : Nat} (hN : fa_NX ≤ N) (hT : fa_TX ≤ T) (a1 : Nat) (a2 : Int) (a3 : Int) (ha1 : (fa_sh a1).1 = 7)  (w : fa_W) (r : fa_W) (hM : fm_Writer_putSite a1 a2 a3 w = some r) : fa_MC l D b aC H0 N T y_Writer_putSite prog_10_method_14_code 5 ((Option.none : Option Jvm.ClassFile.FieldType)) (5) [.ref (b + 37), .ref (b + a1), .int (fa_I a2), .int (fa_I a3)] w (none) r := by
  refine fa_enter (lv := [(0, .ref (b + 37)), (1, .ref (b + a1)), (2, .int (fa_I a2)), (3, .int (fa_I a3))]) (by decide +kernel) (Nat.le_of_ble_eq_true rfl) rfl (fun hh hle hnm X => ?_)
  unfold fm_Writer_putSite at hM
  refine g_iload_n X 3 rfl d_Writer_putSite_0 ?_
  refine g_if_ne X 67 d_Writer_putSite_1 (by decide) (fun hc1 => ?_) (fun hc1 => ?_)
  · have hM := fa_if_f hM hc1
    exact g_lv [0, 3] rfl (c_Writer_putSite_j67 X hle hN hT a1 a2 a3 ha1    _ hM)
  · have hM := fa_if_t hM hc1
    refine g_aload_n X 0 rfl d_Writer_putSite_4 ?_
    refine g_get X ck_9 fo_37 (fa_xn fo_37 (by decide) hN) 4 (by decide) wd_203 rfl (fa_fvI rfl) d_Writer_putSite_5 ?_
    refine g_iconst X d_Writer_putSite_8 ?_
    refine g_icmp_eq X 67 d_Writer_putSite_9 (by decide) (fun hc9 => ?_) (fun hc9 => ?_)
    · have hM := fa_if_t hM hc9
      exact g_lv [0, 3] rfl (c_Writer_putSite_j67 X hle hN hT a1 a2 a3 ha1    _ hM)
    · have hM := fa_if_f hM hc9
      refine g_aload_n X 1 rfl d_Writer_putSite_12 ?_
      refine g_getN X ck_7 ha1 (fa_xn ha1 (by decide) hN) 2 (by decide) wd_393 rfl (fa_fvR rfl (fa_xt ha1 (by decide) hT 2)) d_Writer_putSite_13 ?_
      refine g_aload_n X 1 rfl d_Writer_putSite_16 ?_
      refine g_getN X ck_7 ha1 (fa_xn ha1 (by decide) hN) 0 (by decide) wd_387 rfl (fa_fvR rfl (fa_xt ha1 (by decide) hT 0)) d_Writer_putSite_17 ?_
      refine g_iload_n X 2 rfl d_Writer_putSite_20 ?_
      refine g_callV_i X ck_1 (fa_r7_2 _ ha1) (fa_xn (fa_r7_2 _ ha1) (by decide) hN) rfl mi_Flow_applied (c_Flow_applied hN hT (fa_rf a1 2) (fa_rf a1 0) a2 (fa_r7_2 _ ha1) (fa_r7_0 _ ha1) w _ rfl) wd_877 rfl (Nat.le_trans (Nat.le_of_ble_eq_true rfl) hle) (st := []) (Nat.le_of_ble_eq_true rfl) rfl d_Writer_putSite_21 ?_
      refine g_istore X (fun x4_11 => [(4, .int (fa_I x4_11)), (0, .ref (b + 37)), (1, .ref (b + a1)), (2, .int (fa_I a2)), (3, .int (fa_I a3))]) d_Writer_putSite_24 (by decide) (fun _ => rfl) (fun x4_11 ex4_11 => ?_)
      have hM := fa_let_to hM ex4_11
      refine g_aload_n X 1 rfl d_Writer_putSite_26 ?_
      refine g_iload X 0 rfl d_Writer_putSite_27 ?_
      refine g_if_ne X 37 d_Writer_putSite_29 (by decide) (fun hc12 => ?_) (fun hc12 => ?_)
      · have hM := fa_if_f hM hc12
        refine g_ldcs X (7 : Fin 35) (List.mem_of_getElem? (i := 7) rfl) d_Writer_putSite_37 ?_
        exact g_lv [1, 2, 4, 0] rfl (c_Writer_putSite_j39 X hle hN hT a1 a2 a3 ha1    _ _ _ hM)
      · have hM := fa_if_t hM hc12
        refine g_ldcs X (21 : Fin 35) (List.mem_of_getElem? (i := 21) rfl) d_Writer_putSite_32 ?_
        refine g_goto X 39 d_Writer_putSite_34 (by decide) ?_
        exact g_lv [1, 2, 4, 0] rfl (c_Writer_putSite_j39 X hle hN hT a1 a2 a3 ha1    _ _ _ hM)
theorem d_Writer_putPiece_0 : decode prog_10_method_8_code 0 = .ok (.aload_n 1, 1) := by decide +kernel
theorem d_Writer_putPiece_1 : decode prog_10_method_8_code 1 = .ok (.getfield 43, 3) := by decide +kernel
theorem d_Writer_putPiece_4 : decode prog_10_method_8_code 4 = .ok (.astore 4, 2) := by decide +kernel
theorem d_Writer_putPiece_6 : decode prog_10_method_8_code 6 = .ok (.aload 4, 2) := by decide +kernel
theorem d_Writer_putPiece_8 : decode prog_10_method_8_code 8 = .ok (.iload_n 2, 1) := by decide +kernel
theorem d_Writer_putPiece_9 : decode prog_10_method_8_code 9 = .ok (.invokevirtual 162, 3) := by decide +kernel
theorem d_Writer_putPiece_12 : decode prog_10_method_8_code 12 = .ok (.istore 5, 2) := by decide +kernel
theorem d_Writer_putPiece_14 : decode prog_10_method_8_code 14 = .ok (.aload 4, 2) := by decide +kernel
theorem d_Writer_putPiece_16 : decode prog_10_method_8_code 16 = .ok (.iload_n 2, 1) := by decide +kernel
theorem d_Writer_putPiece_17 : decode prog_10_method_8_code 17 = .ok (.invokevirtual 156, 3) := by decide +kernel
theorem d_Writer_putPiece_20 : decode prog_10_method_8_code 20 = .ok (.tableswitch 179 1 9 #[52, 61, 78, 179, 78, 136, 147, 159, 169], 52) := by decide +kernel
theorem d_Writer_putPiece_72 : decode prog_10_method_8_code 72 = .ok (.aload_n 0, 1) := by decide +kernel
theorem d_Writer_putPiece_73 : decode prog_10_method_8_code 73 = .ok (.iload 5, 2) := by decide +kernel
theorem d_Writer_putPiece_75 : decode prog_10_method_8_code 75 = .ok (.invokevirtual 130, 3) := by decide +kernel
theorem d_Writer_putPiece_78 : decode prog_10_method_8_code 78 = .ok (.goto 127, 3) := by decide +kernel
theorem d_Writer_putPiece_81 : decode prog_10_method_8_code 81 = .ok (.aload_n 0, 1) := by decide +kernel
theorem d_Writer_putPiece_82 : decode prog_10_method_8_code 82 = .ok (.aload 4, 2) := by decide +kernel
theorem d_Writer_putPiece_84 : decode prog_10_method_8_code 84 = .ok (.getfield 69, 3) := by decide +kernel
theorem d_Writer_putPiece_87 : decode prog_10_method_8_code 87 = .ok (.iload 5, 2) := by decide +kernel
theorem d_Writer_putPiece_89 : decode prog_10_method_8_code 89 = .ok (.invokevirtual 63, 3) := by decide +kernel
theorem d_Writer_putPiece_92 : decode prog_10_method_8_code 92 = .ok (.invokevirtual 36, 3) := by decide +kernel
theorem d_Writer_putPiece_95 : decode prog_10_method_8_code 95 = .ok (.goto 110, 3) := by decide +kernel
theorem d_Writer_putPiece_98 : decode prog_10_method_8_code 98 = .ok (.aload_n 0, 1) := by decide +kernel
theorem d_Writer_putPiece_99 : decode prog_10_method_8_code 99 = .ok (.getfield 26, 3) := by decide +kernel
theorem d_Writer_putPiece_102 : decode prog_10_method_8_code 102 = .ok (.iconst (-1), 1) := by decide +kernel
theorem d_Writer_putPiece_103 : decode prog_10_method_8_code 103 = .ok (.if_icmp .eq 14, 3) := by decide +kernel
theorem d_Writer_putPiece_106 : decode prog_10_method_8_code 106 = .ok (.aload_n 0, 1) := by decide +kernel
theorem d_Writer_putPiece_107 : decode prog_10_method_8_code 107 = .ok (.aload 4, 2) := by decide +kernel
theorem d_Writer_putPiece_109 : decode prog_10_method_8_code 109 = .ok (.iload 5, 2) := by decide +kernel
theorem d_Writer_putPiece_111 : decode prog_10_method_8_code 111 = .ok (.invokevirtual 135, 3) := by decide +kernel
theorem d_Writer_putPiece_114 : decode prog_10_method_8_code 114 = .ok (.goto 91, 3) := by decide +kernel
theorem d_Writer_putPiece_117 : decode prog_10_method_8_code 117 = .ok (.aload 4, 2) := by decide +kernel
theorem d_Writer_putPiece_119 : decode prog_10_method_8_code 119 = .ok (.iload_n 2, 1) := by decide +kernel
theorem d_Writer_putPiece_120 : decode prog_10_method_8_code 120 = .ok (.invokevirtual 156, 3) := by decide +kernel
theorem d_Writer_putPiece_123 : decode prog_10_method_8_code 123 = .ok (.iconst 3, 1) := by decide +kernel
theorem d_Writer_putPiece_124 : decode prog_10_method_8_code 124 = .ok (.if_icmp .ne 20, 3) := by decide +kernel
theorem d_Writer_putPiece_127 : decode prog_10_method_8_code 127 = .ok (.aload_n 0, 1) := by decide +kernel
theorem d_Writer_putPiece_128 : decode prog_10_method_8_code 128 = .ok (.aload 4, 2) := by decide +kernel
theorem d_Writer_putPiece_130 : decode prog_10_method_8_code 130 = .ok (.getfield 60, 3) := by decide +kernel
theorem d_Writer_putPiece_133 : decode prog_10_method_8_code 133 = .ok (.iload 5, 2) := by decide +kernel
theorem d_Writer_putPiece_135 : decode prog_10_method_8_code 135 = .ok (.invokevirtual 63, 3) := by decide +kernel
theorem d_Writer_putPiece_138 : decode prog_10_method_8_code 138 = .ok (.invokevirtual 36, 3) := by decide +kernel
theorem d_Writer_putPiece_141 : decode prog_10_method_8_code 141 = .ok (.goto 64, 3) := by decide +kernel
theorem d_Writer_putPiece_144 : decode prog_10_method_8_code 144 = .ok (.aload_n 0, 1) := by decide +kernel
theorem d_Writer_putPiece_145 : decode prog_10_method_8_code 145 = .ok (.aload 4, 2) := by decide +kernel
theorem d_Writer_putPiece_147 : decode prog_10_method_8_code 147 = .ok (.iload 5, 2) := by decide +kernel
theorem d_Writer_putPiece_149 : decode prog_10_method_8_code 149 = .ok (.iload_n 3, 1) := by decide +kernel
theorem d_Writer_putPiece_150 : decode prog_10_method_8_code 150 = .ok (.invokevirtual 165, 3) := by decide +kernel
theorem d_Writer_putPiece_153 : decode prog_10_method_8_code 153 = .ok (.goto 52, 3) := by decide +kernel
theorem d_Writer_putPiece_156 : decode prog_10_method_8_code 156 = .ok (.aload_n 0, 1) := by decide +kernel
theorem d_Writer_putPiece_157 : decode prog_10_method_8_code 157 = .ok (.iload_n 3, 1) := by decide +kernel
theorem d_Writer_putPiece_158 : decode prog_10_method_8_code 158 = .ok (.invokestatic 168, 3) := by decide +kernel
theorem d_Writer_putPiece_161 : decode prog_10_method_8_code 161 = .ok (.invokevirtual 56, 3) := by decide +kernel
theorem d_Writer_putPiece_164 : decode prog_10_method_8_code 164 = .ok (.goto 41, 3) := by decide +kernel
theorem d_Writer_putPiece_167 : decode prog_10_method_8_code 167 = .ok (.aload_n 0, 1) := by decide +kernel
theorem d_Writer_putPiece_168 : decode prog_10_method_8_code 168 = .ok (.aload 4, 2) := by decide +kernel
theorem d_Writer_putPiece_170 : decode prog_10_method_8_code 170 = .ok (.iload 5, 2) := by decide +kernel
theorem d_Writer_putPiece_172 : decode prog_10_method_8_code 172 = .ok (.iload_n 3, 1) := by decide +kernel
theorem d_Writer_putPiece_173 : decode prog_10_method_8_code 173 = .ok (.invokevirtual 172, 3) := by decide +kernel
theorem d_Writer_putPiece_176 : decode prog_10_method_8_code 176 = .ok (.goto 29, 3) := by decide +kernel
theorem d_Writer_putPiece_179 : decode prog_10_method_8_code 179 = .ok (.aload_n 0, 1) := by decide +kernel
theorem d_Writer_putPiece_180 : decode prog_10_method_8_code 180 = .ok (.iload 5, 2) := by decide +kernel
theorem d_Writer_putPiece_182 : decode prog_10_method_8_code 182 = .ok (.iload_n 3, 1) := by decide +kernel
theorem d_Writer_putPiece_183 : decode prog_10_method_8_code 183 = .ok (.invokevirtual 175, 3) := by decide +kernel
theorem d_Writer_putPiece_186 : decode prog_10_method_8_code 186 = .ok (.goto 19, 3) := by decide +kernel
theorem d_Writer_putPiece_189 : decode prog_10_method_8_code 189 = .ok (.aload_n 0, 1) := by decide +kernel
theorem d_Writer_putPiece_190 : decode prog_10_method_8_code 190 = .ok (.aload_n 1, 1) := by decide +kernel
theorem d_Writer_putPiece_191 : decode prog_10_method_8_code 191 = .ok (.iload_n 2, 1) := by decide +kernel
theorem d_Writer_putPiece_192 : decode prog_10_method_8_code 192 = .ok (.iload_n 3, 1) := by decide +kernel
theorem d_Writer_putPiece_193 : decode prog_10_method_8_code 193 = .ok (.invokevirtual 179, 3) := by decide +kernel
theorem d_Writer_putPiece_196 : decode prog_10_method_8_code 196 = .ok (.goto 9, 3) := by decide +kernel
theorem d_Writer_putPiece_199 : decode prog_10_method_8_code 199 = .ok (.aload_n 0, 1) := by decide +kernel
theorem d_Writer_putPiece_200 : decode prog_10_method_8_code 200 = .ok (.ldc 182, 2) := by decide +kernel
theorem d_Writer_putPiece_202 : decode prog_10_method_8_code 202 = .ok (.invokevirtual 56, 3) := by decide +kernel
theorem d_Writer_putPiece_205 : decode prog_10_method_8_code 205 = .ok (.return_, 1) := by decide +kernel
def fm_Writer_putPiece (a1 : Nat) (a2 : Int) (a3 : Int) (w : fa_W) : Option fa_W :=
  fa_let (fm_Program_value (fa_rf a1 0) a2 w) fun x5_2 =>
  if fa_wr (fm_Program_kind (fa_rf a1 0) a2 w) = 1 then
  ((fm_Writer_putNumber x5_2 w).bind fun w6 =>
  some w6)
  else
  if fa_wr (fm_Program_kind (fa_rf a1 0) a2 w) = 2 then
  ((fm_Writer_putName (fr_at (fa_rf (fa_rf a1 0) 6) x5_2 w) w).bind fun w10 =>
  some w10)
  else
  if fa_wr (fm_Program_kind (fa_rf a1 0) a2 w) = 3 then
  (if fa_wr (w 37 4) = (-1) then
  (if fa_wr (fm_Program_kind (fa_rf a1 0) a2 w) = 3 then
  ((fm_Writer_putName (fr_at (fa_rf (fa_rf a1 0) 8) x5_2 w) w).bind fun w19 =>
  some w19)
  else
  ((fm_Writer_putLambda (fa_rf a1 0) x5_2 a3 w).bind fun w16 =>
  some w16))
  else
  ((fm_Writer_putData (fa_rf a1 0) x5_2 w).bind fun w21 =>
  some w21))
  else
  if fa_wr (fm_Program_kind (fa_rf a1 0) a2 w) = 5 then
  (if fa_wr (w 37 4) = (-1) then
  (if fa_wr (fm_Program_kind (fa_rf a1 0) a2 w) = 3 then
  ((fm_Writer_putName (fr_at (fa_rf (fa_rf a1 0) 8) x5_2 w) w).bind fun w30 =>
  some w30)
  else
  ((fm_Writer_putLambda (fa_rf a1 0) x5_2 a3 w).bind fun w27 =>
  some w27))
  else
  ((fm_Writer_putData (fa_rf a1 0) x5_2 w).bind fun w32 =>
  some w32))
  else
  if fa_wr (fm_Program_kind (fa_rf a1 0) a2 w) = 6 then
  ((fm_Writer_putText (fm_Writer_choicePiece a3 w) w).bind fun w36 =>
  some w36)
  else
  if fa_wr (fm_Program_kind (fa_rf a1 0) a2 w) = 7 then
  ((fm_Writer_putLet (fa_rf a1 0) x5_2 a3 w).bind fun w39 =>
  some w39)
  else
  if fa_wr (fm_Program_kind (fa_rf a1 0) a2 w) = 8 then
  ((fm_Writer_putOperator x5_2 a3 w).bind fun w42 =>
  some w42)
  else
  if fa_wr (fm_Program_kind (fa_rf a1 0) a2 w) = 9 then
  ((fm_Writer_putSite a1 a2 a3 w).bind fun w45 =>
  some w45)
  else
  ((fm_Writer_putText (10 : Fin 35) w).bind fun w47 =>
  some w47)
set_option maxHeartbeats 4000000 in
set_option maxRecDepth 100000 in
theorem c_Writer_putPiece {l : Launch} {D : va_G} {b : Nat} {aC : Nat → ClassId} {H0 : Heap} {N T : Nat} (hN : fa_NX ≤ N) (hT : fa_TX ≤ T) (a1 : Nat) (a2 : Int) (a3 : Int) (ha1 : (fa_sh a1).1 = 7)  (w : fa_W) (r : fa_W) (hM : fm_Writer_putPiece a1 a2 a3 w = some r) : fa_MC l D b aC H0 N T y_Writer_putPiece prog_10_method_8_code 6 ((Option.none : Option Jvm.ClassFile.FieldType)) (6) [.ref (b + 37), .ref (b + a1), .int (fa_I a2), .int (fa_I a3)] w (none) r := by
  refine fa_enter (lv := [(0, .ref (b + 37)), (1, .ref (b + a1)), (2, .int (fa_I a2)), (3, .int (fa_I a3))]) (by decide +kernel) (Nat.le_of_ble_eq_true rfl) rfl (fun hh hle hnm X => ?_)
  unfold fm_Writer_putPiece at hM
  refine g_aload_n X 1 rfl d_Writer_putPiece_0 ?_
  refine g_getN X ck_7 ha1 (fa_xn ha1 (by decide) hN) 0 (by decide) wd_387 rfl (fa_fvR rfl (fa_xt ha1 (by decide) hT 0)) d_Writer_putPiece_1 ?_
  refine g_astore X [(4, .ref (b + (fa_rf a1 0))), (0, .ref (b + 37)), (1, .ref (b + a1)), (2, .int (fa_I a2)), (3, .int (fa_I a3))] d_Writer_putPiece_4 (by decide) rfl ?_
  refine g_aload X 0 rfl d_Writer_putPiece_6 ?_
  refine g_iload_n X 3 rfl d_Writer_putPiece_8 ?_
  refine g_callV_i X ck_4 (fa_r7_0 _ ha1) (fa_xn (fa_r7_0 _ ha1) (by decide) hN) rfl mi_Program_value (c_Program_value hN hT (fa_rf a1 0) a2 (fa_r7_0 _ ha1) w _ rfl) wd_830 rfl (Nat.le_trans (Nat.le_of_ble_eq_true rfl) hle) (st := []) (Nat.le_of_ble_eq_true rfl) rfl d_Writer_putPiece_9 ?_
  refine g_istore X (fun x5_2 => [(5, .int (fa_I x5_2)), (4, .ref (b + (fa_rf a1 0))), (0, .ref (b + 37)), (1, .ref (b + a1)), (2, .int (fa_I a2)), (3, .int (fa_I a3))]) d_Writer_putPiece_12 (by decide) (fun _ => rfl) (fun x5_2 ex5_2 => ?_)
  have hM := fa_let_to hM ex5_2
  refine g_aload X 1 rfl d_Writer_putPiece_14 ?_
  refine g_iload_n X 4 rfl d_Writer_putPiece_16 ?_
  refine g_callV_i X ck_4 (fa_r7_0 _ ha1) (fa_xn (fa_r7_0 _ ha1) (by decide) hN) rfl mi_Program_kind (c_Program_kind hN hT (fa_rf a1 0) a2 (fa_r7_0 _ ha1) w _ rfl) wd_831 rfl (Nat.le_trans (Nat.le_of_ble_eq_true rfl) hle) (st := []) (Nat.le_of_ble_eq_true rfl) rfl d_Writer_putPiece_17 ?_
  by_cases hc4 : fa_wr (fm_Program_kind (fa_rf a1 0) a2 w) = 1
  · have hM := fa_if_t hM hc4
    refine g_tableIn X 1 72 d_Writer_putPiece_20 hc4 (by decide) (by decide) rfl (by decide) ?_
    refine g_aload_n X 2 rfl d_Writer_putPiece_72 ?_
    refine g_iload X 0 rfl d_Writer_putPiece_73 ?_
    obtain ⟨w6, e5, hM⟩ := fa_ob hM
    refine g_callV_v X ck_9 fo_37 (fa_xn fo_37 (by decide) hN) rfl mi_Writer_putNumber (c_Writer_putNumber hN hT x5_2 w _ e5) wd_832 rfl (Nat.le_trans (Nat.le_of_ble_eq_true rfl) hle) (st := []) (Nat.le_of_ble_eq_true rfl) rfl d_Writer_putPiece_75 ?_
    refine g_goto X 205 d_Writer_putPiece_78 (by decide) ?_
    cases hM
    exact g_vret X d_Writer_putPiece_205
  have hM := fa_if_f hM hc4
  by_cases hc7 : fa_wr (fm_Program_kind (fa_rf a1 0) a2 w) = 2
  · have hM := fa_if_t hM hc7
    refine g_tableIn X 2 81 d_Writer_putPiece_20 hc7 (by decide) (by decide) rfl (by decide) ?_
    refine g_aload_n X 2 rfl d_Writer_putPiece_81 ?_
    refine g_aload X 1 rfl d_Writer_putPiece_82 ?_
    refine g_getN X ck_4 (fa_r7_0 _ ha1) (fa_xn (fa_r7_0 _ ha1) (by decide) hN) 6 (by decide) wd_75 rfl (fa_fvR rfl (fa_xt (fa_r7_0 _ ha1) (by decide) hT 6)) d_Writer_putPiece_84 ?_
    refine g_iload X 0 rfl d_Writer_putPiece_87 ?_
    refine g_callV_i X ck_6 (fa_r4_6 _ (fa_r7_0 _ ha1)) (fa_xn (fa_r4_6 _ (fa_r7_0 _ ha1)) (by decide) hN) rfl mi_Row_at (ct_Row_at (fa_rf (fa_rf a1 0) 6) x5_2 (fa_ro (fa_r4_6 _ (fa_r7_0 _ ha1)) hN hT) w _ rfl) wd_815 rfl (Nat.le_trans (Nat.le_of_ble_eq_true rfl) hle) (st := [.ref (b + 37)]) (Nat.le_of_ble_eq_true rfl) rfl d_Writer_putPiece_89 ?_
    obtain ⟨w10, e9, hM⟩ := fa_ob hM
    refine g_callV_v X ck_9 fo_37 (fa_xn fo_37 (by decide) hN) rfl mi_Writer_putName (c_Writer_putName hN hT (fr_at (fa_rf (fa_rf a1 0) 6) x5_2 w) w _ e9) wd_816 rfl (Nat.le_trans (Nat.le_of_ble_eq_true rfl) hle) (st := []) (Nat.le_of_ble_eq_true rfl) rfl d_Writer_putPiece_92 ?_
    refine g_goto X 205 d_Writer_putPiece_95 (by decide) ?_
    cases hM
    exact g_vret X d_Writer_putPiece_205
  have hM := fa_if_f hM hc7
  by_cases hc11 : fa_wr (fm_Program_kind (fa_rf a1 0) a2 w) = 3
  · have hM := fa_if_t hM hc11
    refine g_tableIn X 3 98 d_Writer_putPiece_20 hc11 (by decide) (by decide) rfl (by decide) ?_
    refine g_aload_n X 2 rfl d_Writer_putPiece_98 ?_
    refine g_get X ck_9 fo_37 (fa_xn fo_37 (by decide) hN) 4 (by decide) wd_203 rfl (fa_fvI rfl) d_Writer_putPiece_99 ?_
    refine g_iconst X d_Writer_putPiece_102 ?_
    refine g_icmp_eq X 117 d_Writer_putPiece_103 (by decide) (fun hc12 => ?_) (fun hc12 => ?_)
    · have hM := fa_if_t hM hc12
      refine g_aload X 1 rfl d_Writer_putPiece_117 ?_
      refine g_iload_n X 4 rfl d_Writer_putPiece_119 ?_
      refine g_callV_i X ck_4 (fa_r7_0 _ ha1) (fa_xn (fa_r7_0 _ ha1) (by decide) hN) rfl mi_Program_kind (c_Program_kind hN hT (fa_rf a1 0) a2 (fa_r7_0 _ ha1) w _ rfl) wd_831 rfl (Nat.le_trans (Nat.le_of_ble_eq_true rfl) hle) (st := []) (Nat.le_of_ble_eq_true rfl) rfl d_Writer_putPiece_120 ?_
      refine g_iconst X d_Writer_putPiece_123 ?_
      refine g_icmp_ne X 144 d_Writer_putPiece_124 (by decide) (fun hc14 => ?_) (fun hc14 => ?_)
      · have hM := fa_if_f hM hc14
        refine g_aload_n X 2 rfl d_Writer_putPiece_144 ?_
        refine g_aload X 1 rfl d_Writer_putPiece_145 ?_
        refine g_iload X 0 rfl d_Writer_putPiece_147 ?_
        refine g_iload_n X 5 rfl d_Writer_putPiece_149 ?_
        obtain ⟨w16, e15, hM⟩ := fa_ob hM
        refine g_callV_v X ck_9 fo_37 (fa_xn fo_37 (by decide) hN) rfl mi_Writer_putLambda (c_Writer_putLambda hN hT (fa_rf a1 0) x5_2 a3 (fa_r7_0 _ ha1) w _ e15) wd_851 rfl (Nat.le_trans (Nat.le_of_ble_eq_true rfl) hle) (st := []) (Nat.le_of_ble_eq_true rfl) rfl d_Writer_putPiece_150 ?_
        refine g_goto X 205 d_Writer_putPiece_153 (by decide) ?_
        cases hM
        exact g_vret X d_Writer_putPiece_205
      · have hM := fa_if_t hM hc14
        refine g_aload_n X 2 rfl d_Writer_putPiece_127 ?_
        refine g_aload X 1 rfl d_Writer_putPiece_128 ?_
        refine g_getN X ck_4 (fa_r7_0 _ ha1) (fa_xn (fa_r7_0 _ ha1) (by decide) hN) 8 (by decide) wd_80 rfl (fa_fvR rfl (fa_xt (fa_r7_0 _ ha1) (by decide) hT 8)) d_Writer_putPiece_130 ?_
        refine g_iload X 0 rfl d_Writer_putPiece_133 ?_
        refine g_callV_i X ck_6 (fa_r4_8 _ (fa_r7_0 _ ha1)) (fa_xn (fa_r4_8 _ (fa_r7_0 _ ha1)) (by decide) hN) rfl mi_Row_at (ct_Row_at (fa_rf (fa_rf a1 0) 8) x5_2 (fa_ro (fa_r4_8 _ (fa_r7_0 _ ha1)) hN hT) w _ rfl) wd_815 rfl (Nat.le_trans (Nat.le_of_ble_eq_true rfl) hle) (st := [.ref (b + 37)]) (Nat.le_of_ble_eq_true rfl) rfl d_Writer_putPiece_135 ?_
        obtain ⟨w19, e18, hM⟩ := fa_ob hM
        refine g_callV_v X ck_9 fo_37 (fa_xn fo_37 (by decide) hN) rfl mi_Writer_putName (c_Writer_putName hN hT (fr_at (fa_rf (fa_rf a1 0) 8) x5_2 w) w _ e18) wd_816 rfl (Nat.le_trans (Nat.le_of_ble_eq_true rfl) hle) (st := []) (Nat.le_of_ble_eq_true rfl) rfl d_Writer_putPiece_138 ?_
        refine g_goto X 205 d_Writer_putPiece_141 (by decide) ?_
        cases hM
        exact g_vret X d_Writer_putPiece_205
    · have hM := fa_if_f hM hc12
      refine g_aload_n X 2 rfl d_Writer_putPiece_106 ?_
      refine g_aload X 1 rfl d_Writer_putPiece_107 ?_
      refine g_iload X 0 rfl d_Writer_putPiece_109 ?_
      obtain ⟨w21, e20, hM⟩ := fa_ob hM
      refine g_callV_v X ck_9 fo_37 (fa_xn fo_37 (by decide) hN) rfl mi_Writer_putData (c_Writer_putData hN hT (fa_rf a1 0) x5_2 (fa_r7_0 _ ha1) w _ e20) wd_836 rfl (Nat.le_trans (Nat.le_of_ble_eq_true rfl) hle) (st := []) (Nat.le_of_ble_eq_true rfl) rfl d_Writer_putPiece_111 ?_
      refine g_goto X 205 d_Writer_putPiece_114 (by decide) ?_
      cases hM
      exact g_vret X d_Writer_putPiece_205
  have hM := fa_if_f hM hc11
  by_cases hc22 : fa_wr (fm_Program_kind (fa_rf a1 0) a2 w) = 5
  · have hM := fa_if_t hM hc22
    refine g_tableIn X 5 98 d_Writer_putPiece_20 hc22 (by decide) (by decide) rfl (by decide) ?_
    refine g_aload_n X 2 rfl d_Writer_putPiece_98 ?_
    refine g_get X ck_9 fo_37 (fa_xn fo_37 (by decide) hN) 4 (by decide) wd_203 rfl (fa_fvI rfl) d_Writer_putPiece_99 ?_
    refine g_iconst X d_Writer_putPiece_102 ?_
    refine g_icmp_eq X 117 d_Writer_putPiece_103 (by decide) (fun hc23 => ?_) (fun hc23 => ?_)
    · have hM := fa_if_t hM hc23
      refine g_aload X 1 rfl d_Writer_putPiece_117 ?_
      refine g_iload_n X 4 rfl d_Writer_putPiece_119 ?_
      refine g_callV_i X ck_4 (fa_r7_0 _ ha1) (fa_xn (fa_r7_0 _ ha1) (by decide) hN) rfl mi_Program_kind (c_Program_kind hN hT (fa_rf a1 0) a2 (fa_r7_0 _ ha1) w _ rfl) wd_831 rfl (Nat.le_trans (Nat.le_of_ble_eq_true rfl) hle) (st := []) (Nat.le_of_ble_eq_true rfl) rfl d_Writer_putPiece_120 ?_
      refine g_iconst X d_Writer_putPiece_123 ?_
      refine g_icmp_ne X 144 d_Writer_putPiece_124 (by decide) (fun hc25 => ?_) (fun hc25 => ?_)
      · have hM := fa_if_f hM hc25
        refine g_aload_n X 2 rfl d_Writer_putPiece_144 ?_
        refine g_aload X 1 rfl d_Writer_putPiece_145 ?_
        refine g_iload X 0 rfl d_Writer_putPiece_147 ?_
        refine g_iload_n X 5 rfl d_Writer_putPiece_149 ?_
        obtain ⟨w27, e26, hM⟩ := fa_ob hM
        refine g_callV_v X ck_9 fo_37 (fa_xn fo_37 (by decide) hN) rfl mi_Writer_putLambda (c_Writer_putLambda hN hT (fa_rf a1 0) x5_2 a3 (fa_r7_0 _ ha1) w _ e26) wd_851 rfl (Nat.le_trans (Nat.le_of_ble_eq_true rfl) hle) (st := []) (Nat.le_of_ble_eq_true rfl) rfl d_Writer_putPiece_150 ?_
        refine g_goto X 205 d_Writer_putPiece_153 (by decide) ?_
        cases hM
        exact g_vret X d_Writer_putPiece_205
      · have hM := fa_if_t hM hc25
        refine g_aload_n X 2 rfl d_Writer_putPiece_127 ?_
        refine g_aload X 1 rfl d_Writer_putPiece_128 ?_
        refine g_getN X ck_4 (fa_r7_0 _ ha1) (fa_xn (fa_r7_0 _ ha1) (by decide) hN) 8 (by decide) wd_80 rfl (fa_fvR rfl (fa_xt (fa_r7_0 _ ha1) (by decide) hT 8)) d_Writer_putPiece_130 ?_
        refine g_iload X 0 rfl d_Writer_putPiece_133 ?_
        refine g_callV_i X ck_6 (fa_r4_8 _ (fa_r7_0 _ ha1)) (fa_xn (fa_r4_8 _ (fa_r7_0 _ ha1)) (by decide) hN) rfl mi_Row_at (ct_Row_at (fa_rf (fa_rf a1 0) 8) x5_2 (fa_ro (fa_r4_8 _ (fa_r7_0 _ ha1)) hN hT) w _ rfl) wd_815 rfl (Nat.le_trans (Nat.le_of_ble_eq_true rfl) hle) (st := [.ref (b + 37)]) (Nat.le_of_ble_eq_true rfl) rfl d_Writer_putPiece_135 ?_
        obtain ⟨w30, e29, hM⟩ := fa_ob hM
        refine g_callV_v X ck_9 fo_37 (fa_xn fo_37 (by decide) hN) rfl mi_Writer_putName (c_Writer_putName hN hT (fr_at (fa_rf (fa_rf a1 0) 8) x5_2 w) w _ e29) wd_816 rfl (Nat.le_trans (Nat.le_of_ble_eq_true rfl) hle) (st := []) (Nat.le_of_ble_eq_true rfl) rfl d_Writer_putPiece_138 ?_
        refine g_goto X 205 d_Writer_putPiece_141 (by decide) ?_
        cases hM
        exact g_vret X d_Writer_putPiece_205
    · have hM := fa_if_f hM hc23
      refine g_aload_n X 2 rfl d_Writer_putPiece_106 ?_
      refine g_aload X 1 rfl d_Writer_putPiece_107 ?_
      refine g_iload X 0 rfl d_Writer_putPiece_109 ?_
      obtain ⟨w32, e31, hM⟩ := fa_ob hM
      refine g_callV_v X ck_9 fo_37 (fa_xn fo_37 (by decide) hN) rfl mi_Writer_putData (c_Writer_putData hN hT (fa_rf a1 0) x5_2 (fa_r7_0 _ ha1) w _ e31) wd_836 rfl (Nat.le_trans (Nat.le_of_ble_eq_true rfl) hle) (st := []) (Nat.le_of_ble_eq_true rfl) rfl d_Writer_putPiece_111 ?_
      refine g_goto X 205 d_Writer_putPiece_114 (by decide) ?_
      cases hM
      exact g_vret X d_Writer_putPiece_205
  have hM := fa_if_f hM hc22
  by_cases hc33 : fa_wr (fm_Program_kind (fa_rf a1 0) a2 w) = 6
  · have hM := fa_if_t hM hc33
    refine g_tableIn X 6 156 d_Writer_putPiece_20 hc33 (by decide) (by decide) rfl (by decide) ?_
    refine g_aload_n X 2 rfl d_Writer_putPiece_156 ?_
    refine g_iload_n X 5 rfl d_Writer_putPiece_157 ?_
    refine g_callS_i X mi_Writer_choicePiece (c_Writer_choicePiece hN hT a3 w _ rfl) wd_857 rfl (Nat.le_trans (Nat.le_of_ble_eq_true rfl) hle) (st := [.ref (b + 37)]) (Nat.le_of_ble_eq_true rfl) rfl d_Writer_putPiece_158 ?_
    obtain ⟨w36, e35, hM⟩ := fa_ob hM
    refine g_callV_v X ck_9 fo_37 (fa_xn fo_37 (by decide) hN) rfl mi_Writer_putText (c_Writer_putText hN hT (fm_Writer_choicePiece a3 w) w _ e35) wd_763 rfl (Nat.le_trans (Nat.le_of_ble_eq_true rfl) hle) (st := []) (Nat.le_of_ble_eq_true rfl) rfl d_Writer_putPiece_161 ?_
    refine g_goto X 205 d_Writer_putPiece_164 (by decide) ?_
    cases hM
    exact g_vret X d_Writer_putPiece_205
  have hM := fa_if_f hM hc33
  by_cases hc37 : fa_wr (fm_Program_kind (fa_rf a1 0) a2 w) = 7
  · have hM := fa_if_t hM hc37
    refine g_tableIn X 7 167 d_Writer_putPiece_20 hc37 (by decide) (by decide) rfl (by decide) ?_
    refine g_aload_n X 2 rfl d_Writer_putPiece_167 ?_
    refine g_aload X 1 rfl d_Writer_putPiece_168 ?_
    refine g_iload X 0 rfl d_Writer_putPiece_170 ?_
    refine g_iload_n X 5 rfl d_Writer_putPiece_172 ?_
    obtain ⟨w39, e38, hM⟩ := fa_ob hM
    refine g_callV_v X ck_9 fo_37 (fa_xn fo_37 (by decide) hN) rfl mi_Writer_putLet (c_Writer_putLet hN hT (fa_rf a1 0) x5_2 a3 (fa_r7_0 _ ha1) w _ e38) wd_863 rfl (Nat.le_trans (Nat.le_of_ble_eq_true rfl) hle) (st := []) (Nat.le_of_ble_eq_true rfl) rfl d_Writer_putPiece_173 ?_
    refine g_goto X 205 d_Writer_putPiece_176 (by decide) ?_
    cases hM
    exact g_vret X d_Writer_putPiece_205
  have hM := fa_if_f hM hc37
  by_cases hc40 : fa_wr (fm_Program_kind (fa_rf a1 0) a2 w) = 8
  · have hM := fa_if_t hM hc40
    refine g_tableIn X 8 179 d_Writer_putPiece_20 hc40 (by decide) (by decide) rfl (by decide) ?_
    refine g_aload_n X 2 rfl d_Writer_putPiece_179 ?_
    refine g_iload X 0 rfl d_Writer_putPiece_180 ?_
    refine g_iload_n X 5 rfl d_Writer_putPiece_182 ?_
    obtain ⟨w42, e41, hM⟩ := fa_ob hM
    refine g_callV_v X ck_9 fo_37 (fa_xn fo_37 (by decide) hN) rfl mi_Writer_putOperator (c_Writer_putOperator hN hT x5_2 a3 w _ e41) wd_869 rfl (Nat.le_trans (Nat.le_of_ble_eq_true rfl) hle) (st := []) (Nat.le_of_ble_eq_true rfl) rfl d_Writer_putPiece_183 ?_
    refine g_goto X 205 d_Writer_putPiece_186 (by decide) ?_
    cases hM
    exact g_vret X d_Writer_putPiece_205
  have hM := fa_if_f hM hc40
  by_cases hc43 : fa_wr (fm_Program_kind (fa_rf a1 0) a2 w) = 9
  · have hM := fa_if_t hM hc43
    refine g_tableIn X 9 189 d_Writer_putPiece_20 hc43 (by decide) (by decide) rfl (by decide) ?_
    refine g_aload_n X 2 rfl d_Writer_putPiece_189 ?_
    refine g_aload_n X 3 rfl d_Writer_putPiece_190 ?_
    refine g_iload_n X 4 rfl d_Writer_putPiece_191 ?_
    refine g_iload_n X 5 rfl d_Writer_putPiece_192 ?_
    obtain ⟨w45, e44, hM⟩ := fa_ob hM
    refine g_callV_v X ck_9 fo_37 (fa_xn fo_37 (by decide) hN) rfl mi_Writer_putSite (c_Writer_putSite hN hT a1 a2 a3 ha1 w _ e44) wd_873 rfl (Nat.le_trans (Nat.le_of_ble_eq_true rfl) hle) (st := []) (Nat.le_of_ble_eq_true rfl) rfl d_Writer_putPiece_193 ?_
    refine g_goto X 205 d_Writer_putPiece_196 (by decide) ?_
    cases hM
    exact g_vret X d_Writer_putPiece_205
  have hM := fa_if_f hM hc43
  refine g_tableDef X 199 d_Writer_putPiece_20 (by
    by_cases h9 : fa_wr (fm_Program_kind (fa_rf a1 0) a2 w) = 4
    · rw [h9]; exact Or.inr ⟨by decide, by decide, _, rfl, by decide⟩
    exact Or.inl (by omega)) (by decide) ?_
  refine g_aload_n X 2 rfl d_Writer_putPiece_199 ?_
  refine g_ldcs X (10 : Fin 35) (List.mem_of_getElem? (i := 10) rfl) d_Writer_putPiece_200 ?_
  obtain ⟨w47, e46, hM⟩ := fa_ob hM
  refine g_callV_v X ck_9 fo_37 (fa_xn fo_37 (by decide) hN) rfl mi_Writer_putText (c_Writer_putText hN hT (10 : Fin 35) w _ e46) wd_763 rfl (Nat.le_trans (Nat.le_of_ble_eq_true rfl) hle) (st := []) (Nat.le_of_ble_eq_true rfl) rfl d_Writer_putPiece_202 ?_
  cases hM
  exact g_vret X d_Writer_putPiece_205
theorem d_Writer_nextPart_0 : decode prog_10_method_7_code 0 = .ok (.aload_n 0, 1) := by decide +kernel
theorem d_Writer_nextPart_1 : decode prog_10_method_7_code 1 = .ok (.getfield 26, 3) := by decide +kernel
theorem d_Writer_nextPart_4 : decode prog_10_method_7_code 4 = .ok (.iconst (-1), 1) := by decide +kernel
theorem d_Writer_nextPart_5 : decode prog_10_method_7_code 5 = .ok (.if_icmp .eq 16, 3) := by decide +kernel
theorem d_Writer_nextPart_8 : decode prog_10_method_7_code 8 = .ok (.aload_n 1, 1) := by decide +kernel
theorem d_Writer_nextPart_9 : decode prog_10_method_7_code 9 = .ok (.iload_n 2, 1) := by decide +kernel
theorem d_Writer_nextPart_10 : decode prog_10_method_7_code 10 = .ok (.invokevirtual 156, 3) := by decide +kernel
theorem d_Writer_nextPart_13 : decode prog_10_method_7_code 13 = .ok (.iconst 5, 1) := by decide +kernel
theorem d_Writer_nextPart_14 : decode prog_10_method_7_code 14 = .ok (.if_icmp .ne 7, 3) := by decide +kernel
theorem d_Writer_nextPart_17 : decode prog_10_method_7_code 17 = .ok (.iconst 1, 1) := by decide +kernel
theorem d_Writer_nextPart_18 : decode prog_10_method_7_code 18 = .ok (.goto 4, 3) := by decide +kernel
theorem d_Writer_nextPart_21 : decode prog_10_method_7_code 21 = .ok (.iconst 0, 1) := by decide +kernel
theorem d_Writer_nextPart_22 : decode prog_10_method_7_code 22 = .ok (.istore 4, 2) := by decide +kernel
theorem d_Writer_nextPart_24 : decode prog_10_method_7_code 24 = .ok (.iload 4, 2) := by decide +kernel
theorem d_Writer_nextPart_26 : decode prog_10_method_7_code 26 = .ok (.ifCond .eq 7, 3) := by decide +kernel
theorem d_Writer_nextPart_29 : decode prog_10_method_7_code 29 = .ok (.iconst (-1), 1) := by decide +kernel
theorem d_Writer_nextPart_30 : decode prog_10_method_7_code 30 = .ok (.goto 9, 3) := by decide +kernel
theorem d_Writer_nextPart_33 : decode prog_10_method_7_code 33 = .ok (.aload_n 1, 1) := by decide +kernel
theorem d_Writer_nextPart_34 : decode prog_10_method_7_code 34 = .ok (.iload_n 2, 1) := by decide +kernel
theorem d_Writer_nextPart_35 : decode prog_10_method_7_code 35 = .ok (.iload_n 3, 1) := by decide +kernel
theorem d_Writer_nextPart_36 : decode prog_10_method_7_code 36 = .ok (.invokevirtual 159, 3) := by decide +kernel
theorem d_Writer_nextPart_39 : decode prog_10_method_7_code 39 = .ok (.ireturn, 1) := by decide +kernel
def fm_Writer_nextPart_j22 (a1 : Nat) (a2 : Int) (a3 : Int) (w : fa_W) (s0 : Bool) : Int :=
  if s0 = true then
  (-1)
  else
  fm_Program_part a1 a2 a3 w
set_option maxHeartbeats 4000000 in
set_option maxRecDepth 100000 in
theorem c_Writer_nextPart_j22 {p : Program} {l : Launch} {e : Env} {s : State} {m : MethodId} {args : Array Value} {below : List Frame} {meth : Method} {c : Code} {hh : Nat} {D : va_G} {b : Nat} {aC : Nat → ClassId} {H0 : Heap} {N T : Nat} (X : fa_GX p s m args meth c prog_10_method_7_code 5 ((Option.some Jvm.ClassFile.FieldType.int)) y_Writer_nextPart.cls D b aC) (hle : 2 ≤ hh) (hN : fa_NX ≤ N) (hT : fa_TX ≤ T) (a1 : Nat) (a2 : Int) (a3 : Int) (ha1 : (fa_sh a1).1 = 4) {r : Int} (w : fa_W) : ∀ (s0 : Bool) (_ : fm_Writer_nextPart_j22 a1 a2 a3 w s0 = r), fa_GJ p l e (fa_rm hh) s m args below meth c 0 0 (MQ below (fa_Qc D b aC H0 N T (some (.int (fa_I r))) w) args s 0 0 (fun q => b ≤ q)) D b aC H0 N T 5 w 22 [(1, .ref (b + a1)), (2, .int (fa_I a2)), (3, .int (fa_I a3))] [.int (fa_I (fa_bi s0))] := by
  intro s0 hM
  unfold fm_Writer_nextPart_j22 at hM
  refine g_istorec X [(4, .int (fa_I (fa_bi s0))), (1, .ref (b + a1)), (2, .int (fa_I a2)), (3, .int (fa_I a3))] d_Writer_nextPart_22 (by decide) rfl ?_
  refine g_iload X 0 rfl d_Writer_nextPart_24 ?_
  refine g_ifb_eq X 33 d_Writer_nextPart_26 (by decide) (fun hc2 => ?_) (fun hc2 => ?_)
  · have hM := fa_ifb_f hM hc2
    refine g_aload_n X 1 rfl d_Writer_nextPart_33 ?_
    refine g_iload_n X 2 rfl d_Writer_nextPart_34 ?_
    refine g_iload_n X 3 rfl d_Writer_nextPart_35 ?_
    refine g_callV_i X ck_4 ha1 (fa_xn ha1 (by decide) hN) rfl mi_Program_part (c_Program_part hN hT a1 a2 a3 ha1 w _ rfl) wd_890 rfl (Nat.le_trans (Nat.le_of_ble_eq_true rfl) hle) (st := []) (Nat.le_of_ble_eq_true rfl) rfl d_Writer_nextPart_36 ?_
    subst hM
    exact g_iret X d_Writer_nextPart_39
  · have hM := fa_ifb_t hM hc2
    refine g_iconst X d_Writer_nextPart_29 ?_
    refine g_goto X 39 d_Writer_nextPart_30 (by decide) ?_
    subst hM
    exact g_iret X d_Writer_nextPart_39
def fm_Writer_nextPart_j21 (a1 : Nat) (a2 : Int) (a3 : Int) (w : fa_W) : Int :=
  fm_Writer_nextPart_j22 a1 a2 a3 w false
set_option maxHeartbeats 4000000 in
set_option maxRecDepth 100000 in
theorem c_Writer_nextPart_j21 {p : Program} {l : Launch} {e : Env} {s : State} {m : MethodId} {args : Array Value} {below : List Frame} {meth : Method} {c : Code} {hh : Nat} {D : va_G} {b : Nat} {aC : Nat → ClassId} {H0 : Heap} {N T : Nat} (X : fa_GX p s m args meth c prog_10_method_7_code 5 ((Option.some Jvm.ClassFile.FieldType.int)) y_Writer_nextPart.cls D b aC) (hle : 2 ≤ hh) (hN : fa_NX ≤ N) (hT : fa_TX ≤ T) (a1 : Nat) (a2 : Int) (a3 : Int) (ha1 : (fa_sh a1).1 = 4) {r : Int} (w : fa_W) : ∀  (_ : fm_Writer_nextPart_j21 a1 a2 a3 w = r), fa_GJ p l e (fa_rm hh) s m args below meth c 0 0 (MQ below (fa_Qc D b aC H0 N T (some (.int (fa_I r))) w) args s 0 0 (fun q => b ≤ q)) D b aC H0 N T 5 w 21 [(1, .ref (b + a1)), (2, .int (fa_I a2)), (3, .int (fa_I a3))] [] := by
  intro  hM
  unfold fm_Writer_nextPart_j21 at hM
  refine g_iconst X d_Writer_nextPart_21 ?_
  exact g_lv [0, 1, 2] rfl (c_Writer_nextPart_j22 X hle hN hT a1 a2 a3 ha1 w   _ hM)
def fm_Writer_nextPart (a1 : Nat) (a2 : Int) (a3 : Int) (w : fa_W) : Int :=
  if fa_wr (w 37 4) = (-1) then
  fm_Writer_nextPart_j21 a1 a2 a3 w
  else
  (if fa_wr (fm_Program_kind a1 a2 w) = 5 then
  fm_Writer_nextPart_j22 a1 a2 a3 w true
  else
  fm_Writer_nextPart_j21 a1 a2 a3 w)
set_option maxHeartbeats 4000000 in
set_option maxRecDepth 100000 in
theorem c_Writer_nextPart {l : Launch} {D : va_G} {b : Nat} {aC : Nat → ClassId} {H0 : Heap} {N T : Nat} (hN : fa_NX ≤ N) (hT : fa_TX ≤ T) (a1 : Nat) (a2 : Int) (a3 : Int) (ha1 : (fa_sh a1).1 = 4)  (w : fa_W) (r : Int) (hM : fm_Writer_nextPart a1 a2 a3 w = r) : fa_MC l D b aC H0 N T y_Writer_nextPart prog_10_method_7_code 5 ((Option.some Jvm.ClassFile.FieldType.int)) (2) [.ref (b + 37), .ref (b + a1), .int (fa_I a2), .int (fa_I a3)] w (some (.int (fa_I r))) w := by
  refine fa_enter (lv := [(0, .ref (b + 37)), (1, .ref (b + a1)), (2, .int (fa_I a2)), (3, .int (fa_I a3))]) (by decide +kernel) (Nat.le_of_ble_eq_true rfl) rfl (fun hh hle hnm X => ?_)
  unfold fm_Writer_nextPart at hM
  refine g_aload_n X 0 rfl d_Writer_nextPart_0 ?_
  refine g_get X ck_9 fo_37 (fa_xn fo_37 (by decide) hN) 4 (by decide) wd_203 rfl (fa_fvI rfl) d_Writer_nextPart_1 ?_
  refine g_iconst X d_Writer_nextPart_4 ?_
  refine g_icmp_eq X 21 d_Writer_nextPart_5 (by decide) (fun hc1 => ?_) (fun hc1 => ?_)
  · have hM := fa_if_t hM hc1
    exact g_lv [1, 2, 3] rfl (c_Writer_nextPart_j21 X hle hN hT a1 a2 a3 ha1 w    hM)
  · have hM := fa_if_f hM hc1
    refine g_aload_n X 1 rfl d_Writer_nextPart_8 ?_
    refine g_iload_n X 2 rfl d_Writer_nextPart_9 ?_
    refine g_callV_i X ck_4 ha1 (fa_xn ha1 (by decide) hN) rfl mi_Program_kind (c_Program_kind hN hT a1 a2 ha1 w _ rfl) wd_831 rfl (Nat.le_trans (Nat.le_of_ble_eq_true rfl) hle) (st := []) (Nat.le_of_ble_eq_true rfl) rfl d_Writer_nextPart_10 ?_
    refine g_iconst X d_Writer_nextPart_13 ?_
    refine g_icmp_ne X 21 d_Writer_nextPart_14 (by decide) (fun hc5 => ?_) (fun hc5 => ?_)
    · have hM := fa_if_f hM hc5
      exact g_lv [1, 2, 3] rfl (c_Writer_nextPart_j21 X hle hN hT a1 a2 a3 ha1 w    hM)
    · have hM := fa_if_t hM hc5
      refine g_iconst X d_Writer_nextPart_17 ?_
      refine g_goto X 22 d_Writer_nextPart_18 (by decide) ?_
      exact g_lv [1, 2, 3] rfl (c_Writer_nextPart_j22 X hle hN hT a1 a2 a3 ha1 w   _ hM)
theorem d_Writer_putExpression_0 : decode prog_10_method_6_code 0 = .ok (.aload_n 0, 1) := by decide +kernel
theorem d_Writer_putExpression_1 : decode prog_10_method_6_code 1 = .ok (.getfield 16, 3) := by decide +kernel
theorem d_Writer_putExpression_4 : decode prog_10_method_6_code 4 = .ok (.invokevirtual 33, 3) := by decide +kernel
theorem d_Writer_putExpression_7 : decode prog_10_method_6_code 7 = .ok (.aload_n 0, 1) := by decide +kernel
theorem d_Writer_putExpression_8 : decode prog_10_method_6_code 8 = .ok (.getfield 16, 3) := by decide +kernel
theorem d_Writer_putExpression_11 : decode prog_10_method_6_code 11 = .ok (.iload_n 2, 1) := by decide +kernel
theorem d_Writer_putExpression_12 : decode prog_10_method_6_code 12 = .ok (.iconst 4, 1) := by decide +kernel
theorem d_Writer_putExpression_13 : decode prog_10_method_6_code 13 = .ok (.imul, 1) := by decide +kernel
theorem d_Writer_putExpression_14 : decode prog_10_method_6_code 14 = .ok (.invokevirtual 141, 3) := by decide +kernel
theorem d_Writer_putExpression_17 : decode prog_10_method_6_code 17 = .ok (.iconst 0, 1) := by decide +kernel
theorem d_Writer_putExpression_18 : decode prog_10_method_6_code 18 = .ok (.istore_n 3, 1) := by decide +kernel
theorem d_Writer_putExpression_19 : decode prog_10_method_6_code 19 = .ok (.iload_n 3, 1) := by decide +kernel
theorem d_Writer_putExpression_20 : decode prog_10_method_6_code 20 = .ok (.ldc 144, 2) := by decide +kernel
theorem d_Writer_putExpression_22 : decode prog_10_method_6_code 22 = .ok (.if_icmp .ge 96, 3) := by decide +kernel
theorem d_Writer_putExpression_25 : decode prog_10_method_6_code 25 = .ok (.aload_n 0, 1) := by decide +kernel
theorem d_Writer_putExpression_26 : decode prog_10_method_6_code 26 = .ok (.getfield 16, 3) := by decide +kernel
theorem d_Writer_putExpression_29 : decode prog_10_method_6_code 29 = .ok (.invokevirtual 39, 3) := by decide +kernel
theorem d_Writer_putExpression_32 : decode prog_10_method_6_code 32 = .ok (.ifCond .le 86, 3) := by decide +kernel
theorem d_Writer_putExpression_35 : decode prog_10_method_6_code 35 = .ok (.aload_n 0, 1) := by decide +kernel
theorem d_Writer_putExpression_36 : decode prog_10_method_6_code 36 = .ok (.getfield 16, 3) := by decide +kernel
theorem d_Writer_putExpression_39 : decode prog_10_method_6_code 39 = .ok (.invokevirtual 145, 3) := by decide +kernel
theorem d_Writer_putExpression_42 : decode prog_10_method_6_code 42 = .ok (.istore 4, 2) := by decide +kernel
theorem d_Writer_putExpression_44 : decode prog_10_method_6_code 44 = .ok (.iload 4, 2) := by decide +kernel
theorem d_Writer_putExpression_46 : decode prog_10_method_6_code 46 = .ok (.iconst 4, 1) := by decide +kernel
theorem d_Writer_putExpression_47 : decode prog_10_method_6_code 47 = .ok (.idiv, 1) := by decide +kernel
theorem d_Writer_putExpression_48 : decode prog_10_method_6_code 48 = .ok (.istore 5, 2) := by decide +kernel
theorem d_Writer_putExpression_50 : decode prog_10_method_6_code 50 = .ok (.iload 4, 2) := by decide +kernel
theorem d_Writer_putExpression_52 : decode prog_10_method_6_code 52 = .ok (.iconst 4, 1) := by decide +kernel
theorem d_Writer_putExpression_53 : decode prog_10_method_6_code 53 = .ok (.irem, 1) := by decide +kernel
theorem d_Writer_putExpression_54 : decode prog_10_method_6_code 54 = .ok (.istore 6, 2) := by decide +kernel
theorem d_Writer_putExpression_56 : decode prog_10_method_6_code 56 = .ok (.aload_n 0, 1) := by decide +kernel
theorem d_Writer_putExpression_57 : decode prog_10_method_6_code 57 = .ok (.aload_n 1, 1) := by decide +kernel
theorem d_Writer_putExpression_58 : decode prog_10_method_6_code 58 = .ok (.iload 5, 2) := by decide +kernel
theorem d_Writer_putExpression_60 : decode prog_10_method_6_code 60 = .ok (.iload 6, 2) := by decide +kernel
theorem d_Writer_putExpression_62 : decode prog_10_method_6_code 62 = .ok (.invokevirtual 148, 3) := by decide +kernel
theorem d_Writer_putExpression_65 : decode prog_10_method_6_code 65 = .ok (.aload_n 0, 1) := by decide +kernel
theorem d_Writer_putExpression_66 : decode prog_10_method_6_code 66 = .ok (.aload_n 1, 1) := by decide +kernel
theorem d_Writer_putExpression_67 : decode prog_10_method_6_code 67 = .ok (.getfield 43, 3) := by decide +kernel
theorem d_Writer_putExpression_70 : decode prog_10_method_6_code 70 = .ok (.iload 5, 2) := by decide +kernel
theorem d_Writer_putExpression_72 : decode prog_10_method_6_code 72 = .ok (.iload 6, 2) := by decide +kernel
theorem d_Writer_putExpression_74 : decode prog_10_method_6_code 74 = .ok (.invokevirtual 152, 3) := by decide +kernel
theorem d_Writer_putExpression_77 : decode prog_10_method_6_code 77 = .ok (.istore 7, 2) := by decide +kernel
theorem d_Writer_putExpression_79 : decode prog_10_method_6_code 79 = .ok (.iload 7, 2) := by decide +kernel
theorem d_Writer_putExpression_81 : decode prog_10_method_6_code 81 = .ok (.iconst (-1), 1) := by decide +kernel
theorem d_Writer_putExpression_82 : decode prog_10_method_6_code 82 = .ok (.if_icmp .eq 30, 3) := by decide +kernel
theorem d_Writer_putExpression_85 : decode prog_10_method_6_code 85 = .ok (.aload_n 0, 1) := by decide +kernel
theorem d_Writer_putExpression_86 : decode prog_10_method_6_code 86 = .ok (.getfield 16, 3) := by decide +kernel
theorem d_Writer_putExpression_89 : decode prog_10_method_6_code 89 = .ok (.iload 5, 2) := by decide +kernel
theorem d_Writer_putExpression_91 : decode prog_10_method_6_code 91 = .ok (.iconst 4, 1) := by decide +kernel
theorem d_Writer_putExpression_92 : decode prog_10_method_6_code 92 = .ok (.imul, 1) := by decide +kernel
theorem d_Writer_putExpression_93 : decode prog_10_method_6_code 93 = .ok (.iload 6, 2) := by decide +kernel
theorem d_Writer_putExpression_95 : decode prog_10_method_6_code 95 = .ok (.iadd, 1) := by decide +kernel
theorem d_Writer_putExpression_96 : decode prog_10_method_6_code 96 = .ok (.iconst 1, 1) := by decide +kernel
theorem d_Writer_putExpression_97 : decode prog_10_method_6_code 97 = .ok (.iadd, 1) := by decide +kernel
theorem d_Writer_putExpression_98 : decode prog_10_method_6_code 98 = .ok (.invokevirtual 141, 3) := by decide +kernel
theorem d_Writer_putExpression_101 : decode prog_10_method_6_code 101 = .ok (.aload_n 0, 1) := by decide +kernel
theorem d_Writer_putExpression_102 : decode prog_10_method_6_code 102 = .ok (.getfield 16, 3) := by decide +kernel
theorem d_Writer_putExpression_105 : decode prog_10_method_6_code 105 = .ok (.iload 7, 2) := by decide +kernel
theorem d_Writer_putExpression_107 : decode prog_10_method_6_code 107 = .ok (.iconst 4, 1) := by decide +kernel
theorem d_Writer_putExpression_108 : decode prog_10_method_6_code 108 = .ok (.imul, 1) := by decide +kernel
theorem d_Writer_putExpression_109 : decode prog_10_method_6_code 109 = .ok (.invokevirtual 141, 3) := by decide +kernel
theorem d_Writer_putExpression_112 : decode prog_10_method_6_code 112 = .ok (.iinc 3 1, 3) := by decide +kernel
theorem d_Writer_putExpression_115 : decode prog_10_method_6_code 115 = .ok (.goto (-96), 3) := by decide +kernel
theorem d_Writer_putExpression_118 : decode prog_10_method_6_code 118 = .ok (.return_, 1) := by decide +kernel
def fm_Writer_putExpression_l19 (a1 : Nat) (a2 : Int) : Nat → Int → fa_W → Option fa_W
  | 0, _, _ => none
  | n + 1, x3, w => if 1000000 ≤ fa_wr x3 then
  some w
  else
  (if fa_wr (fm_Row_size 38 w) ≤ 0 then
  some w
  else
  (fa_l2 (fr_drop 38 w) fun v9 w10 =>
  fa_let (fa_idiv v9 4) fun x5_11 =>
  fa_let (fa_irem v9 4) fun x6_12 =>
  (fm_Writer_putPiece a1 x5_11 x6_12 w10).bind fun w14 =>
  fa_let (fm_Writer_nextPart (fa_rf a1 0) x5_11 x6_12 w14) fun x7_16 =>
  if fa_wr x7_16 = (-1) then
  (fa_let (x3 + 1) fun x3_18 =>
  fm_Writer_putExpression_l19 a1 a2 n x3_18 w14)
  else
  (fa_let (fr_add 38 (((x5_11 * 4) + x6_12) + 1) w14) fun w20 =>
  fa_let (fr_add 38 (x7_16 * 4) w20) fun w22 =>
  fa_let (x3 + 1) fun x3_23 =>
  fm_Writer_putExpression_l19 a1 a2 n x3_23 w22)))
set_option maxHeartbeats 4000000 in
set_option maxRecDepth 100000 in
theorem c_Writer_putExpression_l19 {p : Program} {l : Launch} {e : Env} {s : State} {m : MethodId} {args : Array Value} {below : List Frame} {meth : Method} {c : Code} {hh : Nat} {D : va_G} {b : Nat} {aC : Nat → ClassId} {H0 : Heap} {N T : Nat} (X : fa_GX p s m args meth c prog_10_method_6_code 8 ((Option.none : Option Jvm.ClassFile.FieldType)) y_Writer_putExpression.cls D b aC) (hle : 7 ≤ hh) (hN : fa_NX ≤ N) (hT : fa_TX ≤ T) (a1 : Nat) (a2 : Int) (ha1 : (fa_sh a1).1 = 7) {r : fa_W}  : ∀ (n : Nat) (x3 : Int) (w : fa_W), fm_Writer_putExpression_l19 a1 a2 n x3 w = some r → fa_GJ p l e (fa_rm hh) s m args below meth c 0 0 (MQ below (fa_Qc D b aC H0 N T (none) r) args s 0 0 (fun q => b ≤ q)) D b aC H0 N T 8 w 19 [(0, .ref (b + 37)), (1, .ref (b + a1)), (3, .int (fa_I x3))] [] := by
  intro n
  induction n with
  | zero => intro x3 w hM; exact fa_no hM
  | succ n ih =>
    intro x3 w hM
    rw [fm_Writer_putExpression_l19] at hM
    refine g_iload_n X 2 rfl d_Writer_putExpression_19 ?_
    refine g_ldc X (n := 1000000) wd_685 (by decide) d_Writer_putExpression_20 ?_
    refine g_icmp_ge X 118 d_Writer_putExpression_22 (by decide) (fun hc5 => ?_) (fun hc5 => ?_)
    · have hM := fa_if_t hM hc5
      cases hM
      exact g_vret X d_Writer_putExpression_118
    · have hM := fa_if_f hM hc5
      refine g_aload_n X 0 rfl d_Writer_putExpression_25 ?_
      refine g_get X ck_9 fo_37 (fa_xn fo_37 (by decide) hN) 1 (by decide) wd_200 rfl (fr_37_1 rfl hT) d_Writer_putExpression_26 ?_
      refine g_callV_i X ck_6 fo_38 (fa_xn fo_38 (by decide) hN) rfl mi_Row_size (c_Row_size 38 (fa_ro fo_38 hN hT) w _ rfl) wd_686 rfl (Nat.le_trans (Nat.le_of_ble_eq_true rfl) hle) (st := []) (Nat.le_of_ble_eq_true rfl) rfl d_Writer_putExpression_29 ?_
      refine g_if_le X 118 d_Writer_putExpression_32 (by decide) (fun hc7 => ?_) (fun hc7 => ?_)
      · have hM := fa_if_t hM hc7
        cases hM
        exact g_vret X d_Writer_putExpression_118
      · have hM := fa_if_f hM hc7
        refine g_aload_n X 0 rfl d_Writer_putExpression_35 ?_
        refine g_get X ck_9 fo_37 (fa_xn fo_37 (by decide) hN) 1 (by decide) wd_200 rfl (fr_37_1 rfl hT) d_Writer_putExpression_36 ?_
        obtain ⟨⟨v9, w10⟩, e8⟩ : ∃ q, fr_drop 38 w = q := ⟨_, rfl⟩
        have hM := fa_l2_e hM e8
        refine g_callV_i X ck_6 fo_38 (fa_xn fo_38 (by decide) hN) rfl mi_Row_drop (ct_Row_drop 38 (fa_ro fo_38 hN hT) w _ e8) wd_687 rfl (Nat.le_trans (Nat.le_of_ble_eq_true rfl) hle) (st := []) (Nat.le_of_ble_eq_true rfl) rfl d_Writer_putExpression_39 ?_
        refine g_istorec X [(4, .int (fa_I v9)), (0, .ref (b + 37)), (1, .ref (b + a1)), (3, .int (fa_I x3))] d_Writer_putExpression_42 (by decide) rfl ?_
        refine g_iload X 0 rfl d_Writer_putExpression_44 ?_
        refine g_iconst X d_Writer_putExpression_46 ?_
        refine g_idiv X (by decide) d_Writer_putExpression_47 ?_
        refine g_istore X (fun x5_11 => [(5, .int (fa_I x5_11)), (4, .int (fa_I v9)), (0, .ref (b + 37)), (1, .ref (b + a1)), (3, .int (fa_I x3))]) d_Writer_putExpression_48 (by decide) (fun _ => rfl) (fun x5_11 ex5_11 => ?_)
        have hM := fa_let_to hM ex5_11
        refine g_iload X 1 rfl d_Writer_putExpression_50 ?_
        refine g_iconst X d_Writer_putExpression_52 ?_
        refine g_irem X (by decide) d_Writer_putExpression_53 ?_
        refine g_istore X (fun x6_12 => [(6, .int (fa_I x6_12)), (5, .int (fa_I x5_11)), (4, .int (fa_I v9)), (0, .ref (b + 37)), (1, .ref (b + a1)), (3, .int (fa_I x3))]) d_Writer_putExpression_54 (by decide) (fun _ => rfl) (fun x6_12 ex6_12 => ?_)
        have hM := fa_let_to hM ex6_12
        refine g_aload_n X 3 rfl d_Writer_putExpression_56 ?_
        refine g_aload_n X 4 rfl d_Writer_putExpression_57 ?_
        refine g_iload X 1 rfl d_Writer_putExpression_58 ?_
        refine g_iload X 0 rfl d_Writer_putExpression_60 ?_
        obtain ⟨w14, e13, hM⟩ := fa_ob hM
        refine g_callV_v X ck_9 fo_37 (fa_xn fo_37 (by decide) hN) rfl mi_Writer_putPiece (c_Writer_putPiece hN hT a1 x5_11 x6_12 ha1 w10 _ e13) wd_826 rfl (Nat.le_trans (Nat.le_of_ble_eq_true rfl) hle) (st := []) (Nat.le_of_ble_eq_true rfl) rfl d_Writer_putExpression_62 ?_
        refine g_aload_n X 3 rfl d_Writer_putExpression_65 ?_
        refine g_aload_n X 4 rfl d_Writer_putExpression_66 ?_
        refine g_getN X ck_7 ha1 (fa_xn ha1 (by decide) hN) 0 (by decide) wd_387 rfl (fa_fvR rfl (fa_xt ha1 (by decide) hT 0)) d_Writer_putExpression_67 ?_
        refine g_iload X 1 rfl d_Writer_putExpression_70 ?_
        refine g_iload X 0 rfl d_Writer_putExpression_72 ?_
        refine g_callV_i X ck_9 fo_37 (fa_xn fo_37 (by decide) hN) rfl mi_Writer_nextPart (c_Writer_nextPart hN hT (fa_rf a1 0) x5_11 x6_12 (fa_r7_0 _ ha1) w14 _ rfl) wd_886 rfl (Nat.le_trans (Nat.le_of_ble_eq_true rfl) hle) (st := []) (Nat.le_of_ble_eq_true rfl) rfl d_Writer_putExpression_74 ?_
        refine g_istore X (fun x7_16 => [(7, .int (fa_I x7_16)), (6, .int (fa_I x6_12)), (5, .int (fa_I x5_11)), (4, .int (fa_I v9)), (0, .ref (b + 37)), (1, .ref (b + a1)), (3, .int (fa_I x3))]) d_Writer_putExpression_77 (by decide) (fun _ => rfl) (fun x7_16 ex7_16 => ?_)
        have hM := fa_let_to hM ex7_16
        refine g_iload X 0 rfl d_Writer_putExpression_79 ?_
        refine g_iconst X d_Writer_putExpression_81 ?_
        refine g_icmp_eq X 112 d_Writer_putExpression_82 (by decide) (fun hc17 => ?_) (fun hc17 => ?_)
        · have hM := fa_if_t hM hc17
          refine g_iinc X 6 (fun x3_18 => [(3, .int (fa_I x3_18)), (7, .int (fa_I x7_16)), (6, .int (fa_I x6_12)), (5, .int (fa_I x5_11)), (4, .int (fa_I v9)), (0, .ref (b + 37)), (1, .ref (b + a1))]) d_Writer_putExpression_112 rfl (by decide) (fun _ => rfl) (fun x3_18 ex3_18 => ?_)
          have hM := fa_let_to hM ex3_18
          refine g_goto X 19 d_Writer_putExpression_115 (by decide) ?_
          exact g_lv [5, 6, 0] rfl (ih _ _ hM)
        · have hM := fa_if_f hM hc17
          refine g_aload_n X 4 rfl d_Writer_putExpression_85 ?_
          refine g_get X ck_9 fo_37 (fa_xn fo_37 (by decide) hN) 1 (by decide) wd_200 rfl (fr_37_1 rfl hT) d_Writer_putExpression_86 ?_
          refine g_iload X 2 rfl d_Writer_putExpression_89 ?_
          refine g_iconst X d_Writer_putExpression_91 ?_
          refine g_imul X d_Writer_putExpression_92 ?_
          refine g_iload X 1 rfl d_Writer_putExpression_93 ?_
          refine g_iadd X d_Writer_putExpression_95 ?_
          refine g_iconst X d_Writer_putExpression_96 ?_
          refine g_iadd X d_Writer_putExpression_97 ?_
          obtain ⟨w20, e19⟩ : ∃ q, fr_add 38 (((x5_11 * 4) + x6_12) + 1) w14 = q := ⟨_, rfl⟩
          have hM := fa_let_to hM e19.symm
          refine g_callV_v X ck_6 fo_38 (fa_xn fo_38 (by decide) hN) rfl mi_Row_add (ct_Row_add 38 (((x5_11 * 4) + x6_12) + 1) (fa_ro fo_38 hN hT) w14 _ e19) wd_684 rfl (Nat.le_trans (Nat.le_of_ble_eq_true rfl) hle) (st := []) (Nat.le_of_ble_eq_true rfl) rfl d_Writer_putExpression_98 ?_
          refine g_aload_n X 4 rfl d_Writer_putExpression_101 ?_
          refine g_get X ck_9 fo_37 (fa_xn fo_37 (by decide) hN) 1 (by decide) wd_200 rfl (fr_37_1 rfl hT) d_Writer_putExpression_102 ?_
          refine g_iload X 0 rfl d_Writer_putExpression_105 ?_
          refine g_iconst X d_Writer_putExpression_107 ?_
          refine g_imul X d_Writer_putExpression_108 ?_
          obtain ⟨w22, e21⟩ : ∃ q, fr_add 38 (x7_16 * 4) w20 = q := ⟨_, rfl⟩
          have hM := fa_let_to hM e21.symm
          refine g_callV_v X ck_6 fo_38 (fa_xn fo_38 (by decide) hN) rfl mi_Row_add (ct_Row_add 38 (x7_16 * 4) (fa_ro fo_38 hN hT) w20 _ e21) wd_684 rfl (Nat.le_trans (Nat.le_of_ble_eq_true rfl) hle) (st := []) (Nat.le_of_ble_eq_true rfl) rfl d_Writer_putExpression_109 ?_
          refine g_iinc X 6 (fun x3_23 => [(3, .int (fa_I x3_23)), (7, .int (fa_I x7_16)), (6, .int (fa_I x6_12)), (5, .int (fa_I x5_11)), (4, .int (fa_I v9)), (0, .ref (b + 37)), (1, .ref (b + a1))]) d_Writer_putExpression_112 rfl (by decide) (fun _ => rfl) (fun x3_23 ex3_23 => ?_)
          have hM := fa_let_to hM ex3_23
          refine g_goto X 19 d_Writer_putExpression_115 (by decide) ?_
          exact g_lv [5, 6, 0] rfl (ih _ _ hM)
def fm_Writer_putExpression (a1 : Nat) (a2 : Int) (w : fa_W) : Option fa_W :=
  fa_let (fm_Row_clear 38 w) fun w2 =>
  fa_let (fr_add 38 (a2 * 4) w2) fun w4 =>
  fm_Writer_putExpression_l19 a1 a2 fa_FU 0 w4
set_option maxHeartbeats 4000000 in
set_option maxRecDepth 100000 in
theorem c_Writer_putExpression {l : Launch} {D : va_G} {b : Nat} {aC : Nat → ClassId} {H0 : Heap} {N T : Nat} (hN : fa_NX ≤ N) (hT : fa_TX ≤ T) (a1 : Nat) (a2 : Int) (ha1 : (fa_sh a1).1 = 7)  (w : fa_W) (r : fa_W) (hM : fm_Writer_putExpression a1 a2 w = some r) : fa_MC l D b aC H0 N T y_Writer_putExpression prog_10_method_6_code 8 ((Option.none : Option Jvm.ClassFile.FieldType)) (7) [.ref (b + 37), .ref (b + a1), .int (fa_I a2)] w (none) r := by
  refine fa_enter (lv := [(0, .ref (b + 37)), (1, .ref (b + a1)), (2, .int (fa_I a2))]) (by decide +kernel) (Nat.le_of_ble_eq_true rfl) rfl (fun hh hle hnm X => ?_)
  unfold fm_Writer_putExpression at hM
  refine g_aload_n X 0 rfl d_Writer_putExpression_0 ?_
  refine g_get X ck_9 fo_37 (fa_xn fo_37 (by decide) hN) 1 (by decide) wd_200 rfl (fr_37_1 rfl hT) d_Writer_putExpression_1 ?_
  obtain ⟨w2, e1⟩ : ∃ q, fm_Row_clear 38 w = q := ⟨_, rfl⟩
  have hM := fa_let_to hM e1.symm
  refine g_callV_v X ck_6 fo_38 (fa_xn fo_38 (by decide) hN) rfl mi_Row_clear (c_Row_clear 38 (fa_ro fo_38 hN hT) w _ e1) wd_683 rfl (Nat.le_trans (Nat.le_of_ble_eq_true rfl) hle) (st := []) (Nat.le_of_ble_eq_true rfl) rfl d_Writer_putExpression_4 ?_
  refine g_aload_n X 0 rfl d_Writer_putExpression_7 ?_
  refine g_get X ck_9 fo_37 (fa_xn fo_37 (by decide) hN) 1 (by decide) wd_200 rfl (fr_37_1 rfl hT) d_Writer_putExpression_8 ?_
  refine g_iload_n X 2 rfl d_Writer_putExpression_11 ?_
  refine g_iconst X d_Writer_putExpression_12 ?_
  refine g_imul X d_Writer_putExpression_13 ?_
  obtain ⟨w4, e3⟩ : ∃ q, fr_add 38 (a2 * 4) w2 = q := ⟨_, rfl⟩
  have hM := fa_let_to hM e3.symm
  refine g_callV_v X ck_6 fo_38 (fa_xn fo_38 (by decide) hN) rfl mi_Row_add (ct_Row_add 38 (a2 * 4) (fa_ro fo_38 hN hT) w2 _ e3) wd_684 rfl (Nat.le_trans (Nat.le_of_ble_eq_true rfl) hle) (st := []) (Nat.le_of_ble_eq_true rfl) rfl d_Writer_putExpression_14 ?_
  refine g_iconst X d_Writer_putExpression_17 ?_
  refine g_istorec_n X [(3, .int (fa_I 0)), (0, .ref (b + 37)), (1, .ref (b + a1)), (2, .int (fa_I a2))] d_Writer_putExpression_18 (by decide) rfl ?_
  exact g_lv [1, 2, 0] rfl (c_Writer_putExpression_l19 X hle hN hT a1 a2 ha1   fa_FU _ _ hM)
theorem d_Writer_showProgram_0 : decode prog_10_method_3_code 0 = .ok (.aload_n 0, 1) := by decide +kernel
theorem d_Writer_showProgram_1 : decode prog_10_method_3_code 1 = .ok (.getfield 30, 3) := by decide +kernel
theorem d_Writer_showProgram_4 : decode prog_10_method_3_code 4 = .ok (.invokevirtual 33, 3) := by decide +kernel
theorem d_Writer_showProgram_7 : decode prog_10_method_3_code 7 = .ok (.aload_n 0, 1) := by decide +kernel
theorem d_Writer_showProgram_8 : decode prog_10_method_3_code 8 = .ok (.iconst (-1), 1) := by decide +kernel
theorem d_Writer_showProgram_9 : decode prog_10_method_3_code 9 = .ok (.putfield 26, 3) := by decide +kernel
theorem d_Writer_showProgram_12 : decode prog_10_method_3_code 12 = .ok (.aload_n 1, 1) := by decide +kernel
theorem d_Writer_showProgram_13 : decode prog_10_method_3_code 13 = .ok (.getfield 43, 3) := by decide +kernel
theorem d_Writer_showProgram_16 : decode prog_10_method_3_code 16 = .ok (.astore_n 2, 1) := by decide +kernel
theorem d_Writer_showProgram_17 : decode prog_10_method_3_code 17 = .ok (.iconst 0, 1) := by decide +kernel
theorem d_Writer_showProgram_18 : decode prog_10_method_3_code 18 = .ok (.istore_n 3, 1) := by decide +kernel
theorem d_Writer_showProgram_19 : decode prog_10_method_3_code 19 = .ok (.iload_n 3, 1) := by decide +kernel
theorem d_Writer_showProgram_20 : decode prog_10_method_3_code 20 = .ok (.aload_n 2, 1) := by decide +kernel
theorem d_Writer_showProgram_21 : decode prog_10_method_3_code 21 = .ok (.getfield 49, 3) := by decide +kernel
theorem d_Writer_showProgram_24 : decode prog_10_method_3_code 24 = .ok (.if_icmp .ge 70, 3) := by decide +kernel
theorem d_Writer_showProgram_27 : decode prog_10_method_3_code 27 = .ok (.aload_n 0, 1) := by decide +kernel
theorem d_Writer_showProgram_28 : decode prog_10_method_3_code 28 = .ok (.ldc 54, 2) := by decide +kernel
theorem d_Writer_showProgram_30 : decode prog_10_method_3_code 30 = .ok (.invokevirtual 56, 3) := by decide +kernel
theorem d_Writer_showProgram_33 : decode prog_10_method_3_code 33 = .ok (.aload_n 0, 1) := by decide +kernel
theorem d_Writer_showProgram_34 : decode prog_10_method_3_code 34 = .ok (.aload_n 2, 1) := by decide +kernel
theorem d_Writer_showProgram_35 : decode prog_10_method_3_code 35 = .ok (.getfield 60, 3) := by decide +kernel
theorem d_Writer_showProgram_38 : decode prog_10_method_3_code 38 = .ok (.iload_n 3, 1) := by decide +kernel
theorem d_Writer_showProgram_39 : decode prog_10_method_3_code 39 = .ok (.invokevirtual 63, 3) := by decide +kernel
theorem d_Writer_showProgram_42 : decode prog_10_method_3_code 42 = .ok (.invokevirtual 36, 3) := by decide +kernel
theorem d_Writer_showProgram_45 : decode prog_10_method_3_code 45 = .ok (.aload_n 0, 1) := by decide +kernel
theorem d_Writer_showProgram_46 : decode prog_10_method_3_code 46 = .ok (.ldc 67, 2) := by decide +kernel
theorem d_Writer_showProgram_48 : decode prog_10_method_3_code 48 = .ok (.invokevirtual 56, 3) := by decide +kernel
theorem d_Writer_showProgram_51 : decode prog_10_method_3_code 51 = .ok (.aload_n 0, 1) := by decide +kernel
theorem d_Writer_showProgram_52 : decode prog_10_method_3_code 52 = .ok (.aload_n 2, 1) := by decide +kernel
theorem d_Writer_showProgram_53 : decode prog_10_method_3_code 53 = .ok (.getfield 69, 3) := by decide +kernel
theorem d_Writer_showProgram_56 : decode prog_10_method_3_code 56 = .ok (.iload_n 3, 1) := by decide +kernel
theorem d_Writer_showProgram_57 : decode prog_10_method_3_code 57 = .ok (.invokevirtual 63, 3) := by decide +kernel
theorem d_Writer_showProgram_60 : decode prog_10_method_3_code 60 = .ok (.invokevirtual 36, 3) := by decide +kernel
theorem d_Writer_showProgram_63 : decode prog_10_method_3_code 63 = .ok (.aload_n 0, 1) := by decide +kernel
theorem d_Writer_showProgram_64 : decode prog_10_method_3_code 64 = .ok (.ldc 72, 2) := by decide +kernel
theorem d_Writer_showProgram_66 : decode prog_10_method_3_code 66 = .ok (.invokevirtual 56, 3) := by decide +kernel
theorem d_Writer_showProgram_69 : decode prog_10_method_3_code 69 = .ok (.aload_n 0, 1) := by decide +kernel
theorem d_Writer_showProgram_70 : decode prog_10_method_3_code 70 = .ok (.aload_n 1, 1) := by decide +kernel
theorem d_Writer_showProgram_71 : decode prog_10_method_3_code 71 = .ok (.aload_n 2, 1) := by decide +kernel
theorem d_Writer_showProgram_72 : decode prog_10_method_3_code 72 = .ok (.getfield 74, 3) := by decide +kernel
theorem d_Writer_showProgram_75 : decode prog_10_method_3_code 75 = .ok (.iload_n 3, 1) := by decide +kernel
theorem d_Writer_showProgram_76 : decode prog_10_method_3_code 76 = .ok (.invokevirtual 63, 3) := by decide +kernel
theorem d_Writer_showProgram_79 : decode prog_10_method_3_code 79 = .ok (.invokevirtual 77, 3) := by decide +kernel
theorem d_Writer_showProgram_82 : decode prog_10_method_3_code 82 = .ok (.aload_n 0, 1) := by decide +kernel
theorem d_Writer_showProgram_83 : decode prog_10_method_3_code 83 = .ok (.ldc 81, 2) := by decide +kernel
theorem d_Writer_showProgram_85 : decode prog_10_method_3_code 85 = .ok (.invokevirtual 56, 3) := by decide +kernel
theorem d_Writer_showProgram_88 : decode prog_10_method_3_code 88 = .ok (.iinc 3 1, 3) := by decide +kernel
theorem d_Writer_showProgram_91 : decode prog_10_method_3_code 91 = .ok (.goto (-72), 3) := by decide +kernel
theorem d_Writer_showProgram_94 : decode prog_10_method_3_code 94 = .ok (.aload_n 0, 1) := by decide +kernel
theorem d_Writer_showProgram_95 : decode prog_10_method_3_code 95 = .ok (.aload_n 1, 1) := by decide +kernel
theorem d_Writer_showProgram_96 : decode prog_10_method_3_code 96 = .ok (.aload_n 2, 1) := by decide +kernel
theorem d_Writer_showProgram_97 : decode prog_10_method_3_code 97 = .ok (.getfield 83, 3) := by decide +kernel
theorem d_Writer_showProgram_100 : decode prog_10_method_3_code 100 = .ok (.invokevirtual 77, 3) := by decide +kernel
theorem d_Writer_showProgram_103 : decode prog_10_method_3_code 103 = .ok (.aload_n 0, 1) := by decide +kernel
theorem d_Writer_showProgram_104 : decode prog_10_method_3_code 104 = .ok (.getfield 30, 3) := by decide +kernel
theorem d_Writer_showProgram_107 : decode prog_10_method_3_code 107 = .ok (.invokevirtual 39, 3) := by decide +kernel
theorem d_Writer_showProgram_110 : decode prog_10_method_3_code 110 = .ok (.ireturn, 1) := by decide +kernel
def fm_Writer_showProgram_l19 (a1 : Nat) : Nat → Int → fa_W → Option (Int × fa_W)
  | 0, _, _ => none
  | n + 1, x3, w => if fa_wr (w (fa_rf a1 0) 13) ≤ fa_wr x3 then
  ((fm_Writer_putExpression a1 (w (fa_rf a1 0) 16) w).bind fun w6 =>
  some (fm_Row_size 3 w6, w6))
  else
  ((fm_Writer_putText (0 : Fin 35) w).bind fun w9 =>
  (fm_Writer_putName (fr_at (fa_rf (fa_rf a1 0) 8) x3 w9) w9).bind fun w12 =>
  (fm_Writer_putText (1 : Fin 35) w12).bind fun w14 =>
  (fm_Writer_putName (fr_at (fa_rf (fa_rf a1 0) 6) x3 w14) w14).bind fun w17 =>
  (fm_Writer_putText (2 : Fin 35) w17).bind fun w19 =>
  (fm_Writer_putExpression a1 (fr_at (fa_rf (fa_rf a1 0) 9) x3 w19) w19).bind fun w22 =>
  (fm_Writer_putText (3 : Fin 35) w22).bind fun w24 =>
  fa_let (x3 + 1) fun x3_25 =>
  fm_Writer_showProgram_l19 a1 n x3_25 w24)
set_option maxHeartbeats 4000000 in
set_option maxRecDepth 100000 in
theorem c_Writer_showProgram_l19 {p : Program} {l : Launch} {e : Env} {s : State} {m : MethodId} {args : Array Value} {below : List Frame} {meth : Method} {c : Code} {hh : Nat} {D : va_G} {b : Nat} {aC : Nat → ClassId} {H0 : Heap} {N T : Nat} (X : fa_GX p s m args meth c prog_10_method_3_code 4 ((Option.some Jvm.ClassFile.FieldType.int)) y_Writer_showProgram.cls D b aC) (hle : 8 ≤ hh) (hN : fa_NX ≤ N) (hT : fa_TX ≤ T) (a1 : Nat) (ha1 : (fa_sh a1).1 = 7) {r : Int × fa_W}  : ∀ (n : Nat) (x3 : Int) (w : fa_W), fm_Writer_showProgram_l19 a1 n x3 w = some r → fa_GJ p l e (fa_rm hh) s m args below meth c 0 0 (MQ below (fa_Qc D b aC H0 N T (some (.int (fa_I r.1))) r.2) args s 0 0 (fun q => b ≤ q)) D b aC H0 N T 4 w 19 [(0, .ref (b + 37)), (1, .ref (b + a1)), (2, .ref (b + (fa_rf a1 0))), (3, .int (fa_I x3))] [] := by
  intro n
  induction n with
  | zero => intro x3 w hM; exact fa_no hM
  | succ n ih =>
    intro x3 w hM
    rw [fm_Writer_showProgram_l19] at hM
    refine g_iload_n X 3 rfl d_Writer_showProgram_19 ?_
    refine g_aload_n X 2 rfl d_Writer_showProgram_20 ?_
    refine g_getN X ck_4 (fa_r7_0 _ ha1) (fa_xn (fa_r7_0 _ ha1) (by decide) hN) 13 (by decide) wd_94 rfl (fa_fvI rfl) d_Writer_showProgram_21 ?_
    refine g_icmp_ge X 94 d_Writer_showProgram_24 (by decide) (fun hc4 => ?_) (fun hc4 => ?_)
    · have hM := fa_if_t hM hc4
      refine g_aload_n X 0 rfl d_Writer_showProgram_94 ?_
      refine g_aload_n X 1 rfl d_Writer_showProgram_95 ?_
      refine g_aload_n X 2 rfl d_Writer_showProgram_96 ?_
      refine g_getN X ck_4 (fa_r7_0 _ ha1) (fa_xn (fa_r7_0 _ ha1) (by decide) hN) 16 (by decide) wd_110 rfl (fa_fvI rfl) d_Writer_showProgram_97 ?_
      obtain ⟨w6, e5, hM⟩ := fa_ob hM
      refine g_callV_v X ck_9 fo_37 (fa_xn fo_37 (by decide) hN) rfl mi_Writer_putExpression (c_Writer_putExpression hN hT a1 (w (fa_rf a1 0) 16) ha1 w _ e5) wd_822 rfl (Nat.le_trans (Nat.le_of_ble_eq_true rfl) hle) (st := []) (Nat.le_of_ble_eq_true rfl) rfl d_Writer_showProgram_100 ?_
      refine g_aload_n X 0 rfl d_Writer_showProgram_103 ?_
      refine g_get X ck_9 fo_37 (fa_xn fo_37 (by decide) hN) 0 (by decide) wd_199 rfl (fr_37_0 rfl hT) d_Writer_showProgram_104 ?_
      refine g_callV_i X ck_6 fo_3 (fa_xn fo_3 (by decide) hN) rfl mi_Row_size (c_Row_size 3 (fa_ro fo_3 hN hT) w6 _ rfl) wd_686 rfl (Nat.le_trans (Nat.le_of_ble_eq_true rfl) hle) (st := []) (Nat.le_of_ble_eq_true rfl) rfl d_Writer_showProgram_107 ?_
      cases hM
      exact g_iret X d_Writer_showProgram_110
    · have hM := fa_if_f hM hc4
      refine g_aload_n X 0 rfl d_Writer_showProgram_27 ?_
      refine g_ldcs X (0 : Fin 35) (List.mem_of_getElem? (i := 0) rfl) d_Writer_showProgram_28 ?_
      obtain ⟨w9, e8, hM⟩ := fa_ob hM
      refine g_callV_v X ck_9 fo_37 (fa_xn fo_37 (by decide) hN) rfl mi_Writer_putText (c_Writer_putText hN hT (0 : Fin 35) w _ e8) wd_763 rfl (Nat.le_trans (Nat.le_of_ble_eq_true rfl) hle) (st := []) (Nat.le_of_ble_eq_true rfl) rfl d_Writer_showProgram_30 ?_
      refine g_aload_n X 0 rfl d_Writer_showProgram_33 ?_
      refine g_aload_n X 2 rfl d_Writer_showProgram_34 ?_
      refine g_getN X ck_4 (fa_r7_0 _ ha1) (fa_xn (fa_r7_0 _ ha1) (by decide) hN) 8 (by decide) wd_80 rfl (fa_fvR rfl (fa_xt (fa_r7_0 _ ha1) (by decide) hT 8)) d_Writer_showProgram_35 ?_
      refine g_iload_n X 3 rfl d_Writer_showProgram_38 ?_
      refine g_callV_i X ck_6 (fa_r4_8 _ (fa_r7_0 _ ha1)) (fa_xn (fa_r4_8 _ (fa_r7_0 _ ha1)) (by decide) hN) rfl mi_Row_at (ct_Row_at (fa_rf (fa_rf a1 0) 8) x3 (fa_ro (fa_r4_8 _ (fa_r7_0 _ ha1)) hN hT) w9 _ rfl) wd_815 rfl (Nat.le_trans (Nat.le_of_ble_eq_true rfl) hle) (st := [.ref (b + 37)]) (Nat.le_of_ble_eq_true rfl) rfl d_Writer_showProgram_39 ?_
      obtain ⟨w12, e11, hM⟩ := fa_ob hM
      refine g_callV_v X ck_9 fo_37 (fa_xn fo_37 (by decide) hN) rfl mi_Writer_putName (c_Writer_putName hN hT (fr_at (fa_rf (fa_rf a1 0) 8) x3 w9) w9 _ e11) wd_816 rfl (Nat.le_trans (Nat.le_of_ble_eq_true rfl) hle) (st := []) (Nat.le_of_ble_eq_true rfl) rfl d_Writer_showProgram_42 ?_
      refine g_aload_n X 0 rfl d_Writer_showProgram_45 ?_
      refine g_ldcs X (1 : Fin 35) (List.mem_of_getElem? (i := 1) rfl) d_Writer_showProgram_46 ?_
      obtain ⟨w14, e13, hM⟩ := fa_ob hM
      refine g_callV_v X ck_9 fo_37 (fa_xn fo_37 (by decide) hN) rfl mi_Writer_putText (c_Writer_putText hN hT (1 : Fin 35) w12 _ e13) wd_763 rfl (Nat.le_trans (Nat.le_of_ble_eq_true rfl) hle) (st := []) (Nat.le_of_ble_eq_true rfl) rfl d_Writer_showProgram_48 ?_
      refine g_aload_n X 0 rfl d_Writer_showProgram_51 ?_
      refine g_aload_n X 2 rfl d_Writer_showProgram_52 ?_
      refine g_getN X ck_4 (fa_r7_0 _ ha1) (fa_xn (fa_r7_0 _ ha1) (by decide) hN) 6 (by decide) wd_75 rfl (fa_fvR rfl (fa_xt (fa_r7_0 _ ha1) (by decide) hT 6)) d_Writer_showProgram_53 ?_
      refine g_iload_n X 3 rfl d_Writer_showProgram_56 ?_
      refine g_callV_i X ck_6 (fa_r4_6 _ (fa_r7_0 _ ha1)) (fa_xn (fa_r4_6 _ (fa_r7_0 _ ha1)) (by decide) hN) rfl mi_Row_at (ct_Row_at (fa_rf (fa_rf a1 0) 6) x3 (fa_ro (fa_r4_6 _ (fa_r7_0 _ ha1)) hN hT) w14 _ rfl) wd_815 rfl (Nat.le_trans (Nat.le_of_ble_eq_true rfl) hle) (st := [.ref (b + 37)]) (Nat.le_of_ble_eq_true rfl) rfl d_Writer_showProgram_57 ?_
      obtain ⟨w17, e16, hM⟩ := fa_ob hM
      refine g_callV_v X ck_9 fo_37 (fa_xn fo_37 (by decide) hN) rfl mi_Writer_putName (c_Writer_putName hN hT (fr_at (fa_rf (fa_rf a1 0) 6) x3 w14) w14 _ e16) wd_816 rfl (Nat.le_trans (Nat.le_of_ble_eq_true rfl) hle) (st := []) (Nat.le_of_ble_eq_true rfl) rfl d_Writer_showProgram_60 ?_
      refine g_aload_n X 0 rfl d_Writer_showProgram_63 ?_
      refine g_ldcs X (2 : Fin 35) (List.mem_of_getElem? (i := 2) rfl) d_Writer_showProgram_64 ?_
      obtain ⟨w19, e18, hM⟩ := fa_ob hM
      refine g_callV_v X ck_9 fo_37 (fa_xn fo_37 (by decide) hN) rfl mi_Writer_putText (c_Writer_putText hN hT (2 : Fin 35) w17 _ e18) wd_763 rfl (Nat.le_trans (Nat.le_of_ble_eq_true rfl) hle) (st := []) (Nat.le_of_ble_eq_true rfl) rfl d_Writer_showProgram_66 ?_
      refine g_aload_n X 0 rfl d_Writer_showProgram_69 ?_
      refine g_aload_n X 1 rfl d_Writer_showProgram_70 ?_
      refine g_aload_n X 2 rfl d_Writer_showProgram_71 ?_
      refine g_getN X ck_4 (fa_r7_0 _ ha1) (fa_xn (fa_r7_0 _ ha1) (by decide) hN) 9 (by decide) wd_84 rfl (fa_fvR rfl (fa_xt (fa_r7_0 _ ha1) (by decide) hT 9)) d_Writer_showProgram_72 ?_
      refine g_iload_n X 3 rfl d_Writer_showProgram_75 ?_
      refine g_callV_i X ck_6 (fa_r4_9 _ (fa_r7_0 _ ha1)) (fa_xn (fa_r4_9 _ (fa_r7_0 _ ha1)) (by decide) hN) rfl mi_Row_at (ct_Row_at (fa_rf (fa_rf a1 0) 9) x3 (fa_ro (fa_r4_9 _ (fa_r7_0 _ ha1)) hN hT) w19 _ rfl) wd_815 rfl (Nat.le_trans (Nat.le_of_ble_eq_true rfl) hle) (st := [.ref (b + a1), .ref (b + 37)]) (Nat.le_of_ble_eq_true rfl) rfl d_Writer_showProgram_76 ?_
      obtain ⟨w22, e21, hM⟩ := fa_ob hM
      refine g_callV_v X ck_9 fo_37 (fa_xn fo_37 (by decide) hN) rfl mi_Writer_putExpression (c_Writer_putExpression hN hT a1 (fr_at (fa_rf (fa_rf a1 0) 9) x3 w19) ha1 w19 _ e21) wd_822 rfl (Nat.le_trans (Nat.le_of_ble_eq_true rfl) hle) (st := []) (Nat.le_of_ble_eq_true rfl) rfl d_Writer_showProgram_79 ?_
      refine g_aload_n X 0 rfl d_Writer_showProgram_82 ?_
      refine g_ldcs X (3 : Fin 35) (List.mem_of_getElem? (i := 3) rfl) d_Writer_showProgram_83 ?_
      obtain ⟨w24, e23, hM⟩ := fa_ob hM
      refine g_callV_v X ck_9 fo_37 (fa_xn fo_37 (by decide) hN) rfl mi_Writer_putText (c_Writer_putText hN hT (3 : Fin 35) w22 _ e23) wd_763 rfl (Nat.le_trans (Nat.le_of_ble_eq_true rfl) hle) (st := []) (Nat.le_of_ble_eq_true rfl) rfl d_Writer_showProgram_85 ?_
      refine g_iinc X 3 (fun x3_25 => [(3, .int (fa_I x3_25)), (0, .ref (b + 37)), (1, .ref (b + a1)), (2, .ref (b + (fa_rf a1 0)))]) d_Writer_showProgram_88 rfl (by decide) (fun _ => rfl) (fun x3_25 ex3_25 => ?_)
      have hM := fa_let_to hM ex3_25
      refine g_goto X 19 d_Writer_showProgram_91 (by decide) ?_
      exact g_lv [1, 2, 3, 0] rfl (ih _ _ hM)
def fm_Writer_showProgram (a1 : Nat) (w : fa_W) : Option (Int × fa_W) :=
  fa_let (fm_Row_clear 3 w) fun w2 =>
  fa_let (fa_st w2 37 4 (-1)) fun w3 =>
  fm_Writer_showProgram_l19 a1 fa_FU 0 w3
set_option maxHeartbeats 4000000 in
set_option maxRecDepth 100000 in
theorem c_Writer_showProgram {l : Launch} {D : va_G} {b : Nat} {aC : Nat → ClassId} {H0 : Heap} {N T : Nat} (hN : fa_NX ≤ N) (hT : fa_TX ≤ T) (a1 : Nat) (ha1 : (fa_sh a1).1 = 7)  (w : fa_W) (r : Int × fa_W) (hM : fm_Writer_showProgram a1 w = some r) : fa_MC l D b aC H0 N T y_Writer_showProgram prog_10_method_3_code 4 ((Option.some Jvm.ClassFile.FieldType.int)) (8) [.ref (b + 37), .ref (b + a1)] w (some (.int (fa_I r.1))) r.2 := by
  refine fa_enter (lv := [(0, .ref (b + 37)), (1, .ref (b + a1))]) (by decide +kernel) (Nat.le_of_ble_eq_true rfl) rfl (fun hh hle hnm X => ?_)
  unfold fm_Writer_showProgram at hM
  refine g_aload_n X 0 rfl d_Writer_showProgram_0 ?_
  refine g_get X ck_9 fo_37 (fa_xn fo_37 (by decide) hN) 0 (by decide) wd_199 rfl (fr_37_0 rfl hT) d_Writer_showProgram_1 ?_
  obtain ⟨w2, e1⟩ : ∃ q, fm_Row_clear 3 w = q := ⟨_, rfl⟩
  have hM := fa_let_to hM e1.symm
  refine g_callV_v X ck_6 fo_3 (fa_xn fo_3 (by decide) hN) rfl mi_Row_clear (c_Row_clear 3 (fa_ro fo_3 hN hT) w _ e1) wd_683 rfl (Nat.le_trans (Nat.le_of_ble_eq_true rfl) hle) (st := []) (Nat.le_of_ble_eq_true rfl) rfl d_Writer_showProgram_4 ?_
  refine g_aload_n X 0 rfl d_Writer_showProgram_7 ?_
  refine g_iconst X d_Writer_showProgram_8 ?_
  refine g_put X ck_9 fo_37 (fa_xn fo_37 (by decide) hN) 4 (z := (-1)) (by decide) wd_203 rfl (fa_fvI' rfl) rfl rfl rfl d_Writer_showProgram_9 (fun w3 ew3 => ?_)
  have hM := fa_let_to hM ew3
  refine g_aload_n X 1 rfl d_Writer_showProgram_12 ?_
  refine g_getN X ck_7 ha1 (fa_xn ha1 (by decide) hN) 0 (by decide) wd_387 rfl (fa_fvR rfl (fa_xt ha1 (by decide) hT 0)) d_Writer_showProgram_13 ?_
  refine g_astore_n X [(2, .ref (b + (fa_rf a1 0))), (0, .ref (b + 37)), (1, .ref (b + a1))] d_Writer_showProgram_16 (by decide) rfl ?_
  refine g_iconst X d_Writer_showProgram_17 ?_
  refine g_istorec_n X [(3, .int (fa_I 0)), (2, .ref (b + (fa_rf a1 0))), (0, .ref (b + 37)), (1, .ref (b + a1))] d_Writer_showProgram_18 (by decide) rfl ?_
  exact g_lv [2, 3, 1, 0] rfl (c_Writer_showProgram_l19 X hle hN hT a1 ha1   fa_FU _ _ hM)
theorem d_Writer_putCaseStart_0 : decode prog_10_method_5_code 0 = .ok (.iload_n 3, 1) := by decide +kernel
theorem d_Writer_putCaseStart_1 : decode prog_10_method_5_code 1 = .ok (.iconst (-1), 1) := by decide +kernel
theorem d_Writer_putCaseStart_2 : decode prog_10_method_5_code 2 = .ok (.if_icmp .ne 12, 3) := by decide +kernel
theorem d_Writer_putCaseStart_5 : decode prog_10_method_5_code 5 = .ok (.aload_n 0, 1) := by decide +kernel
theorem d_Writer_putCaseStart_6 : decode prog_10_method_5_code 6 = .ok (.ldc 126, 2) := by decide +kernel
theorem d_Writer_putCaseStart_8 : decode prog_10_method_5_code 8 = .ok (.invokevirtual 56, 3) := by decide +kernel
theorem d_Writer_putCaseStart_11 : decode prog_10_method_5_code 11 = .ok (.goto 20, 3) := by decide +kernel
theorem d_Writer_putCaseStart_14 : decode prog_10_method_5_code 14 = .ok (.aload_n 0, 1) := by decide +kernel
theorem d_Writer_putCaseStart_15 : decode prog_10_method_5_code 15 = .ok (.ldc 128, 2) := by decide +kernel
theorem d_Writer_putCaseStart_17 : decode prog_10_method_5_code 17 = .ok (.invokevirtual 56, 3) := by decide +kernel
theorem d_Writer_putCaseStart_20 : decode prog_10_method_5_code 20 = .ok (.aload_n 0, 1) := by decide +kernel
theorem d_Writer_putCaseStart_21 : decode prog_10_method_5_code 21 = .ok (.iload_n 3, 1) := by decide +kernel
theorem d_Writer_putCaseStart_22 : decode prog_10_method_5_code 22 = .ok (.invokevirtual 130, 3) := by decide +kernel
theorem d_Writer_putCaseStart_25 : decode prog_10_method_5_code 25 = .ok (.aload_n 0, 1) := by decide +kernel
theorem d_Writer_putCaseStart_26 : decode prog_10_method_5_code 26 = .ok (.ldc 133, 2) := by decide +kernel
theorem d_Writer_putCaseStart_28 : decode prog_10_method_5_code 28 = .ok (.invokevirtual 56, 3) := by decide +kernel
theorem d_Writer_putCaseStart_31 : decode prog_10_method_5_code 31 = .ok (.aload_n 0, 1) := by decide +kernel
theorem d_Writer_putCaseStart_32 : decode prog_10_method_5_code 32 = .ok (.aload_n 1, 1) := by decide +kernel
theorem d_Writer_putCaseStart_33 : decode prog_10_method_5_code 33 = .ok (.iload_n 2, 1) := by decide +kernel
theorem d_Writer_putCaseStart_34 : decode prog_10_method_5_code 34 = .ok (.invokevirtual 135, 3) := by decide +kernel
theorem d_Writer_putCaseStart_37 : decode prog_10_method_5_code 37 = .ok (.aload_n 0, 1) := by decide +kernel
theorem d_Writer_putCaseStart_38 : decode prog_10_method_5_code 38 = .ok (.aload_n 1, 1) := by decide +kernel
theorem d_Writer_putCaseStart_39 : decode prog_10_method_5_code 39 = .ok (.getfield 69, 3) := by decide +kernel
theorem d_Writer_putCaseStart_42 : decode prog_10_method_5_code 42 = .ok (.iload_n 2, 1) := by decide +kernel
theorem d_Writer_putCaseStart_43 : decode prog_10_method_5_code 43 = .ok (.invokevirtual 63, 3) := by decide +kernel
theorem d_Writer_putCaseStart_46 : decode prog_10_method_5_code 46 = .ok (.invokevirtual 36, 3) := by decide +kernel
theorem d_Writer_putCaseStart_49 : decode prog_10_method_5_code 49 = .ok (.aload_n 0, 1) := by decide +kernel
theorem d_Writer_putCaseStart_50 : decode prog_10_method_5_code 50 = .ok (.ldc 139, 2) := by decide +kernel
theorem d_Writer_putCaseStart_52 : decode prog_10_method_5_code 52 = .ok (.invokevirtual 56, 3) := by decide +kernel
theorem d_Writer_putCaseStart_55 : decode prog_10_method_5_code 55 = .ok (.return_, 1) := by decide +kernel
def fm_Writer_putCaseStart_j31 (a1 : Nat) (a2 : Int) (a3 : Int) (w : fa_W) : Option fa_W :=
  (fm_Writer_putData a1 a2 w).bind fun w9 =>
  (fm_Writer_putName (fr_at (fa_rf a1 6) a2 w9) w9).bind fun w12 =>
  (fm_Writer_putText (9 : Fin 35) w12).bind fun w14 =>
  some w14
set_option maxHeartbeats 4000000 in
set_option maxRecDepth 100000 in
theorem c_Writer_putCaseStart_j31 {p : Program} {l : Launch} {e : Env} {s : State} {m : MethodId} {args : Array Value} {below : List Frame} {meth : Method} {c : Code} {hh : Nat} {D : va_G} {b : Nat} {aC : Nat → ClassId} {H0 : Heap} {N T : Nat} (X : fa_GX p s m args meth c prog_10_method_5_code 4 ((Option.none : Option Jvm.ClassFile.FieldType)) y_Writer_putCaseStart.cls D b aC) (hle : 6 ≤ hh) (hN : fa_NX ≤ N) (hT : fa_TX ≤ T) (a1 : Nat) (a2 : Int) (a3 : Int) (ha1 : (fa_sh a1).1 = 4) {r : fa_W}  : ∀ (w : fa_W) (_ : fm_Writer_putCaseStart_j31 a1 a2 a3 w = some r), fa_GJ p l e (fa_rm hh) s m args below meth c 0 0 (MQ below (fa_Qc D b aC H0 N T (none) r) args s 0 0 (fun q => b ≤ q)) D b aC H0 N T 4 w 31 [(0, .ref (b + 37)), (1, .ref (b + a1)), (2, .int (fa_I a2))] [] := by
  intro w hM
  unfold fm_Writer_putCaseStart_j31 at hM
  refine g_aload_n X 0 rfl d_Writer_putCaseStart_31 ?_
  refine g_aload_n X 1 rfl d_Writer_putCaseStart_32 ?_
  refine g_iload_n X 2 rfl d_Writer_putCaseStart_33 ?_
  obtain ⟨w9, e8, hM⟩ := fa_ob hM
  refine g_callV_v X ck_9 fo_37 (fa_xn fo_37 (by decide) hN) rfl mi_Writer_putData (c_Writer_putData hN hT a1 a2 ha1 w _ e8) wd_836 rfl (Nat.le_trans (Nat.le_of_ble_eq_true rfl) hle) (st := []) (Nat.le_of_ble_eq_true rfl) rfl d_Writer_putCaseStart_34 ?_
  refine g_aload_n X 0 rfl d_Writer_putCaseStart_37 ?_
  refine g_aload_n X 1 rfl d_Writer_putCaseStart_38 ?_
  refine g_getN X ck_4 ha1 (fa_xn ha1 (by decide) hN) 6 (by decide) wd_75 rfl (fa_fvR rfl (fa_xt ha1 (by decide) hT 6)) d_Writer_putCaseStart_39 ?_
  refine g_iload_n X 2 rfl d_Writer_putCaseStart_42 ?_
  refine g_callV_i X ck_6 (fa_r4_6 _ ha1) (fa_xn (fa_r4_6 _ ha1) (by decide) hN) rfl mi_Row_at (ct_Row_at (fa_rf a1 6) a2 (fa_ro (fa_r4_6 _ ha1) hN hT) w9 _ rfl) wd_815 rfl (Nat.le_trans (Nat.le_of_ble_eq_true rfl) hle) (st := [.ref (b + 37)]) (Nat.le_of_ble_eq_true rfl) rfl d_Writer_putCaseStart_43 ?_
  obtain ⟨w12, e11, hM⟩ := fa_ob hM
  refine g_callV_v X ck_9 fo_37 (fa_xn fo_37 (by decide) hN) rfl mi_Writer_putName (c_Writer_putName hN hT (fr_at (fa_rf a1 6) a2 w9) w9 _ e11) wd_816 rfl (Nat.le_trans (Nat.le_of_ble_eq_true rfl) hle) (st := []) (Nat.le_of_ble_eq_true rfl) rfl d_Writer_putCaseStart_46 ?_
  refine g_aload_n X 0 rfl d_Writer_putCaseStart_49 ?_
  refine g_ldcs X (9 : Fin 35) (List.mem_of_getElem? (i := 9) rfl) d_Writer_putCaseStart_50 ?_
  obtain ⟨w14, e13, hM⟩ := fa_ob hM
  refine g_callV_v X ck_9 fo_37 (fa_xn fo_37 (by decide) hN) rfl mi_Writer_putText (c_Writer_putText hN hT (9 : Fin 35) w12 _ e13) wd_763 rfl (Nat.le_trans (Nat.le_of_ble_eq_true rfl) hle) (st := []) (Nat.le_of_ble_eq_true rfl) rfl d_Writer_putCaseStart_52 ?_
  cases hM
  exact g_vret X d_Writer_putCaseStart_55
def fm_Writer_putCaseStart (a1 : Nat) (a2 : Int) (a3 : Int) (w : fa_W) : Option fa_W :=
  if fa_wr a3 = (-1) then
  ((fm_Writer_putText (6 : Fin 35) w).bind fun w16 =>
  fm_Writer_putCaseStart_j31 a1 a2 a3 w16)
  else
  ((fm_Writer_putText (7 : Fin 35) w).bind fun w3 =>
  (fm_Writer_putNumber a3 w3).bind fun w5 =>
  (fm_Writer_putText (8 : Fin 35) w5).bind fun w7 =>
  fm_Writer_putCaseStart_j31 a1 a2 a3 w7)
set_option maxHeartbeats 4000000 in
set_option maxRecDepth 100000 in
theorem c_Writer_putCaseStart {l : Launch} {D : va_G} {b : Nat} {aC : Nat → ClassId} {H0 : Heap} {N T : Nat} (hN : fa_NX ≤ N) (hT : fa_TX ≤ T) (a1 : Nat) (a2 : Int) (a3 : Int) (ha1 : (fa_sh a1).1 = 4)  (w : fa_W) (r : fa_W) (hM : fm_Writer_putCaseStart a1 a2 a3 w = some r) : fa_MC l D b aC H0 N T y_Writer_putCaseStart prog_10_method_5_code 4 ((Option.none : Option Jvm.ClassFile.FieldType)) (6) [.ref (b + 37), .ref (b + a1), .int (fa_I a2), .int (fa_I a3)] w (none) r := by
  refine fa_enter (lv := [(0, .ref (b + 37)), (1, .ref (b + a1)), (2, .int (fa_I a2)), (3, .int (fa_I a3))]) (by decide +kernel) (Nat.le_of_ble_eq_true rfl) rfl (fun hh hle hnm X => ?_)
  unfold fm_Writer_putCaseStart at hM
  refine g_iload_n X 3 rfl d_Writer_putCaseStart_0 ?_
  refine g_iconst X d_Writer_putCaseStart_1 ?_
  refine g_icmp_ne X 14 d_Writer_putCaseStart_2 (by decide) (fun hc1 => ?_) (fun hc1 => ?_)
  · have hM := fa_if_f hM hc1
    refine g_aload_n X 0 rfl d_Writer_putCaseStart_14 ?_
    refine g_ldcs X (7 : Fin 35) (List.mem_of_getElem? (i := 7) rfl) d_Writer_putCaseStart_15 ?_
    obtain ⟨w3, e2, hM⟩ := fa_ob hM
    refine g_callV_v X ck_9 fo_37 (fa_xn fo_37 (by decide) hN) rfl mi_Writer_putText (c_Writer_putText hN hT (7 : Fin 35) w _ e2) wd_763 rfl (Nat.le_trans (Nat.le_of_ble_eq_true rfl) hle) (st := []) (Nat.le_of_ble_eq_true rfl) rfl d_Writer_putCaseStart_17 ?_
    refine g_aload_n X 0 rfl d_Writer_putCaseStart_20 ?_
    refine g_iload_n X 3 rfl d_Writer_putCaseStart_21 ?_
    obtain ⟨w5, e4, hM⟩ := fa_ob hM
    refine g_callV_v X ck_9 fo_37 (fa_xn fo_37 (by decide) hN) rfl mi_Writer_putNumber (c_Writer_putNumber hN hT a3 w3 _ e4) wd_832 rfl (Nat.le_trans (Nat.le_of_ble_eq_true rfl) hle) (st := []) (Nat.le_of_ble_eq_true rfl) rfl d_Writer_putCaseStart_22 ?_
    refine g_aload_n X 0 rfl d_Writer_putCaseStart_25 ?_
    refine g_ldcs X (8 : Fin 35) (List.mem_of_getElem? (i := 8) rfl) d_Writer_putCaseStart_26 ?_
    obtain ⟨w7, e6, hM⟩ := fa_ob hM
    refine g_callV_v X ck_9 fo_37 (fa_xn fo_37 (by decide) hN) rfl mi_Writer_putText (c_Writer_putText hN hT (8 : Fin 35) w5 _ e6) wd_763 rfl (Nat.le_trans (Nat.le_of_ble_eq_true rfl) hle) (st := []) (Nat.le_of_ble_eq_true rfl) rfl d_Writer_putCaseStart_28 ?_
    exact g_lv [0, 1, 2] rfl (c_Writer_putCaseStart_j31 X hle hN hT a1 a2 a3 ha1    _ hM)
  · have hM := fa_if_t hM hc1
    refine g_aload_n X 0 rfl d_Writer_putCaseStart_5 ?_
    refine g_ldcs X (6 : Fin 35) (List.mem_of_getElem? (i := 6) rfl) d_Writer_putCaseStart_6 ?_
    obtain ⟨w16, e15, hM⟩ := fa_ob hM
    refine g_callV_v X ck_9 fo_37 (fa_xn fo_37 (by decide) hN) rfl mi_Writer_putText (c_Writer_putText hN hT (6 : Fin 35) w _ e15) wd_763 rfl (Nat.le_trans (Nat.le_of_ble_eq_true rfl) hle) (st := []) (Nat.le_of_ble_eq_true rfl) rfl d_Writer_putCaseStart_8 ?_
    refine g_goto X 31 d_Writer_putCaseStart_11 (by decide) ?_
    exact g_lv [0, 1, 2] rfl (c_Writer_putCaseStart_j31 X hle hN hT a1 a2 a3 ha1    _ hM)
theorem d_Writer_showForm_0 : decode prog_10_method_4_code 0 = .ok (.aload_n 0, 1) := by decide +kernel
theorem d_Writer_showForm_1 : decode prog_10_method_4_code 1 = .ok (.getfield 30, 3) := by decide +kernel
theorem d_Writer_showForm_4 : decode prog_10_method_4_code 4 = .ok (.invokevirtual 33, 3) := by decide +kernel
theorem d_Writer_showForm_7 : decode prog_10_method_4_code 7 = .ok (.aload_n 0, 1) := by decide +kernel
theorem d_Writer_showForm_8 : decode prog_10_method_4_code 8 = .ok (.iload_n 2, 1) := by decide +kernel
theorem d_Writer_showForm_9 : decode prog_10_method_4_code 9 = .ok (.putfield 26, 3) := by decide +kernel
theorem d_Writer_showForm_12 : decode prog_10_method_4_code 12 = .ok (.iconst 0, 1) := by decide +kernel
theorem d_Writer_showForm_13 : decode prog_10_method_4_code 13 = .ok (.istore_n 3, 1) := by decide +kernel
theorem d_Writer_showForm_14 : decode prog_10_method_4_code 14 = .ok (.iload_n 3, 1) := by decide +kernel
theorem d_Writer_showForm_15 : decode prog_10_method_4_code 15 = .ok (.aload_n 1, 1) := by decide +kernel
theorem d_Writer_showForm_16 : decode prog_10_method_4_code 16 = .ok (.getfield 86, 3) := by decide +kernel
theorem d_Writer_showForm_19 : decode prog_10_method_4_code 19 = .ok (.iload_n 2, 1) := by decide +kernel
theorem d_Writer_showForm_20 : decode prog_10_method_4_code 20 = .ok (.invokevirtual 90, 3) := by decide +kernel
theorem d_Writer_showForm_23 : decode prog_10_method_4_code 23 = .ok (.if_icmp .ge 117, 3) := by decide +kernel
theorem d_Writer_showForm_26 : decode prog_10_method_4_code 26 = .ok (.aload_n 1, 1) := by decide +kernel
theorem d_Writer_showForm_27 : decode prog_10_method_4_code 27 = .ok (.getfield 86, 3) := by decide +kernel
theorem d_Writer_showForm_30 : decode prog_10_method_4_code 30 = .ok (.iload_n 2, 1) := by decide +kernel
theorem d_Writer_showForm_31 : decode prog_10_method_4_code 31 = .ok (.iload_n 3, 1) := by decide +kernel
theorem d_Writer_showForm_32 : decode prog_10_method_4_code 32 = .ok (.invokevirtual 95, 3) := by decide +kernel
theorem d_Writer_showForm_35 : decode prog_10_method_4_code 35 = .ok (.aload_n 1, 1) := by decide +kernel
theorem d_Writer_showForm_36 : decode prog_10_method_4_code 36 = .ok (.getfield 99, 3) := by decide +kernel
theorem d_Writer_showForm_39 : decode prog_10_method_4_code 39 = .ok (.getfield 103, 3) := by decide +kernel
theorem d_Writer_showForm_42 : decode prog_10_method_4_code 42 = .ok (.iand, 1) := by decide +kernel
theorem d_Writer_showForm_43 : decode prog_10_method_4_code 43 = .ok (.istore 4, 2) := by decide +kernel
theorem d_Writer_showForm_45 : decode prog_10_method_4_code 45 = .ok (.iconst 0, 1) := by decide +kernel
theorem d_Writer_showForm_46 : decode prog_10_method_4_code 46 = .ok (.istore 5, 2) := by decide +kernel
theorem d_Writer_showForm_48 : decode prog_10_method_4_code 48 = .ok (.iload 5, 2) := by decide +kernel
theorem d_Writer_showForm_50 : decode prog_10_method_4_code 50 = .ok (.aload_n 1, 1) := by decide +kernel
theorem d_Writer_showForm_51 : decode prog_10_method_4_code 51 = .ok (.getfield 43, 3) := by decide +kernel
theorem d_Writer_showForm_54 : decode prog_10_method_4_code 54 = .ok (.getfield 108, 3) := by decide +kernel
theorem d_Writer_showForm_57 : decode prog_10_method_4_code 57 = .ok (.if_icmp .ge 61, 3) := by decide +kernel
theorem d_Writer_showForm_60 : decode prog_10_method_4_code 60 = .ok (.iload 4, 2) := by decide +kernel
theorem d_Writer_showForm_62 : decode prog_10_method_4_code 62 = .ok (.iload 5, 2) := by decide +kernel
theorem d_Writer_showForm_64 : decode prog_10_method_4_code 64 = .ok (.invokestatic 111, 3) := by decide +kernel
theorem d_Writer_showForm_67 : decode prog_10_method_4_code 67 = .ok (.ifCond .eq 45, 3) := by decide +kernel
theorem d_Writer_showForm_70 : decode prog_10_method_4_code 70 = .ok (.aload_n 0, 1) := by decide +kernel
theorem d_Writer_showForm_71 : decode prog_10_method_4_code 71 = .ok (.aload_n 1, 1) := by decide +kernel
theorem d_Writer_showForm_72 : decode prog_10_method_4_code 72 = .ok (.getfield 43, 3) := by decide +kernel
theorem d_Writer_showForm_75 : decode prog_10_method_4_code 75 = .ok (.iload 5, 2) := by decide +kernel
theorem d_Writer_showForm_77 : decode prog_10_method_4_code 77 = .ok (.iload 5, 2) := by decide +kernel
theorem d_Writer_showForm_79 : decode prog_10_method_4_code 79 = .ok (.iload 4, 2) := by decide +kernel
theorem d_Writer_showForm_81 : decode prog_10_method_4_code 81 = .ok (.invokestatic 115, 3) := by decide +kernel
theorem d_Writer_showForm_84 : decode prog_10_method_4_code 84 = .ok (.if_icmp .ne 7, 3) := by decide +kernel
theorem d_Writer_showForm_87 : decode prog_10_method_4_code 87 = .ok (.iload_n 3, 1) := by decide +kernel
theorem d_Writer_showForm_88 : decode prog_10_method_4_code 88 = .ok (.goto 4, 3) := by decide +kernel
theorem d_Writer_showForm_91 : decode prog_10_method_4_code 91 = .ok (.iconst (-1), 1) := by decide +kernel
theorem d_Writer_showForm_92 : decode prog_10_method_4_code 92 = .ok (.invokevirtual 118, 3) := by decide +kernel
theorem d_Writer_showForm_95 : decode prog_10_method_4_code 95 = .ok (.aload_n 0, 1) := by decide +kernel
theorem d_Writer_showForm_96 : decode prog_10_method_4_code 96 = .ok (.aload_n 1, 1) := by decide +kernel
theorem d_Writer_showForm_97 : decode prog_10_method_4_code 97 = .ok (.aload_n 1, 1) := by decide +kernel
theorem d_Writer_showForm_98 : decode prog_10_method_4_code 98 = .ok (.getfield 43, 3) := by decide +kernel
theorem d_Writer_showForm_101 : decode prog_10_method_4_code 101 = .ok (.getfield 74, 3) := by decide +kernel
theorem d_Writer_showForm_104 : decode prog_10_method_4_code 104 = .ok (.iload 5, 2) := by decide +kernel
theorem d_Writer_showForm_106 : decode prog_10_method_4_code 106 = .ok (.invokevirtual 63, 3) := by decide +kernel
theorem d_Writer_showForm_109 : decode prog_10_method_4_code 109 = .ok (.invokevirtual 77, 3) := by decide +kernel
theorem d_Writer_showForm_112 : decode prog_10_method_4_code 112 = .ok (.iinc 5 1, 3) := by decide +kernel
theorem d_Writer_showForm_115 : decode prog_10_method_4_code 115 = .ok (.goto (-67), 3) := by decide +kernel
theorem d_Writer_showForm_118 : decode prog_10_method_4_code 118 = .ok (.aload_n 0, 1) := by decide +kernel
theorem d_Writer_showForm_119 : decode prog_10_method_4_code 119 = .ok (.iload 4, 2) := by decide +kernel
theorem d_Writer_showForm_121 : decode prog_10_method_4_code 121 = .ok (.ifCond .ne 8, 3) := by decide +kernel
theorem d_Writer_showForm_124 : decode prog_10_method_4_code 124 = .ok (.ldc 122, 2) := by decide +kernel
theorem d_Writer_showForm_126 : decode prog_10_method_4_code 126 = .ok (.goto 5, 3) := by decide +kernel
theorem d_Writer_showForm_129 : decode prog_10_method_4_code 129 = .ok (.ldc 124, 2) := by decide +kernel
theorem d_Writer_showForm_131 : decode prog_10_method_4_code 131 = .ok (.invokevirtual 56, 3) := by decide +kernel
theorem d_Writer_showForm_134 : decode prog_10_method_4_code 134 = .ok (.iinc 3 1, 3) := by decide +kernel
theorem d_Writer_showForm_137 : decode prog_10_method_4_code 137 = .ok (.goto (-123), 3) := by decide +kernel
theorem d_Writer_showForm_140 : decode prog_10_method_4_code 140 = .ok (.aload_n 0, 1) := by decide +kernel
theorem d_Writer_showForm_141 : decode prog_10_method_4_code 141 = .ok (.aload_n 1, 1) := by decide +kernel
theorem d_Writer_showForm_142 : decode prog_10_method_4_code 142 = .ok (.aload_n 1, 1) := by decide +kernel
theorem d_Writer_showForm_143 : decode prog_10_method_4_code 143 = .ok (.getfield 43, 3) := by decide +kernel
theorem d_Writer_showForm_146 : decode prog_10_method_4_code 146 = .ok (.getfield 83, 3) := by decide +kernel
theorem d_Writer_showForm_149 : decode prog_10_method_4_code 149 = .ok (.invokevirtual 77, 3) := by decide +kernel
theorem d_Writer_showForm_152 : decode prog_10_method_4_code 152 = .ok (.aload_n 0, 1) := by decide +kernel
theorem d_Writer_showForm_153 : decode prog_10_method_4_code 153 = .ok (.getfield 30, 3) := by decide +kernel
theorem d_Writer_showForm_156 : decode prog_10_method_4_code 156 = .ok (.invokevirtual 39, 3) := by decide +kernel
theorem d_Writer_showForm_159 : decode prog_10_method_4_code 159 = .ok (.ireturn, 1) := by decide +kernel
def fm_Writer_showForm_j131 (a1 : Nat) (a2 : Int) (k14 : Int → fa_W → Option (Int × fa_W)) (x3 : Int) (s0 : Fin 35) (w : fa_W) : Option (Int × fa_W) :=
  (fm_Writer_putText s0 w).bind fun w14 =>
  fa_let (x3 + 1) fun x3_15 =>
  k14 x3_15 w14
set_option maxHeartbeats 4000000 in
set_option maxRecDepth 100000 in
theorem c_Writer_showForm_j131 {p : Program} {l : Launch} {e : Env} {s : State} {m : MethodId} {args : Array Value} {below : List Frame} {meth : Method} {c : Code} {hh : Nat} {D : va_G} {b : Nat} {aC : Nat → ClassId} {H0 : Heap} {N T : Nat} (X : fa_GX p s m args meth c prog_10_method_4_code 6 ((Option.some Jvm.ClassFile.FieldType.int)) y_Writer_showForm.cls D b aC) (hle : 8 ≤ hh) (hN : fa_NX ≤ N) (hT : fa_TX ≤ T) (a1 : Nat) (a2 : Int) (ha1 : (fa_sh a1).1 = 7) {r : Int × fa_W} (k14 : Int → fa_W → Option (Int × fa_W)) (K14 : ∀ (x3 : Int) (w : fa_W), k14 x3 w = some r → fa_GJ p l e (fa_rm hh) s m args below meth c 0 0 (MQ below (fa_Qc D b aC H0 N T (some (.int (fa_I r.1))) r.2) args s 0 0 (fun q => b ≤ q)) D b aC H0 N T 6 w 14 [(0, .ref (b + 37)), (1, .ref (b + a1)), (2, .int (fa_I a2)), (3, .int (fa_I x3))] []) : ∀ (x3 : Int) (s0 : Fin 35) (w : fa_W) (_ : fm_Writer_showForm_j131 a1 a2 k14 x3 s0 w = some r), fa_GJ p l e (fa_rm hh) s m args below meth c 0 0 (MQ below (fa_Qc D b aC H0 N T (some (.int (fa_I r.1))) r.2) args s 0 0 (fun q => b ≤ q)) D b aC H0 N T 6 w 131 [(0, .ref (b + 37)), (1, .ref (b + a1)), (2, .int (fa_I a2)), (3, .int (fa_I x3))] [.ref (D.2 100 (s0).val), .ref (b + 37)] := by
  intro x3 s0 w hM
  unfold fm_Writer_showForm_j131 at hM
  obtain ⟨w14, e13, hM⟩ := fa_ob hM
  refine g_callV_v X ck_9 fo_37 (fa_xn fo_37 (by decide) hN) rfl mi_Writer_putText (c_Writer_putText hN hT s0 w _ e13) wd_763 rfl (Nat.le_trans (Nat.le_of_ble_eq_true rfl) hle) (st := []) (Nat.le_of_ble_eq_true rfl) rfl d_Writer_showForm_131 ?_
  refine g_iinc X 3 (fun x3_15 => [(3, .int (fa_I x3_15)), (0, .ref (b + 37)), (1, .ref (b + a1)), (2, .int (fa_I a2))]) d_Writer_showForm_134 rfl (by decide) (fun _ => rfl) (fun x3_15 ex3_15 => ?_)
  have hM := fa_let_to hM ex3_15
  refine g_goto X 14 d_Writer_showForm_137 (by decide) ?_
  exact g_lv [1, 2, 3, 0] rfl (K14 _ _ hM)
def fm_Writer_showForm_j92 (a1 : Nat) (a2 : Int) (k48 : Int → Int → Int → fa_W → Option (Int × fa_W)) (x3 : Int) (x4 : Int) (x5 : Int) (s0 : Int) (s1 : Int) (w : fa_W) : Option (Int × fa_W) :=
  (fm_Writer_putCaseStart (fa_rf a1 0) s1 s0 w).bind fun w22 =>
  (fm_Writer_putExpression a1 (fr_at (fa_rf (fa_rf a1 0) 9) x5 w22) w22).bind fun w25 =>
  fa_let (x5 + 1) fun x5_26 =>
  k48 x3 x4 x5_26 w25
set_option maxHeartbeats 4000000 in
set_option maxRecDepth 100000 in
theorem c_Writer_showForm_j92 {p : Program} {l : Launch} {e : Env} {s : State} {m : MethodId} {args : Array Value} {below : List Frame} {meth : Method} {c : Code} {hh : Nat} {D : va_G} {b : Nat} {aC : Nat → ClassId} {H0 : Heap} {N T : Nat} (X : fa_GX p s m args meth c prog_10_method_4_code 6 ((Option.some Jvm.ClassFile.FieldType.int)) y_Writer_showForm.cls D b aC) (hle : 8 ≤ hh) (hN : fa_NX ≤ N) (hT : fa_TX ≤ T) (a1 : Nat) (a2 : Int) (ha1 : (fa_sh a1).1 = 7) {r : Int × fa_W} (k48 : Int → Int → Int → fa_W → Option (Int × fa_W)) (K48 : ∀ (x3 : Int) (x4 : Int) (x5 : Int) (w : fa_W), k48 x3 x4 x5 w = some r → fa_GJ p l e (fa_rm hh) s m args below meth c 0 0 (MQ below (fa_Qc D b aC H0 N T (some (.int (fa_I r.1))) r.2) args s 0 0 (fun q => b ≤ q)) D b aC H0 N T 6 w 48 [(0, .ref (b + 37)), (1, .ref (b + a1)), (2, .int (fa_I a2)), (3, .int (fa_I x3)), (4, .int (fa_I x4)), (5, .int (fa_I x5))] []) : ∀ (x3 : Int) (x4 : Int) (x5 : Int) (s0 : Int) (s1 : Int) (w : fa_W) (_ : fm_Writer_showForm_j92 a1 a2 k48 x3 x4 x5 s0 s1 w = some r), fa_GJ p l e (fa_rm hh) s m args below meth c 0 0 (MQ below (fa_Qc D b aC H0 N T (some (.int (fa_I r.1))) r.2) args s 0 0 (fun q => b ≤ q)) D b aC H0 N T 6 w 92 [(0, .ref (b + 37)), (1, .ref (b + a1)), (2, .int (fa_I a2)), (3, .int (fa_I x3)), (4, .int (fa_I x4)), (5, .int (fa_I x5))] [.int (fa_I s0), .int (fa_I s1), .ref (b + (fa_rf a1 0)), .ref (b + 37)] := by
  intro x3 x4 x5 s0 s1 w hM
  unfold fm_Writer_showForm_j92 at hM
  obtain ⟨w22, e21, hM⟩ := fa_ob hM
  refine g_callV_v X ck_9 fo_37 (fa_xn fo_37 (by decide) hN) rfl mi_Writer_putCaseStart (c_Writer_putCaseStart hN hT (fa_rf a1 0) s1 s0 (fa_r7_0 _ ha1) w _ e21) wd_1436 rfl (Nat.le_trans (Nat.le_of_ble_eq_true rfl) hle) (st := []) (Nat.le_of_ble_eq_true rfl) rfl d_Writer_showForm_92 ?_
  refine g_aload_n X 0 rfl d_Writer_showForm_95 ?_
  refine g_aload_n X 1 rfl d_Writer_showForm_96 ?_
  refine g_aload_n X 1 rfl d_Writer_showForm_97 ?_
  refine g_getN X ck_7 ha1 (fa_xn ha1 (by decide) hN) 0 (by decide) wd_387 rfl (fa_fvR rfl (fa_xt ha1 (by decide) hT 0)) d_Writer_showForm_98 ?_
  refine g_getN X ck_4 (fa_r7_0 _ ha1) (fa_xn (fa_r7_0 _ ha1) (by decide) hN) 9 (by decide) wd_84 rfl (fa_fvR rfl (fa_xt (fa_r7_0 _ ha1) (by decide) hT 9)) d_Writer_showForm_101 ?_
  refine g_iload X 5 rfl d_Writer_showForm_104 ?_
  refine g_callV_i X ck_6 (fa_r4_9 _ (fa_r7_0 _ ha1)) (fa_xn (fa_r4_9 _ (fa_r7_0 _ ha1)) (by decide) hN) rfl mi_Row_at (ct_Row_at (fa_rf (fa_rf a1 0) 9) x5 (fa_ro (fa_r4_9 _ (fa_r7_0 _ ha1)) hN hT) w22 _ rfl) wd_815 rfl (Nat.le_trans (Nat.le_of_ble_eq_true rfl) hle) (st := [.ref (b + a1), .ref (b + 37)]) (Nat.le_of_ble_eq_true rfl) rfl d_Writer_showForm_106 ?_
  obtain ⟨w25, e24, hM⟩ := fa_ob hM
  refine g_callV_v X ck_9 fo_37 (fa_xn fo_37 (by decide) hN) rfl mi_Writer_putExpression (c_Writer_putExpression hN hT a1 (fr_at (fa_rf (fa_rf a1 0) 9) x5 w22) ha1 w22 _ e24) wd_822 rfl (Nat.le_trans (Nat.le_of_ble_eq_true rfl) hle) (st := []) (Nat.le_of_ble_eq_true rfl) rfl d_Writer_showForm_109 ?_
  refine g_iinc X 5 (fun x5_26 => [(5, .int (fa_I x5_26)), (0, .ref (b + 37)), (1, .ref (b + a1)), (2, .int (fa_I a2)), (3, .int (fa_I x3)), (4, .int (fa_I x4))]) d_Writer_showForm_112 rfl (by decide) (fun _ => rfl) (fun x5_26 ex5_26 => ?_)
  have hM := fa_let_to hM ex5_26
  refine g_goto X 48 d_Writer_showForm_115 (by decide) ?_
  exact g_lv [1, 2, 3, 4, 5, 0] rfl (K48 _ _ _ _ hM)
def fm_Writer_showForm_l48 (a1 : Nat) (a2 : Int) (k14 : Int → fa_W → Option (Int × fa_W)) : Nat → Int → Int → Int → fa_W → Option (Int × fa_W)
  | 0, _, _, _, _ => none
  | n + 1, x3, x4, x5, w => if fa_wr (w (fa_rf a1 0) 14) ≤ fa_wr x5 then
  (if fa_wr x4 = 0 then
  fm_Writer_showForm_j131 a1 a2 k14 x3 (4 : Fin 35) w
  else
  fm_Writer_showForm_j131 a1 a2 k14 x3 (5 : Fin 35) w)
  else
  (if fm_Face_hasBit x4 x5 w = true then
  (if fa_wr x5 = fa_wr (fm_Face_lowest x4 w) then
  fm_Writer_showForm_j92 a1 a2 (fun x3 x4 x5 w9 => fm_Writer_showForm_l48 a1 a2 k14 n x3 x4 x5 w9) x3 x4 x5 x3 x5 w
  else
  fm_Writer_showForm_j92 a1 a2 (fun x3 x4 x5 w9 => fm_Writer_showForm_l48 a1 a2 k14 n x3 x4 x5 w9) x3 x4 x5 (-1) x5 w)
  else
  (fa_let (x5 + 1) fun x5_18 =>
  fm_Writer_showForm_l48 a1 a2 k14 n x3 x4 x5_18 w))
set_option maxHeartbeats 4000000 in
set_option maxRecDepth 100000 in
theorem c_Writer_showForm_l48 {p : Program} {l : Launch} {e : Env} {s : State} {m : MethodId} {args : Array Value} {below : List Frame} {meth : Method} {c : Code} {hh : Nat} {D : va_G} {b : Nat} {aC : Nat → ClassId} {H0 : Heap} {N T : Nat} (X : fa_GX p s m args meth c prog_10_method_4_code 6 ((Option.some Jvm.ClassFile.FieldType.int)) y_Writer_showForm.cls D b aC) (hle : 8 ≤ hh) (hN : fa_NX ≤ N) (hT : fa_TX ≤ T) (a1 : Nat) (a2 : Int) (ha1 : (fa_sh a1).1 = 7) {r : Int × fa_W} (k14 : Int → fa_W → Option (Int × fa_W)) (K14 : ∀ (x3 : Int) (w : fa_W), k14 x3 w = some r → fa_GJ p l e (fa_rm hh) s m args below meth c 0 0 (MQ below (fa_Qc D b aC H0 N T (some (.int (fa_I r.1))) r.2) args s 0 0 (fun q => b ≤ q)) D b aC H0 N T 6 w 14 [(0, .ref (b + 37)), (1, .ref (b + a1)), (2, .int (fa_I a2)), (3, .int (fa_I x3))] []) : ∀ (n : Nat) (x3 : Int) (x4 : Int) (x5 : Int) (w : fa_W), fm_Writer_showForm_l48 a1 a2 k14 n x3 x4 x5 w = some r → fa_GJ p l e (fa_rm hh) s m args below meth c 0 0 (MQ below (fa_Qc D b aC H0 N T (some (.int (fa_I r.1))) r.2) args s 0 0 (fun q => b ≤ q)) D b aC H0 N T 6 w 48 [(0, .ref (b + 37)), (1, .ref (b + a1)), (2, .int (fa_I a2)), (3, .int (fa_I x3)), (4, .int (fa_I x4)), (5, .int (fa_I x5))] [] := by
  intro n
  induction n with
  | zero => intro x3 x4 x5 w hM; exact fa_no hM
  | succ n ih =>
    intro x3 x4 x5 w hM
    rw [fm_Writer_showForm_l48] at hM
    refine g_iload X 5 rfl d_Writer_showForm_48 ?_
    refine g_aload_n X 1 rfl d_Writer_showForm_50 ?_
    refine g_getN X ck_7 ha1 (fa_xn ha1 (by decide) hN) 0 (by decide) wd_387 rfl (fa_fvR rfl (fa_xt ha1 (by decide) hT 0)) d_Writer_showForm_51 ?_
    refine g_getN X ck_4 (fa_r7_0 _ ha1) (fa_xn (fa_r7_0 _ ha1) (by decide) hN) 14 (by decide) wd_99 rfl (fa_fvI rfl) d_Writer_showForm_54 ?_
    refine g_icmp_ge X 118 d_Writer_showForm_57 (by decide) (fun hc11 => ?_) (fun hc11 => ?_)
    · have hM := fa_if_t hM hc11
      refine g_aload_n X 0 rfl d_Writer_showForm_118 ?_
      refine g_iload X 4 rfl d_Writer_showForm_119 ?_
      refine g_if_ne X 129 d_Writer_showForm_121 (by decide) (fun hc12 => ?_) (fun hc12 => ?_)
      · have hM := fa_if_f hM hc12
        refine g_ldcs X (5 : Fin 35) (List.mem_of_getElem? (i := 5) rfl) d_Writer_showForm_129 ?_
        exact g_lv [0, 1, 2, 3] rfl (c_Writer_showForm_j131 X hle hN hT a1 a2 ha1  k14 K14  _ _ _ hM)
      · have hM := fa_if_t hM hc12
        refine g_ldcs X (4 : Fin 35) (List.mem_of_getElem? (i := 4) rfl) d_Writer_showForm_124 ?_
        refine g_goto X 131 d_Writer_showForm_126 (by decide) ?_
        exact g_lv [0, 1, 2, 3] rfl (c_Writer_showForm_j131 X hle hN hT a1 a2 ha1  k14 K14  _ _ _ hM)
    · have hM := fa_if_f hM hc11
      refine g_iload X 4 rfl d_Writer_showForm_60 ?_
      refine g_iload X 5 rfl d_Writer_showForm_62 ?_
      refine g_callSN_i X mi_Face_hasBit (c_Face_hasBit hN hT x4 x5 w _ rfl) wd_1435 rfl (Nat.le_trans (Nat.le_of_ble_eq_true rfl) hle) (st := []) (Nat.le_of_ble_eq_true rfl) rfl d_Writer_showForm_64 ?_
      refine g_ifb_eq X 112 d_Writer_showForm_67 (by decide) (fun hc17 => ?_) (fun hc17 => ?_)
      · have hM := fa_ifb_f hM hc17
        refine g_iinc X 5 (fun x5_18 => [(5, .int (fa_I x5_18)), (0, .ref (b + 37)), (1, .ref (b + a1)), (2, .int (fa_I a2)), (3, .int (fa_I x3)), (4, .int (fa_I x4))]) d_Writer_showForm_112 rfl (by decide) (fun _ => rfl) (fun x5_18 ex5_18 => ?_)
        have hM := fa_let_to hM ex5_18
        refine g_goto X 48 d_Writer_showForm_115 (by decide) ?_
        exact g_lv [1, 2, 3, 4, 5, 0] rfl (ih _ _ _ _ hM)
      · have hM := fa_ifb_t hM hc17
        refine g_aload_n X 0 rfl d_Writer_showForm_70 ?_
        refine g_aload_n X 1 rfl d_Writer_showForm_71 ?_
        refine g_getN X ck_7 ha1 (fa_xn ha1 (by decide) hN) 0 (by decide) wd_387 rfl (fa_fvR rfl (fa_xt ha1 (by decide) hT 0)) d_Writer_showForm_72 ?_
        refine g_iload X 5 rfl d_Writer_showForm_75 ?_
        refine g_iload X 5 rfl d_Writer_showForm_77 ?_
        refine g_iload X 4 rfl d_Writer_showForm_79 ?_
        refine g_callSN_i X mi_Face_lowest (c_Face_lowest hN hT x4 w _ rfl) wd_880 rfl (Nat.le_trans (Nat.le_of_ble_eq_true rfl) hle) (st := [.int (fa_I x5), .int (fa_I x5), .ref (b + (fa_rf a1 0)), .ref (b + 37)]) (Nat.le_of_ble_eq_true rfl) rfl d_Writer_showForm_81 ?_
        refine g_icmp_ne X 91 d_Writer_showForm_84 (by decide) (fun hc20 => ?_) (fun hc20 => ?_)
        · have hM := fa_if_f hM hc20
          refine g_iconst X d_Writer_showForm_91 ?_
          exact g_lv [0, 1, 2, 3, 4, 5] rfl (c_Writer_showForm_j92 X hle hN hT a1 a2 ha1  (fun x3 x4 x5 w9 => fm_Writer_showForm_l48 a1 a2 k14 n x3 x4 x5 w9) (fun _ _ _ _ h => ih _ _ _ _ h)  _ _ _ _ _ _ hM)
        · have hM := fa_if_t hM hc20
          refine g_iload_n X 3 rfl d_Writer_showForm_87 ?_
          refine g_goto X 92 d_Writer_showForm_88 (by decide) ?_
          exact g_lv [0, 1, 2, 3, 4, 5] rfl (c_Writer_showForm_j92 X hle hN hT a1 a2 ha1  (fun x3 x4 x5 w9 => fm_Writer_showForm_l48 a1 a2 k14 n x3 x4 x5 w9) (fun _ _ _ _ h => ih _ _ _ _ h)  _ _ _ _ _ _ hM)
def fm_Writer_showForm_l14 (a1 : Nat) (a2 : Int) : Nat → Int → fa_W → Option (Int × fa_W)
  | 0, _, _ => none
  | n + 1, x3, w => if fa_wr (fm_Groups_many (fa_rf a1 3) a2 w) ≤ fa_wr x3 then
  ((fm_Writer_putExpression a1 (w (fa_rf a1 0) 16) w).bind fun w7 =>
  some (fm_Row_size 3 w7, w7))
  else
  (fa_let (fa_iand (fm_Groups_members (fa_rf a1 3) a2 x3 w) (w (fa_rf a1 2) 6)) fun x4_10 =>
  fm_Writer_showForm_l48 a1 a2 (fun x3 w9 => fm_Writer_showForm_l14 a1 a2 n x3 w9) fa_FU x3 x4_10 0 w)
set_option maxHeartbeats 4000000 in
set_option maxRecDepth 100000 in
theorem c_Writer_showForm_l14 {p : Program} {l : Launch} {e : Env} {s : State} {m : MethodId} {args : Array Value} {below : List Frame} {meth : Method} {c : Code} {hh : Nat} {D : va_G} {b : Nat} {aC : Nat → ClassId} {H0 : Heap} {N T : Nat} (X : fa_GX p s m args meth c prog_10_method_4_code 6 ((Option.some Jvm.ClassFile.FieldType.int)) y_Writer_showForm.cls D b aC) (hle : 8 ≤ hh) (hN : fa_NX ≤ N) (hT : fa_TX ≤ T) (a1 : Nat) (a2 : Int) (ha1 : (fa_sh a1).1 = 7) {r : Int × fa_W}  : ∀ (n : Nat) (x3 : Int) (w : fa_W), fm_Writer_showForm_l14 a1 a2 n x3 w = some r → fa_GJ p l e (fa_rm hh) s m args below meth c 0 0 (MQ below (fa_Qc D b aC H0 N T (some (.int (fa_I r.1))) r.2) args s 0 0 (fun q => b ≤ q)) D b aC H0 N T 6 w 14 [(0, .ref (b + 37)), (1, .ref (b + a1)), (2, .int (fa_I a2)), (3, .int (fa_I x3))] [] := by
  intro n
  induction n with
  | zero => intro x3 w hM; exact fa_no hM
  | succ n ih =>
    intro x3 w hM
    rw [fm_Writer_showForm_l14] at hM
    refine g_iload_n X 3 rfl d_Writer_showForm_14 ?_
    refine g_aload_n X 1 rfl d_Writer_showForm_15 ?_
    refine g_getN X ck_7 ha1 (fa_xn ha1 (by decide) hN) 3 (by decide) wd_397 rfl (fa_fvR rfl (fa_xt ha1 (by decide) hT 3)) d_Writer_showForm_16 ?_
    refine g_iload_n X 2 rfl d_Writer_showForm_19 ?_
    refine g_callV_i X ck_2 (fa_r7_3 _ ha1) (fa_xn (fa_r7_3 _ ha1) (by decide) hN) rfl mi_Groups_many (c_Groups_many hN hT (fa_rf a1 3) a2 (fa_r7_3 _ ha1) w _ rfl) wd_1433 rfl (Nat.le_trans (Nat.le_of_ble_eq_true rfl) hle) (st := [.int (fa_I x3)]) (Nat.le_of_ble_eq_true rfl) rfl d_Writer_showForm_20 ?_
    refine g_icmp_ge X 140 d_Writer_showForm_23 (by decide) (fun hc5 => ?_) (fun hc5 => ?_)
    · have hM := fa_if_t hM hc5
      refine g_aload_n X 0 rfl d_Writer_showForm_140 ?_
      refine g_aload_n X 1 rfl d_Writer_showForm_141 ?_
      refine g_aload_n X 1 rfl d_Writer_showForm_142 ?_
      refine g_getN X ck_7 ha1 (fa_xn ha1 (by decide) hN) 0 (by decide) wd_387 rfl (fa_fvR rfl (fa_xt ha1 (by decide) hT 0)) d_Writer_showForm_143 ?_
      refine g_getN X ck_4 (fa_r7_0 _ ha1) (fa_xn (fa_r7_0 _ ha1) (by decide) hN) 16 (by decide) wd_110 rfl (fa_fvI rfl) d_Writer_showForm_146 ?_
      obtain ⟨w7, e6, hM⟩ := fa_ob hM
      refine g_callV_v X ck_9 fo_37 (fa_xn fo_37 (by decide) hN) rfl mi_Writer_putExpression (c_Writer_putExpression hN hT a1 (w (fa_rf a1 0) 16) ha1 w _ e6) wd_822 rfl (Nat.le_trans (Nat.le_of_ble_eq_true rfl) hle) (st := []) (Nat.le_of_ble_eq_true rfl) rfl d_Writer_showForm_149 ?_
      refine g_aload_n X 0 rfl d_Writer_showForm_152 ?_
      refine g_get X ck_9 fo_37 (fa_xn fo_37 (by decide) hN) 0 (by decide) wd_199 rfl (fr_37_0 rfl hT) d_Writer_showForm_153 ?_
      refine g_callV_i X ck_6 fo_3 (fa_xn fo_3 (by decide) hN) rfl mi_Row_size (c_Row_size 3 (fa_ro fo_3 hN hT) w7 _ rfl) wd_686 rfl (Nat.le_trans (Nat.le_of_ble_eq_true rfl) hle) (st := []) (Nat.le_of_ble_eq_true rfl) rfl d_Writer_showForm_156 ?_
      cases hM
      exact g_iret X d_Writer_showForm_159
    · have hM := fa_if_f hM hc5
      refine g_aload_n X 1 rfl d_Writer_showForm_26 ?_
      refine g_getN X ck_7 ha1 (fa_xn ha1 (by decide) hN) 3 (by decide) wd_397 rfl (fa_fvR rfl (fa_xt ha1 (by decide) hT 3)) d_Writer_showForm_27 ?_
      refine g_iload_n X 2 rfl d_Writer_showForm_30 ?_
      refine g_iload_n X 3 rfl d_Writer_showForm_31 ?_
      refine g_callV_i X ck_2 (fa_r7_3 _ ha1) (fa_xn (fa_r7_3 _ ha1) (by decide) hN) rfl mi_Groups_members (c_Groups_members hN hT (fa_rf a1 3) a2 x3 (fa_r7_3 _ ha1) w _ rfl) wd_1434 rfl (Nat.le_trans (Nat.le_of_ble_eq_true rfl) hle) (st := []) (Nat.le_of_ble_eq_true rfl) rfl d_Writer_showForm_32 ?_
      refine g_aload_n X 1 rfl d_Writer_showForm_35 ?_
      refine g_getN X ck_7 ha1 (fa_xn ha1 (by decide) hN) 2 (by decide) wd_393 rfl (fa_fvR rfl (fa_xt ha1 (by decide) hT 2)) d_Writer_showForm_36 ?_
      refine g_getN X ck_1 (fa_r7_2 _ ha1) (fa_xn (fa_r7_2 _ ha1) (by decide) hN) 6 (by decide) wd_346 rfl (fa_fvI rfl) d_Writer_showForm_39 ?_
      refine g_iand X d_Writer_showForm_42 ?_
      refine g_istore X (fun x4_10 => [(4, .int (fa_I x4_10)), (0, .ref (b + 37)), (1, .ref (b + a1)), (2, .int (fa_I a2)), (3, .int (fa_I x3))]) d_Writer_showForm_43 (by decide) (fun _ => rfl) (fun x4_10 ex4_10 => ?_)
      have hM := fa_let_to hM ex4_10
      refine g_iconst X d_Writer_showForm_45 ?_
      refine g_istorec X [(5, .int (fa_I 0)), (4, .int (fa_I x4_10)), (0, .ref (b + 37)), (1, .ref (b + a1)), (2, .int (fa_I a2)), (3, .int (fa_I x3))] d_Writer_showForm_46 (by decide) rfl ?_
      exact g_lv [2, 3, 4, 5, 1, 0] rfl (c_Writer_showForm_l48 X hle hN hT a1 a2 ha1  (fun x3 w9 => fm_Writer_showForm_l14 a1 a2 n x3 w9) (fun _ _ h => ih _ _ h) fa_FU _ _ _ _ hM)
def fm_Writer_showForm (a1 : Nat) (a2 : Int) (w : fa_W) : Option (Int × fa_W) :=
  fa_let (fm_Row_clear 3 w) fun w2 =>
  fa_let (fa_st w2 37 4 a2) fun w3 =>
  fm_Writer_showForm_l14 a1 a2 fa_FU 0 w3
set_option maxHeartbeats 4000000 in
set_option maxRecDepth 100000 in
theorem c_Writer_showForm {l : Launch} {D : va_G} {b : Nat} {aC : Nat → ClassId} {H0 : Heap} {N T : Nat} (hN : fa_NX ≤ N) (hT : fa_TX ≤ T) (a1 : Nat) (a2 : Int) (ha1 : (fa_sh a1).1 = 7)  (w : fa_W) (r : Int × fa_W) (hM : fm_Writer_showForm a1 a2 w = some r) : fa_MC l D b aC H0 N T y_Writer_showForm prog_10_method_4_code 6 ((Option.some Jvm.ClassFile.FieldType.int)) (8) [.ref (b + 37), .ref (b + a1), .int (fa_I a2)] w (some (.int (fa_I r.1))) r.2 := by
  refine fa_enter (lv := [(0, .ref (b + 37)), (1, .ref (b + a1)), (2, .int (fa_I a2))]) (by decide +kernel) (Nat.le_of_ble_eq_true rfl) rfl (fun hh hle hnm X => ?_)
  unfold fm_Writer_showForm at hM
  refine g_aload_n X 0 rfl d_Writer_showForm_0 ?_
  refine g_get X ck_9 fo_37 (fa_xn fo_37 (by decide) hN) 0 (by decide) wd_199 rfl (fr_37_0 rfl hT) d_Writer_showForm_1 ?_
  obtain ⟨w2, e1⟩ : ∃ q, fm_Row_clear 3 w = q := ⟨_, rfl⟩
  have hM := fa_let_to hM e1.symm
  refine g_callV_v X ck_6 fo_3 (fa_xn fo_3 (by decide) hN) rfl mi_Row_clear (c_Row_clear 3 (fa_ro fo_3 hN hT) w _ e1) wd_683 rfl (Nat.le_trans (Nat.le_of_ble_eq_true rfl) hle) (st := []) (Nat.le_of_ble_eq_true rfl) rfl d_Writer_showForm_4 ?_
  refine g_aload_n X 0 rfl d_Writer_showForm_7 ?_
  refine g_iload_n X 2 rfl d_Writer_showForm_8 ?_
  refine g_put X ck_9 fo_37 (fa_xn fo_37 (by decide) hN) 4 (z := a2) (by decide) wd_203 rfl (fa_fvI' rfl) rfl rfl rfl d_Writer_showForm_9 (fun w3 ew3 => ?_)
  have hM := fa_let_to hM ew3
  refine g_iconst X d_Writer_showForm_12 ?_
  refine g_istorec_n X [(3, .int (fa_I 0)), (0, .ref (b + 37)), (1, .ref (b + a1)), (2, .int (fa_I a2))] d_Writer_showForm_13 (by decide) rfl ?_
  exact g_lv [1, 2, 3, 0] rfl (c_Writer_showForm_l14 X hle hN hT a1 a2 ha1   fa_FU _ _ hM)
theorem d_Writer_putType_0 : decode prog_10_method_19_code 0 = .ok (.aload_n 1, 1) := by decide +kernel
theorem d_Writer_putType_1 : decode prog_10_method_19_code 1 = .ok (.iload_n 2, 1) := by decide +kernel
theorem d_Writer_putType_2 : decode prog_10_method_19_code 2 = .ok (.invokevirtual 235, 3) := by decide +kernel
theorem d_Writer_putType_5 : decode prog_10_method_19_code 5 = .ok (.ifCond .eq 15, 3) := by decide +kernel
theorem d_Writer_putType_8 : decode prog_10_method_19_code 8 = .ok (.aload_n 0, 1) := by decide +kernel
theorem d_Writer_putType_9 : decode prog_10_method_19_code 9 = .ok (.getfield 30, 3) := by decide +kernel
theorem d_Writer_putType_12 : decode prog_10_method_19_code 12 = .ok (.bipush 105, 2) := by decide +kernel
theorem d_Writer_putType_14 : decode prog_10_method_19_code 14 = .ok (.invokevirtual 141, 3) := by decide +kernel
theorem d_Writer_putType_17 : decode prog_10_method_19_code 17 = .ok (.goto 108, 3) := by decide +kernel
theorem d_Writer_putType_20 : decode prog_10_method_19_code 20 = .ok (.aload_n 1, 1) := by decide +kernel
theorem d_Writer_putType_21 : decode prog_10_method_19_code 21 = .ok (.iload_n 2, 1) := by decide +kernel
theorem d_Writer_putType_22 : decode prog_10_method_19_code 22 = .ok (.invokevirtual 239, 3) := by decide +kernel
theorem d_Writer_putType_25 : decode prog_10_method_19_code 25 = .ok (.ifCond .eq 57, 3) := by decide +kernel
theorem d_Writer_putType_28 : decode prog_10_method_19_code 28 = .ok (.aload_n 0, 1) := by decide +kernel
theorem d_Writer_putType_29 : decode prog_10_method_19_code 29 = .ok (.getfield 30, 3) := by decide +kernel
theorem d_Writer_putType_32 : decode prog_10_method_19_code 32 = .ok (.bipush 40, 2) := by decide +kernel
theorem d_Writer_putType_34 : decode prog_10_method_19_code 34 = .ok (.invokevirtual 141, 3) := by decide +kernel
theorem d_Writer_putType_37 : decode prog_10_method_19_code 37 = .ok (.aload_n 0, 1) := by decide +kernel
theorem d_Writer_putType_38 : decode prog_10_method_19_code 38 = .ok (.getfield 16, 3) := by decide +kernel
theorem d_Writer_putType_41 : decode prog_10_method_19_code 41 = .ok (.bipush (-41), 2) := by decide +kernel
theorem d_Writer_putType_43 : decode prog_10_method_19_code 43 = .ok (.invokevirtual 141, 3) := by decide +kernel
theorem d_Writer_putType_46 : decode prog_10_method_19_code 46 = .ok (.aload_n 0, 1) := by decide +kernel
theorem d_Writer_putType_47 : decode prog_10_method_19_code 47 = .ok (.getfield 16, 3) := by decide +kernel
theorem d_Writer_putType_50 : decode prog_10_method_19_code 50 = .ok (.aload_n 1, 1) := by decide +kernel
theorem d_Writer_putType_51 : decode prog_10_method_19_code 51 = .ok (.iload_n 2, 1) := by decide +kernel
theorem d_Writer_putType_52 : decode prog_10_method_19_code 52 = .ok (.invokevirtual 242, 3) := by decide +kernel
theorem d_Writer_putType_55 : decode prog_10_method_19_code 55 = .ok (.invokevirtual 141, 3) := by decide +kernel
theorem d_Writer_putType_58 : decode prog_10_method_19_code 58 = .ok (.aload_n 0, 1) := by decide +kernel
theorem d_Writer_putType_59 : decode prog_10_method_19_code 59 = .ok (.getfield 16, 3) := by decide +kernel
theorem d_Writer_putType_62 : decode prog_10_method_19_code 62 = .ok (.bipush (-62), 2) := by decide +kernel
theorem d_Writer_putType_64 : decode prog_10_method_19_code 64 = .ok (.invokevirtual 141, 3) := by decide +kernel
theorem d_Writer_putType_67 : decode prog_10_method_19_code 67 = .ok (.aload_n 0, 1) := by decide +kernel
theorem d_Writer_putType_68 : decode prog_10_method_19_code 68 = .ok (.getfield 16, 3) := by decide +kernel
theorem d_Writer_putType_71 : decode prog_10_method_19_code 71 = .ok (.aload_n 1, 1) := by decide +kernel
theorem d_Writer_putType_72 : decode prog_10_method_19_code 72 = .ok (.iload_n 2, 1) := by decide +kernel
theorem d_Writer_putType_73 : decode prog_10_method_19_code 73 = .ok (.invokevirtual 245, 3) := by decide +kernel
theorem d_Writer_putType_76 : decode prog_10_method_19_code 76 = .ok (.invokevirtual 141, 3) := by decide +kernel
theorem d_Writer_putType_79 : decode prog_10_method_19_code 79 = .ok (.goto 46, 3) := by decide +kernel
theorem d_Writer_putType_82 : decode prog_10_method_19_code 82 = .ok (.aload_n 0, 1) := by decide +kernel
theorem d_Writer_putType_83 : decode prog_10_method_19_code 83 = .ok (.getfield 20, 3) := by decide +kernel
theorem d_Writer_putType_86 : decode prog_10_method_19_code 86 = .ok (.iload_n 2, 1) := by decide +kernel
theorem d_Writer_putType_87 : decode prog_10_method_19_code 87 = .ok (.invokevirtual 248, 3) := by decide +kernel
theorem d_Writer_putType_90 : decode prog_10_method_19_code 90 = .ok (.iconst (-1), 1) := by decide +kernel
theorem d_Writer_putType_91 : decode prog_10_method_19_code 91 = .ok (.if_icmp .ne 11, 3) := by decide +kernel
theorem d_Writer_putType_94 : decode prog_10_method_19_code 94 = .ok (.aload_n 0, 1) := by decide +kernel
theorem d_Writer_putType_95 : decode prog_10_method_19_code 95 = .ok (.getfield 20, 3) := by decide +kernel
theorem d_Writer_putType_98 : decode prog_10_method_19_code 98 = .ok (.iload_n 2, 1) := by decide +kernel
theorem d_Writer_putType_99 : decode prog_10_method_19_code 99 = .ok (.invokevirtual 141, 3) := by decide +kernel
theorem d_Writer_putType_102 : decode prog_10_method_19_code 102 = .ok (.aload_n 0, 1) := by decide +kernel
theorem d_Writer_putType_103 : decode prog_10_method_19_code 103 = .ok (.getfield 30, 3) := by decide +kernel
theorem d_Writer_putType_106 : decode prog_10_method_19_code 106 = .ok (.bipush 97, 2) := by decide +kernel
theorem d_Writer_putType_108 : decode prog_10_method_19_code 108 = .ok (.aload_n 0, 1) := by decide +kernel
theorem d_Writer_putType_109 : decode prog_10_method_19_code 109 = .ok (.getfield 20, 3) := by decide +kernel
theorem d_Writer_putType_112 : decode prog_10_method_19_code 112 = .ok (.iload_n 2, 1) := by decide +kernel
theorem d_Writer_putType_113 : decode prog_10_method_19_code 113 = .ok (.invokevirtual 248, 3) := by decide +kernel
theorem d_Writer_putType_116 : decode prog_10_method_19_code 116 = .ok (.iadd, 1) := by decide +kernel
theorem d_Writer_putType_117 : decode prog_10_method_19_code 117 = .ok (.bipush 122, 2) := by decide +kernel
theorem d_Writer_putType_119 : decode prog_10_method_19_code 119 = .ok (.invokestatic 251, 3) := by decide +kernel
theorem d_Writer_putType_122 : decode prog_10_method_19_code 122 = .ok (.invokevirtual 141, 3) := by decide +kernel
theorem d_Writer_putType_125 : decode prog_10_method_19_code 125 = .ok (.return_, 1) := by decide +kernel
def fm_Writer_putType_j102 (a1 : Nat) (a2 : Int) (w : fa_W) : Option fa_W :=
  fa_let (fr_add 3 (fa_min (97 + (fr_find 40 a2 w)) 122) w) fun w10 =>
  some w10
set_option maxHeartbeats 4000000 in
set_option maxRecDepth 100000 in
theorem c_Writer_putType_j102 {p : Program} {l : Launch} {e : Env} {s : State} {m : MethodId} {args : Array Value} {below : List Frame} {meth : Method} {c : Code} {hh : Nat} {D : va_G} {b : Nat} {aC : Nat → ClassId} {H0 : Heap} {N T : Nat} (X : fa_GX p s m args meth c prog_10_method_19_code 3 ((Option.none : Option Jvm.ClassFile.FieldType)) y_Writer_putType.cls D b aC) (hle : 3 ≤ hh) (hN : fa_NX ≤ N) (hT : fa_TX ≤ T) (a1 : Nat) (a2 : Int) (ha1 : (fa_sh a1).1 = 8) {r : fa_W}  : ∀ (w : fa_W) (_ : fm_Writer_putType_j102 a1 a2 w = some r), fa_GJ p l e (fa_rm hh) s m args below meth c 0 0 (MQ below (fa_Qc D b aC H0 N T (none) r) args s 0 0 (fun q => b ≤ q)) D b aC H0 N T 3 w 102 [(0, .ref (b + 37)), (2, .int (fa_I a2))] [] := by
  intro w hM
  unfold fm_Writer_putType_j102 at hM
  refine g_aload_n X 0 rfl d_Writer_putType_102 ?_
  refine g_get X ck_9 fo_37 (fa_xn fo_37 (by decide) hN) 0 (by decide) wd_199 rfl (fr_37_0 rfl hT) d_Writer_putType_103 ?_
  refine g_bipush X (by decide) d_Writer_putType_106 ?_
  refine g_aload_n X 0 rfl d_Writer_putType_108 ?_
  refine g_get X ck_9 fo_37 (fa_xn fo_37 (by decide) hN) 2 (by decide) wd_201 rfl (fr_37_2 rfl hT) d_Writer_putType_109 ?_
  refine g_iload_n X 1 rfl d_Writer_putType_112 ?_
  refine g_callV_i X ck_6 fo_40 (fa_xn fo_40 (by decide) hN) rfl mi_Row_placeOf (ct_Row_placeOf 40 a2 (fa_ro fo_40 hN hT) w _ rfl) wd_706 rfl (Nat.le_trans (Nat.le_of_ble_eq_true rfl) hle) (st := [.int (fa_I 97), .ref (b + 3)]) (Nat.le_of_ble_eq_true rfl) rfl d_Writer_putType_113 ?_
  refine g_iadd X d_Writer_putType_116 ?_
  refine g_bipush X (by decide) d_Writer_putType_117 ?_
  refine g_mmin X (Nat.le_trans (Nat.le_of_ble_eq_true rfl) hle) wd_710 (Nat.le_of_ble_eq_true rfl) d_Writer_putType_119 ?_
  obtain ⟨w10, e9⟩ : ∃ q, fr_add 3 (fa_min (97 + (fr_find 40 a2 w)) 122) w = q := ⟨_, rfl⟩
  have hM := fa_let_to hM e9.symm
  refine g_callV_v X ck_6 fo_3 (fa_xn fo_3 (by decide) hN) rfl mi_Row_add (ct_Row_add 3 (fa_min (97 + (fr_find 40 a2 w)) 122) (fa_ro fo_3 hN hT) w _ e9) wd_684 rfl (Nat.le_trans (Nat.le_of_ble_eq_true rfl) hle) (st := []) (Nat.le_of_ble_eq_true rfl) rfl d_Writer_putType_122 ?_
  cases hM
  exact g_vret X d_Writer_putType_125
def fm_Writer_putType (a1 : Nat) (a2 : Int) (w : fa_W) : Option fa_W :=
  (fm_Typing_isInt a1 a2 w).bind fun v2 =>
  if v2 = true then
  (fa_let (fr_add 3 105 w) fun w26 =>
  some w26)
  else
  (if fm_Typing_isArrow a1 a2 w = true then
  (fa_let (fr_add 3 40 w) fun w14 =>
  fa_let (fr_add 38 (-41) w14) fun w16 =>
  fa_let (fr_add 38 (fm_Typing_given a1 a2 w16) w16) fun w19 =>
  fa_let (fr_add 38 (-62) w19) fun w21 =>
  fa_let (fr_add 38 (fm_Typing_taken a1 a2 w21) w21) fun w24 =>
  some w24)
  else
  (if fa_wr (fr_find 40 a2 w) = (-1) then
  (fa_let (fr_add 40 a2 w) fun w12 =>
  fm_Writer_putType_j102 a1 a2 w12)
  else
  fm_Writer_putType_j102 a1 a2 w))
set_option maxHeartbeats 4000000 in
set_option maxRecDepth 100000 in
theorem c_Writer_putType {l : Launch} {D : va_G} {b : Nat} {aC : Nat → ClassId} {H0 : Heap} {N T : Nat} (hN : fa_NX ≤ N) (hT : fa_TX ≤ T) (a1 : Nat) (a2 : Int) (ha1 : (fa_sh a1).1 = 8)  (w : fa_W) (r : fa_W) (hM : fm_Writer_putType a1 a2 w = some r) : fa_MC l D b aC H0 N T y_Writer_putType prog_10_method_19_code 3 ((Option.none : Option Jvm.ClassFile.FieldType)) (3) [.ref (b + 37), .ref (b + a1), .int (fa_I a2)] w (none) r := by
  refine fa_enter (lv := [(0, .ref (b + 37)), (1, .ref (b + a1)), (2, .int (fa_I a2))]) (by decide +kernel) (Nat.le_of_ble_eq_true rfl) rfl (fun hh hle hnm X => ?_)
  unfold fm_Writer_putType at hM
  refine g_aload_n X 1 rfl d_Writer_putType_0 ?_
  refine g_iload_n X 2 rfl d_Writer_putType_1 ?_
  obtain ⟨v2, e1, hM⟩ := fa_ob hM
  refine g_callV_i X ck_8 ha1 (fa_xn ha1 (by decide) hN) rfl mi_Typing_isInt (c_Typing_isInt hN hT a1 a2 ha1 w _ e1) wd_693 rfl (Nat.le_trans (Nat.le_of_ble_eq_true rfl) hle) (st := []) (Nat.le_of_ble_eq_true rfl) rfl d_Writer_putType_2 ?_
  refine g_ifb_eq X 20 d_Writer_putType_5 (by decide) (fun hc3 => ?_) (fun hc3 => ?_)
  · have hM := fa_ifb_f hM hc3
    refine g_aload_n X 1 rfl d_Writer_putType_20 ?_
    refine g_iload_n X 2 rfl d_Writer_putType_21 ?_
    refine g_callV_i X ck_8 ha1 (fa_xn ha1 (by decide) hN) rfl mi_Typing_isArrow (c_Typing_isArrow hN hT a1 a2 ha1 w _ rfl) wd_697 rfl (Nat.le_trans (Nat.le_of_ble_eq_true rfl) hle) (st := []) (Nat.le_of_ble_eq_true rfl) rfl d_Writer_putType_22 ?_
    refine g_ifb_eq X 82 d_Writer_putType_25 (by decide) (fun hc5 => ?_) (fun hc5 => ?_)
    · have hM := fa_ifb_f hM hc5
      refine g_aload_n X 0 rfl d_Writer_putType_82 ?_
      refine g_get X ck_9 fo_37 (fa_xn fo_37 (by decide) hN) 2 (by decide) wd_201 rfl (fr_37_2 rfl hT) d_Writer_putType_83 ?_
      refine g_iload_n X 2 rfl d_Writer_putType_86 ?_
      refine g_callV_i X ck_6 fo_40 (fa_xn fo_40 (by decide) hN) rfl mi_Row_placeOf (ct_Row_placeOf 40 a2 (fa_ro fo_40 hN hT) w _ rfl) wd_706 rfl (Nat.le_trans (Nat.le_of_ble_eq_true rfl) hle) (st := []) (Nat.le_of_ble_eq_true rfl) rfl d_Writer_putType_87 ?_
      refine g_iconst X d_Writer_putType_90 ?_
      refine g_icmp_ne X 102 d_Writer_putType_91 (by decide) (fun hc7 => ?_) (fun hc7 => ?_)
      · have hM := fa_if_f hM hc7
        exact g_lv [0, 2] rfl (c_Writer_putType_j102 X hle hN hT a1 a2 ha1    _ hM)
      · have hM := fa_if_t hM hc7
        refine g_aload_n X 0 rfl d_Writer_putType_94 ?_
        refine g_get X ck_9 fo_37 (fa_xn fo_37 (by decide) hN) 2 (by decide) wd_201 rfl (fr_37_2 rfl hT) d_Writer_putType_95 ?_
        refine g_iload_n X 2 rfl d_Writer_putType_98 ?_
        obtain ⟨w12, e11⟩ : ∃ q, fr_add 40 a2 w = q := ⟨_, rfl⟩
        have hM := fa_let_to hM e11.symm
        refine g_callV_v X ck_6 fo_40 (fa_xn fo_40 (by decide) hN) rfl mi_Row_add (ct_Row_add 40 a2 (fa_ro fo_40 hN hT) w _ e11) wd_684 rfl (Nat.le_trans (Nat.le_of_ble_eq_true rfl) hle) (st := []) (Nat.le_of_ble_eq_true rfl) rfl d_Writer_putType_99 ?_
        exact g_lv [0, 2] rfl (c_Writer_putType_j102 X hle hN hT a1 a2 ha1    _ hM)
    · have hM := fa_ifb_t hM hc5
      refine g_aload_n X 0 rfl d_Writer_putType_28 ?_
      refine g_get X ck_9 fo_37 (fa_xn fo_37 (by decide) hN) 0 (by decide) wd_199 rfl (fr_37_0 rfl hT) d_Writer_putType_29 ?_
      refine g_bipush X (by decide) d_Writer_putType_32 ?_
      obtain ⟨w14, e13⟩ : ∃ q, fr_add 3 40 w = q := ⟨_, rfl⟩
      have hM := fa_let_to hM e13.symm
      refine g_callV_v X ck_6 fo_3 (fa_xn fo_3 (by decide) hN) rfl mi_Row_add (ct_Row_add 3 40 (fa_ro fo_3 hN hT) w _ e13) wd_684 rfl (Nat.le_trans (Nat.le_of_ble_eq_true rfl) hle) (st := []) (Nat.le_of_ble_eq_true rfl) rfl d_Writer_putType_34 ?_
      refine g_aload_n X 0 rfl d_Writer_putType_37 ?_
      refine g_get X ck_9 fo_37 (fa_xn fo_37 (by decide) hN) 1 (by decide) wd_200 rfl (fr_37_1 rfl hT) d_Writer_putType_38 ?_
      refine g_bipush X (by decide) d_Writer_putType_41 ?_
      obtain ⟨w16, e15⟩ : ∃ q, fr_add 38 (-41) w14 = q := ⟨_, rfl⟩
      have hM := fa_let_to hM e15.symm
      refine g_callV_v X ck_6 fo_38 (fa_xn fo_38 (by decide) hN) rfl mi_Row_add (ct_Row_add 38 (-41) (fa_ro fo_38 hN hT) w14 _ e15) wd_684 rfl (Nat.le_trans (Nat.le_of_ble_eq_true rfl) hle) (st := []) (Nat.le_of_ble_eq_true rfl) rfl d_Writer_putType_43 ?_
      refine g_aload_n X 0 rfl d_Writer_putType_46 ?_
      refine g_get X ck_9 fo_37 (fa_xn fo_37 (by decide) hN) 1 (by decide) wd_200 rfl (fr_37_1 rfl hT) d_Writer_putType_47 ?_
      refine g_aload_n X 1 rfl d_Writer_putType_50 ?_
      refine g_iload_n X 2 rfl d_Writer_putType_51 ?_
      refine g_callV_i X ck_8 ha1 (fa_xn ha1 (by decide) hN) rfl mi_Typing_given (c_Typing_given hN hT a1 a2 ha1 w16 _ rfl) wd_698 rfl (Nat.le_trans (Nat.le_of_ble_eq_true rfl) hle) (st := [.ref (b + 38)]) (Nat.le_of_ble_eq_true rfl) rfl d_Writer_putType_52 ?_
      obtain ⟨w19, e18⟩ : ∃ q, fr_add 38 (fm_Typing_given a1 a2 w16) w16 = q := ⟨_, rfl⟩
      have hM := fa_let_to hM e18.symm
      refine g_callV_v X ck_6 fo_38 (fa_xn fo_38 (by decide) hN) rfl mi_Row_add (ct_Row_add 38 (fm_Typing_given a1 a2 w16) (fa_ro fo_38 hN hT) w16 _ e18) wd_684 rfl (Nat.le_trans (Nat.le_of_ble_eq_true rfl) hle) (st := []) (Nat.le_of_ble_eq_true rfl) rfl d_Writer_putType_55 ?_
      refine g_aload_n X 0 rfl d_Writer_putType_58 ?_
      refine g_get X ck_9 fo_37 (fa_xn fo_37 (by decide) hN) 1 (by decide) wd_200 rfl (fr_37_1 rfl hT) d_Writer_putType_59 ?_
      refine g_bipush X (by decide) d_Writer_putType_62 ?_
      obtain ⟨w21, e20⟩ : ∃ q, fr_add 38 (-62) w19 = q := ⟨_, rfl⟩
      have hM := fa_let_to hM e20.symm
      refine g_callV_v X ck_6 fo_38 (fa_xn fo_38 (by decide) hN) rfl mi_Row_add (ct_Row_add 38 (-62) (fa_ro fo_38 hN hT) w19 _ e20) wd_684 rfl (Nat.le_trans (Nat.le_of_ble_eq_true rfl) hle) (st := []) (Nat.le_of_ble_eq_true rfl) rfl d_Writer_putType_64 ?_
      refine g_aload_n X 0 rfl d_Writer_putType_67 ?_
      refine g_get X ck_9 fo_37 (fa_xn fo_37 (by decide) hN) 1 (by decide) wd_200 rfl (fr_37_1 rfl hT) d_Writer_putType_68 ?_
      refine g_aload_n X 1 rfl d_Writer_putType_71 ?_
      refine g_iload_n X 2 rfl d_Writer_putType_72 ?_
      refine g_callV_i X ck_8 ha1 (fa_xn ha1 (by decide) hN) rfl mi_Typing_taken (c_Typing_taken hN hT a1 a2 ha1 w21 _ rfl) wd_702 rfl (Nat.le_trans (Nat.le_of_ble_eq_true rfl) hle) (st := [.ref (b + 38)]) (Nat.le_of_ble_eq_true rfl) rfl d_Writer_putType_73 ?_
      obtain ⟨w24, e23⟩ : ∃ q, fr_add 38 (fm_Typing_taken a1 a2 w21) w21 = q := ⟨_, rfl⟩
      have hM := fa_let_to hM e23.symm
      refine g_callV_v X ck_6 fo_38 (fa_xn fo_38 (by decide) hN) rfl mi_Row_add (ct_Row_add 38 (fm_Typing_taken a1 a2 w21) (fa_ro fo_38 hN hT) w21 _ e23) wd_684 rfl (Nat.le_trans (Nat.le_of_ble_eq_true rfl) hle) (st := []) (Nat.le_of_ble_eq_true rfl) rfl d_Writer_putType_76 ?_
      refine g_goto X 125 d_Writer_putType_79 (by decide) ?_
      cases hM
      exact g_vret X d_Writer_putType_125
  · have hM := fa_ifb_t hM hc3
    refine g_aload_n X 0 rfl d_Writer_putType_8 ?_
    refine g_get X ck_9 fo_37 (fa_xn fo_37 (by decide) hN) 0 (by decide) wd_199 rfl (fr_37_0 rfl hT) d_Writer_putType_9 ?_
    refine g_bipush X (by decide) d_Writer_putType_12 ?_
    obtain ⟨w26, e25⟩ : ∃ q, fr_add 3 105 w = q := ⟨_, rfl⟩
    have hM := fa_let_to hM e25.symm
    refine g_callV_v X ck_6 fo_3 (fa_xn fo_3 (by decide) hN) rfl mi_Row_add (ct_Row_add 3 105 (fa_ro fo_3 hN hT) w _ e25) wd_684 rfl (Nat.le_trans (Nat.le_of_ble_eq_true rfl) hle) (st := []) (Nat.le_of_ble_eq_true rfl) rfl d_Writer_putType_14 ?_
    refine g_goto X 125 d_Writer_putType_17 (by decide) ?_
    cases hM
    exact g_vret X d_Writer_putType_125
theorem d_Writer_showType_0 : decode prog_10_method_18_code 0 = .ok (.aload_n 0, 1) := by decide +kernel
theorem d_Writer_showType_1 : decode prog_10_method_18_code 1 = .ok (.getfield 30, 3) := by decide +kernel
theorem d_Writer_showType_4 : decode prog_10_method_18_code 4 = .ok (.invokevirtual 33, 3) := by decide +kernel
theorem d_Writer_showType_7 : decode prog_10_method_18_code 7 = .ok (.aload_n 0, 1) := by decide +kernel
theorem d_Writer_showType_8 : decode prog_10_method_18_code 8 = .ok (.getfield 20, 3) := by decide +kernel
theorem d_Writer_showType_11 : decode prog_10_method_18_code 11 = .ok (.invokevirtual 33, 3) := by decide +kernel
theorem d_Writer_showType_14 : decode prog_10_method_18_code 14 = .ok (.aload_n 0, 1) := by decide +kernel
theorem d_Writer_showType_15 : decode prog_10_method_18_code 15 = .ok (.getfield 16, 3) := by decide +kernel
theorem d_Writer_showType_18 : decode prog_10_method_18_code 18 = .ok (.invokevirtual 33, 3) := by decide +kernel
theorem d_Writer_showType_21 : decode prog_10_method_18_code 21 = .ok (.aload_n 0, 1) := by decide +kernel
theorem d_Writer_showType_22 : decode prog_10_method_18_code 22 = .ok (.getfield 16, 3) := by decide +kernel
theorem d_Writer_showType_25 : decode prog_10_method_18_code 25 = .ok (.iload_n 2, 1) := by decide +kernel
theorem d_Writer_showType_26 : decode prog_10_method_18_code 26 = .ok (.invokevirtual 141, 3) := by decide +kernel
theorem d_Writer_showType_29 : decode prog_10_method_18_code 29 = .ok (.iconst 0, 1) := by decide +kernel
theorem d_Writer_showType_30 : decode prog_10_method_18_code 30 = .ok (.istore_n 3, 1) := by decide +kernel
theorem d_Writer_showType_31 : decode prog_10_method_18_code 31 = .ok (.iload_n 3, 1) := by decide +kernel
theorem d_Writer_showType_32 : decode prog_10_method_18_code 32 = .ok (.ldc 144, 2) := by decide +kernel
theorem d_Writer_showType_34 : decode prog_10_method_18_code 34 = .ok (.if_icmp .ge 70, 3) := by decide +kernel
theorem d_Writer_showType_37 : decode prog_10_method_18_code 37 = .ok (.aload_n 0, 1) := by decide +kernel
theorem d_Writer_showType_38 : decode prog_10_method_18_code 38 = .ok (.getfield 16, 3) := by decide +kernel
theorem d_Writer_showType_41 : decode prog_10_method_18_code 41 = .ok (.invokevirtual 39, 3) := by decide +kernel
theorem d_Writer_showType_44 : decode prog_10_method_18_code 44 = .ok (.ifCond .le 60, 3) := by decide +kernel
theorem d_Writer_showType_47 : decode prog_10_method_18_code 47 = .ok (.aload_n 0, 1) := by decide +kernel
theorem d_Writer_showType_48 : decode prog_10_method_18_code 48 = .ok (.getfield 30, 3) := by decide +kernel
theorem d_Writer_showType_51 : decode prog_10_method_18_code 51 = .ok (.invokevirtual 39, 3) := by decide +kernel
theorem d_Writer_showType_54 : decode prog_10_method_18_code 54 = .ok (.sipush 300, 3) := by decide +kernel
theorem d_Writer_showType_57 : decode prog_10_method_18_code 57 = .ok (.if_icmp .ge 47, 3) := by decide +kernel
theorem d_Writer_showType_60 : decode prog_10_method_18_code 60 = .ok (.aload_n 0, 1) := by decide +kernel
theorem d_Writer_showType_61 : decode prog_10_method_18_code 61 = .ok (.getfield 16, 3) := by decide +kernel
theorem d_Writer_showType_64 : decode prog_10_method_18_code 64 = .ok (.invokevirtual 145, 3) := by decide +kernel
theorem d_Writer_showType_67 : decode prog_10_method_18_code 67 = .ok (.istore 4, 2) := by decide +kernel
theorem d_Writer_showType_69 : decode prog_10_method_18_code 69 = .ok (.iload 4, 2) := by decide +kernel
theorem d_Writer_showType_71 : decode prog_10_method_18_code 71 = .ok (.ifCond .ge 16, 3) := by decide +kernel
theorem d_Writer_showType_74 : decode prog_10_method_18_code 74 = .ok (.aload_n 0, 1) := by decide +kernel
theorem d_Writer_showType_75 : decode prog_10_method_18_code 75 = .ok (.getfield 30, 3) := by decide +kernel
theorem d_Writer_showType_78 : decode prog_10_method_18_code 78 = .ok (.iload 4, 2) := by decide +kernel
theorem d_Writer_showType_80 : decode prog_10_method_18_code 80 = .ok (.ineg, 1) := by decide +kernel
theorem d_Writer_showType_81 : decode prog_10_method_18_code 81 = .ok (.invokevirtual 141, 3) := by decide +kernel
theorem d_Writer_showType_84 : decode prog_10_method_18_code 84 = .ok (.goto 14, 3) := by decide +kernel
theorem d_Writer_showType_87 : decode prog_10_method_18_code 87 = .ok (.aload_n 0, 1) := by decide +kernel
theorem d_Writer_showType_88 : decode prog_10_method_18_code 88 = .ok (.aload_n 1, 1) := by decide +kernel
theorem d_Writer_showType_89 : decode prog_10_method_18_code 89 = .ok (.aload_n 1, 1) := by decide +kernel
theorem d_Writer_showType_90 : decode prog_10_method_18_code 90 = .ok (.iload 4, 2) := by decide +kernel
theorem d_Writer_showType_92 : decode prog_10_method_18_code 92 = .ok (.invokevirtual 226, 3) := by decide +kernel
theorem d_Writer_showType_95 : decode prog_10_method_18_code 95 = .ok (.invokevirtual 231, 3) := by decide +kernel
theorem d_Writer_showType_98 : decode prog_10_method_18_code 98 = .ok (.iinc 3 1, 3) := by decide +kernel
theorem d_Writer_showType_101 : decode prog_10_method_18_code 101 = .ok (.goto (-70), 3) := by decide +kernel
theorem d_Writer_showType_104 : decode prog_10_method_18_code 104 = .ok (.aload_n 0, 1) := by decide +kernel
theorem d_Writer_showType_105 : decode prog_10_method_18_code 105 = .ok (.getfield 30, 3) := by decide +kernel
theorem d_Writer_showType_108 : decode prog_10_method_18_code 108 = .ok (.invokevirtual 39, 3) := by decide +kernel
theorem d_Writer_showType_111 : decode prog_10_method_18_code 111 = .ok (.ireturn, 1) := by decide +kernel
def fm_Writer_showType_j104 (a1 : Nat) (a2 : Int) (w : fa_W) : Option (Int × fa_W) :=
  some (fm_Row_size 3 w, w)
set_option maxHeartbeats 4000000 in
set_option maxRecDepth 100000 in
theorem c_Writer_showType_j104 {p : Program} {l : Launch} {e : Env} {s : State} {m : MethodId} {args : Array Value} {below : List Frame} {meth : Method} {c : Code} {hh : Nat} {D : va_G} {b : Nat} {aC : Nat → ClassId} {H0 : Heap} {N T : Nat} (X : fa_GX p s m args meth c prog_10_method_18_code 5 ((Option.some Jvm.ClassFile.FieldType.int)) y_Writer_showType.cls D b aC) (hle : 4 ≤ hh) (hN : fa_NX ≤ N) (hT : fa_TX ≤ T) (a1 : Nat) (a2 : Int) (ha1 : (fa_sh a1).1 = 8) {r : Int × fa_W}  : ∀ (w : fa_W) (_ : fm_Writer_showType_j104 a1 a2 w = some r), fa_GJ p l e (fa_rm hh) s m args below meth c 0 0 (MQ below (fa_Qc D b aC H0 N T (some (.int (fa_I r.1))) r.2) args s 0 0 (fun q => b ≤ q)) D b aC H0 N T 5 w 104 [(0, .ref (b + 37))] [] := by
  intro w hM
  unfold fm_Writer_showType_j104 at hM
  refine g_aload_n X 0 rfl d_Writer_showType_104 ?_
  refine g_get X ck_9 fo_37 (fa_xn fo_37 (by decide) hN) 0 (by decide) wd_199 rfl (fr_37_0 rfl hT) d_Writer_showType_105 ?_
  refine g_callV_i X ck_6 fo_3 (fa_xn fo_3 (by decide) hN) rfl mi_Row_size (c_Row_size 3 (fa_ro fo_3 hN hT) w _ rfl) wd_686 rfl (Nat.le_trans (Nat.le_of_ble_eq_true rfl) hle) (st := []) (Nat.le_of_ble_eq_true rfl) rfl d_Writer_showType_108 ?_
  cases hM
  exact g_iret X d_Writer_showType_111
def fm_Writer_showType_l31 (a1 : Nat) (a2 : Int) : Nat → Int → fa_W → Option (Int × fa_W)
  | 0, _, _ => none
  | n + 1, x3, w => if 1000000 ≤ fa_wr x3 then
  fm_Writer_showType_j104 a1 a2 w
  else
  (if fa_wr (fm_Row_size 38 w) ≤ 0 then
  fm_Writer_showType_j104 a1 a2 w
  else
  (if 300 ≤ fa_wr (fm_Row_size 3 w) then
  fm_Writer_showType_j104 a1 a2 w
  else
  (fa_l2 (fr_drop 38 w) fun v16 w17 =>
  if 0 ≤ fa_wr v16 then
  ((fm_Typing_root a1 v16 w17).bind fun v20 =>
  (fm_Writer_putType a1 v20 w17).bind fun w22 =>
  fa_let (x3 + 1) fun x3_23 =>
  fm_Writer_showType_l31 a1 a2 n x3_23 w22)
  else
  (fa_let (fr_add 3 (-v16) w17) fun w25 =>
  fa_let (x3 + 1) fun x3_26 =>
  fm_Writer_showType_l31 a1 a2 n x3_26 w25))))
set_option maxHeartbeats 4000000 in
set_option maxRecDepth 100000 in
theorem c_Writer_showType_l31 {p : Program} {l : Launch} {e : Env} {s : State} {m : MethodId} {args : Array Value} {below : List Frame} {meth : Method} {c : Code} {hh : Nat} {D : va_G} {b : Nat} {aC : Nat → ClassId} {H0 : Heap} {N T : Nat} (X : fa_GX p s m args meth c prog_10_method_18_code 5 ((Option.some Jvm.ClassFile.FieldType.int)) y_Writer_showType.cls D b aC) (hle : 4 ≤ hh) (hN : fa_NX ≤ N) (hT : fa_TX ≤ T) (a1 : Nat) (a2 : Int) (ha1 : (fa_sh a1).1 = 8) {r : Int × fa_W}  : ∀ (n : Nat) (x3 : Int) (w : fa_W), fm_Writer_showType_l31 a1 a2 n x3 w = some r → fa_GJ p l e (fa_rm hh) s m args below meth c 0 0 (MQ below (fa_Qc D b aC H0 N T (some (.int (fa_I r.1))) r.2) args s 0 0 (fun q => b ≤ q)) D b aC H0 N T 5 w 31 [(0, .ref (b + 37)), (1, .ref (b + a1)), (3, .int (fa_I x3))] [] := by
  intro n
  induction n with
  | zero => intro x3 w hM; exact fa_no hM
  | succ n ih =>
    intro x3 w hM
    rw [fm_Writer_showType_l31] at hM
    refine g_iload_n X 2 rfl d_Writer_showType_31 ?_
    refine g_ldc X (n := 1000000) wd_685 (by decide) d_Writer_showType_32 ?_
    refine g_icmp_ge X 104 d_Writer_showType_34 (by decide) (fun hc9 => ?_) (fun hc9 => ?_)
    · have hM := fa_if_t hM hc9
      exact g_lv [0] rfl (c_Writer_showType_j104 X hle hN hT a1 a2 ha1    _ hM)
    · have hM := fa_if_f hM hc9
      refine g_aload_n X 0 rfl d_Writer_showType_37 ?_
      refine g_get X ck_9 fo_37 (fa_xn fo_37 (by decide) hN) 1 (by decide) wd_200 rfl (fr_37_1 rfl hT) d_Writer_showType_38 ?_
      refine g_callV_i X ck_6 fo_38 (fa_xn fo_38 (by decide) hN) rfl mi_Row_size (c_Row_size 38 (fa_ro fo_38 hN hT) w _ rfl) wd_686 rfl (Nat.le_trans (Nat.le_of_ble_eq_true rfl) hle) (st := []) (Nat.le_of_ble_eq_true rfl) rfl d_Writer_showType_41 ?_
      refine g_if_le X 104 d_Writer_showType_44 (by decide) (fun hc12 => ?_) (fun hc12 => ?_)
      · have hM := fa_if_t hM hc12
        exact g_lv [0] rfl (c_Writer_showType_j104 X hle hN hT a1 a2 ha1    _ hM)
      · have hM := fa_if_f hM hc12
        refine g_aload_n X 0 rfl d_Writer_showType_47 ?_
        refine g_get X ck_9 fo_37 (fa_xn fo_37 (by decide) hN) 0 (by decide) wd_199 rfl (fr_37_0 rfl hT) d_Writer_showType_48 ?_
        refine g_callV_i X ck_6 fo_3 (fa_xn fo_3 (by decide) hN) rfl mi_Row_size (c_Row_size 3 (fa_ro fo_3 hN hT) w _ rfl) wd_686 rfl (Nat.le_trans (Nat.le_of_ble_eq_true rfl) hle) (st := []) (Nat.le_of_ble_eq_true rfl) rfl d_Writer_showType_51 ?_
        refine g_sipush X (by decide) d_Writer_showType_54 ?_
        refine g_icmp_ge X 104 d_Writer_showType_57 (by decide) (fun hc14 => ?_) (fun hc14 => ?_)
        · have hM := fa_if_t hM hc14
          exact g_lv [0] rfl (c_Writer_showType_j104 X hle hN hT a1 a2 ha1    _ hM)
        · have hM := fa_if_f hM hc14
          refine g_aload_n X 0 rfl d_Writer_showType_60 ?_
          refine g_get X ck_9 fo_37 (fa_xn fo_37 (by decide) hN) 1 (by decide) wd_200 rfl (fr_37_1 rfl hT) d_Writer_showType_61 ?_
          obtain ⟨⟨v16, w17⟩, e15⟩ : ∃ q, fr_drop 38 w = q := ⟨_, rfl⟩
          have hM := fa_l2_e hM e15
          refine g_callV_i X ck_6 fo_38 (fa_xn fo_38 (by decide) hN) rfl mi_Row_drop (ct_Row_drop 38 (fa_ro fo_38 hN hT) w _ e15) wd_687 rfl (Nat.le_trans (Nat.le_of_ble_eq_true rfl) hle) (st := []) (Nat.le_of_ble_eq_true rfl) rfl d_Writer_showType_64 ?_
          refine g_istorec X [(4, .int (fa_I v16)), (0, .ref (b + 37)), (1, .ref (b + a1)), (3, .int (fa_I x3))] d_Writer_showType_67 (by decide) rfl ?_
          refine g_iload X 0 rfl d_Writer_showType_69 ?_
          refine g_if_ge X 87 d_Writer_showType_71 (by decide) (fun hc18 => ?_) (fun hc18 => ?_)
          · have hM := fa_if_t hM hc18
            refine g_aload_n X 1 rfl d_Writer_showType_87 ?_
            refine g_aload_n X 2 rfl d_Writer_showType_88 ?_
            refine g_aload_n X 2 rfl d_Writer_showType_89 ?_
            refine g_iload X 0 rfl d_Writer_showType_90 ?_
            obtain ⟨v20, e19, hM⟩ := fa_ob hM
            refine g_callV_i X ck_8 ha1 (fa_xn ha1 (by decide) hN) rfl mi_Typing_root (c_Typing_root hN hT a1 v16 ha1 w17 _ e19) wd_688 rfl (Nat.le_trans (Nat.le_of_ble_eq_true rfl) hle) (st := [.ref (b + a1), .ref (b + 37)]) (Nat.le_of_ble_eq_true rfl) rfl d_Writer_showType_92 ?_
            obtain ⟨w22, e21, hM⟩ := fa_ob hM
            refine g_callV_v X ck_9 fo_37 (fa_xn fo_37 (by decide) hN) rfl mi_Writer_putType (c_Writer_putType hN hT a1 v20 ha1 w17 _ e21) wd_689 rfl (Nat.le_trans (Nat.le_of_ble_eq_true rfl) hle) (st := []) (Nat.le_of_ble_eq_true rfl) rfl d_Writer_showType_95 ?_
            refine g_iinc X 3 (fun x3_23 => [(3, .int (fa_I x3_23)), (4, .int (fa_I v16)), (0, .ref (b + 37)), (1, .ref (b + a1))]) d_Writer_showType_98 rfl (by decide) (fun _ => rfl) (fun x3_23 ex3_23 => ?_)
            have hM := fa_let_to hM ex3_23
            refine g_goto X 31 d_Writer_showType_101 (by decide) ?_
            exact g_lv [2, 3, 0] rfl (ih _ _ hM)
          · have hM := fa_if_f hM hc18
            refine g_aload_n X 1 rfl d_Writer_showType_74 ?_
            refine g_get X ck_9 fo_37 (fa_xn fo_37 (by decide) hN) 0 (by decide) wd_199 rfl (fr_37_0 rfl hT) d_Writer_showType_75 ?_
            refine g_iload X 0 rfl d_Writer_showType_78 ?_
            refine g_ineg X d_Writer_showType_80 ?_
            obtain ⟨w25, e24⟩ : ∃ q, fr_add 3 (-v16) w17 = q := ⟨_, rfl⟩
            have hM := fa_let_to hM e24.symm
            refine g_callV_v X ck_6 fo_3 (fa_xn fo_3 (by decide) hN) rfl mi_Row_add (ct_Row_add 3 (-v16) (fa_ro fo_3 hN hT) w17 _ e24) wd_684 rfl (Nat.le_trans (Nat.le_of_ble_eq_true rfl) hle) (st := []) (Nat.le_of_ble_eq_true rfl) rfl d_Writer_showType_81 ?_
            refine g_goto X 98 d_Writer_showType_84 (by decide) ?_
            refine g_iinc X 3 (fun x3_26 => [(3, .int (fa_I x3_26)), (4, .int (fa_I v16)), (0, .ref (b + 37)), (1, .ref (b + a1))]) d_Writer_showType_98 rfl (by decide) (fun _ => rfl) (fun x3_26 ex3_26 => ?_)
            have hM := fa_let_to hM ex3_26
            refine g_goto X 31 d_Writer_showType_101 (by decide) ?_
            exact g_lv [2, 3, 0] rfl (ih _ _ hM)
def fm_Writer_showType (a1 : Nat) (a2 : Int) (w : fa_W) : Option (Int × fa_W) :=
  fa_let (fm_Row_clear 3 w) fun w2 =>
  fa_let (fm_Row_clear 40 w2) fun w4 =>
  fa_let (fm_Row_clear 38 w4) fun w6 =>
  fa_let (fr_add 38 a2 w6) fun w8 =>
  fm_Writer_showType_l31 a1 a2 fa_FU 0 w8
set_option maxHeartbeats 4000000 in
set_option maxRecDepth 100000 in
theorem c_Writer_showType {l : Launch} {D : va_G} {b : Nat} {aC : Nat → ClassId} {H0 : Heap} {N T : Nat} (hN : fa_NX ≤ N) (hT : fa_TX ≤ T) (a1 : Nat) (a2 : Int) (ha1 : (fa_sh a1).1 = 8)  (w : fa_W) (r : Int × fa_W) (hM : fm_Writer_showType a1 a2 w = some r) : fa_MC l D b aC H0 N T y_Writer_showType prog_10_method_18_code 5 ((Option.some Jvm.ClassFile.FieldType.int)) (4) [.ref (b + 37), .ref (b + a1), .int (fa_I a2)] w (some (.int (fa_I r.1))) r.2 := by
  refine fa_enter (lv := [(0, .ref (b + 37)), (1, .ref (b + a1)), (2, .int (fa_I a2))]) (by decide +kernel) (Nat.le_of_ble_eq_true rfl) rfl (fun hh hle hnm X => ?_)
  unfold fm_Writer_showType at hM
  refine g_aload_n X 0 rfl d_Writer_showType_0 ?_
  refine g_get X ck_9 fo_37 (fa_xn fo_37 (by decide) hN) 0 (by decide) wd_199 rfl (fr_37_0 rfl hT) d_Writer_showType_1 ?_
  obtain ⟨w2, e1⟩ : ∃ q, fm_Row_clear 3 w = q := ⟨_, rfl⟩
  have hM := fa_let_to hM e1.symm
  refine g_callV_v X ck_6 fo_3 (fa_xn fo_3 (by decide) hN) rfl mi_Row_clear (c_Row_clear 3 (fa_ro fo_3 hN hT) w _ e1) wd_683 rfl (Nat.le_trans (Nat.le_of_ble_eq_true rfl) hle) (st := []) (Nat.le_of_ble_eq_true rfl) rfl d_Writer_showType_4 ?_
  refine g_aload_n X 0 rfl d_Writer_showType_7 ?_
  refine g_get X ck_9 fo_37 (fa_xn fo_37 (by decide) hN) 2 (by decide) wd_201 rfl (fr_37_2 rfl hT) d_Writer_showType_8 ?_
  obtain ⟨w4, e3⟩ : ∃ q, fm_Row_clear 40 w2 = q := ⟨_, rfl⟩
  have hM := fa_let_to hM e3.symm
  refine g_callV_v X ck_6 fo_40 (fa_xn fo_40 (by decide) hN) rfl mi_Row_clear (c_Row_clear 40 (fa_ro fo_40 hN hT) w2 _ e3) wd_683 rfl (Nat.le_trans (Nat.le_of_ble_eq_true rfl) hle) (st := []) (Nat.le_of_ble_eq_true rfl) rfl d_Writer_showType_11 ?_
  refine g_aload_n X 0 rfl d_Writer_showType_14 ?_
  refine g_get X ck_9 fo_37 (fa_xn fo_37 (by decide) hN) 1 (by decide) wd_200 rfl (fr_37_1 rfl hT) d_Writer_showType_15 ?_
  obtain ⟨w6, e5⟩ : ∃ q, fm_Row_clear 38 w4 = q := ⟨_, rfl⟩
  have hM := fa_let_to hM e5.symm
  refine g_callV_v X ck_6 fo_38 (fa_xn fo_38 (by decide) hN) rfl mi_Row_clear (c_Row_clear 38 (fa_ro fo_38 hN hT) w4 _ e5) wd_683 rfl (Nat.le_trans (Nat.le_of_ble_eq_true rfl) hle) (st := []) (Nat.le_of_ble_eq_true rfl) rfl d_Writer_showType_18 ?_
  refine g_aload_n X 0 rfl d_Writer_showType_21 ?_
  refine g_get X ck_9 fo_37 (fa_xn fo_37 (by decide) hN) 1 (by decide) wd_200 rfl (fr_37_1 rfl hT) d_Writer_showType_22 ?_
  refine g_iload_n X 2 rfl d_Writer_showType_25 ?_
  obtain ⟨w8, e7⟩ : ∃ q, fr_add 38 a2 w6 = q := ⟨_, rfl⟩
  have hM := fa_let_to hM e7.symm
  refine g_callV_v X ck_6 fo_38 (fa_xn fo_38 (by decide) hN) rfl mi_Row_add (ct_Row_add 38 a2 (fa_ro fo_38 hN hT) w6 _ e7) wd_684 rfl (Nat.le_trans (Nat.le_of_ble_eq_true rfl) hle) (st := []) (Nat.le_of_ble_eq_true rfl) rfl d_Writer_showType_26 ?_
  refine g_iconst X d_Writer_showType_29 ?_
  refine g_istorec_n X [(3, .int (fa_I 0)), (0, .ref (b + 37)), (1, .ref (b + a1)), (2, .int (fa_I a2))] d_Writer_showType_30 (by decide) rfl ?_
  exact g_lv [1, 2, 0] rfl (c_Writer_showType_l31 X hle hN hT a1 a2 ha1   fa_FU _ _ hM)
