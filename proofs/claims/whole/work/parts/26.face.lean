theorem d_Face_feedNumber_0 : decode prog_1_method_3_code 0 = .ok (.bipush 24, 2) := by decide +kernel
theorem d_Face_feedNumber_2 : decode prog_1_method_3_code 2 = .ok (.istore_n 2, 1) := by decide +kernel
theorem d_Face_feedNumber_3 : decode prog_1_method_3_code 3 = .ok (.iload_n 2, 1) := by decide +kernel
theorem d_Face_feedNumber_4 : decode prog_1_method_3_code 4 = .ok (.ifCond .lt 23, 3) := by decide +kernel
theorem d_Face_feedNumber_7 : decode prog_1_method_3_code 7 = .ok (.aload_n 0, 1) := by decide +kernel
theorem d_Face_feedNumber_8 : decode prog_1_method_3_code 8 = .ok (.getfield 14, 3) := by decide +kernel
theorem d_Face_feedNumber_11 : decode prog_1_method_3_code 11 = .ok (.iload_n 1, 1) := by decide +kernel
theorem d_Face_feedNumber_12 : decode prog_1_method_3_code 12 = .ok (.iload_n 2, 1) := by decide +kernel
theorem d_Face_feedNumber_13 : decode prog_1_method_3_code 13 = .ok (.iushr, 1) := by decide +kernel
theorem d_Face_feedNumber_14 : decode prog_1_method_3_code 14 = .ok (.sipush 255, 3) := by decide +kernel
theorem d_Face_feedNumber_17 : decode prog_1_method_3_code 17 = .ok (.iand, 1) := by decide +kernel
theorem d_Face_feedNumber_18 : decode prog_1_method_3_code 18 = .ok (.invokevirtual 81, 3) := by decide +kernel
theorem d_Face_feedNumber_21 : decode prog_1_method_3_code 21 = .ok (.iinc 2 (-8), 3) := by decide +kernel
theorem d_Face_feedNumber_24 : decode prog_1_method_3_code 24 = .ok (.goto (-21), 3) := by decide +kernel
theorem d_Face_feedNumber_27 : decode prog_1_method_3_code 27 = .ok (.return_, 1) := by decide +kernel
def fm_Face_feedNumber_l3 (a1 : Int) : Nat → Int → fa_W → Option fa_W
  | 0, _, _ => none
  | n + 1, x2, w => if fa_wr x2 < 0 then
  some w
  else
  (fa_let (fr_add 1 (fa_iand (fa_iushr a1 x2) 255) w) fun w3 =>
  fa_let (x2 + (-8)) fun x2_4 =>
  fm_Face_feedNumber_l3 a1 n x2_4 w3)
set_option maxHeartbeats 4000000 in
set_option maxRecDepth 100000 in
theorem c_Face_feedNumber_l3 {p : Program} {l : Launch} {e : Env} {s : State} {m : MethodId} {args : Array Value} {below : List Frame} {meth : Method} {c : Code} {hh : Nat} {D : va_G} {b : Nat} {aC : Nat → ClassId} {H0 : Heap} {N T : Nat} (X : fa_GX p s m args meth c prog_1_method_3_code 3 ((Option.none : Option Jvm.ClassFile.FieldType)) y_Face_feedNumber.cls D b aC) (hle : 1 ≤ hh) (hN : fa_NX ≤ N) (hT : fa_TX ≤ T) (a1 : Int) {r : fa_W}  : ∀ (n : Nat) (x2 : Int) (w : fa_W), fm_Face_feedNumber_l3 a1 n x2 w = some r → fa_GJ p l e (fa_rm hh) s m args below meth c 0 0 (MQ below (fa_Qc D b aC H0 N T (none) r) args s 0 0 (fun q => b ≤ q)) D b aC H0 N T 3 w 3 [(0, .ref (b + 0)), (1, .int (fa_I a1)), (2, .int (fa_I x2))] [] := by
  intro n
  induction n with
  | zero => intro x2 w hM; exact fa_no hM
  | succ n ih =>
    intro x2 w hM
    rw [fm_Face_feedNumber_l3] at hM
    refine g_iload_n X 2 rfl d_Face_feedNumber_3 ?_
    refine g_if_lt X 27 d_Face_feedNumber_4 (by decide) (fun hc1 => ?_) (fun hc1 => ?_)
    · have hM := fa_if_t hM hc1
      cases hM
      exact g_vret X d_Face_feedNumber_27
    · have hM := fa_if_f hM hc1
      refine g_aload_n X 0 rfl d_Face_feedNumber_7 ?_
      refine g_get X ck_0 fo_0 (fa_xn fo_0 (by decide) hN) 0 (by decide) wd_627 rfl (fr_0_0 rfl hT) d_Face_feedNumber_8 ?_
      refine g_iload_n X 1 rfl d_Face_feedNumber_11 ?_
      refine g_iload_n X 2 rfl d_Face_feedNumber_12 ?_
      refine g_iushr X d_Face_feedNumber_13 ?_
      refine g_sipush X (by decide) d_Face_feedNumber_14 ?_
      refine g_iand X d_Face_feedNumber_17 ?_
      obtain ⟨w3, e2⟩ : ∃ q, fr_add 1 (fa_iand (fa_iushr a1 x2) 255) w = q := ⟨_, rfl⟩
      have hM := fa_let_to hM e2.symm
      refine g_callV_v X ck_6 fo_1 (fa_xn fo_1 (by decide) hN) rfl mi_Row_add (ct_Row_add 1 (fa_iand (fa_iushr a1 x2) 255) (fa_ro fo_1 hN hT) w _ e2) wd_664 rfl (Nat.le_trans (Nat.le_of_ble_eq_true rfl) hle) (st := []) (Nat.le_of_ble_eq_true rfl) rfl d_Face_feedNumber_18 ?_
      refine g_iinc X 2 (fun x2_4 => [(2, .int (fa_I x2_4)), (0, .ref (b + 0)), (1, .int (fa_I a1))]) d_Face_feedNumber_21 rfl (by decide) (fun _ => rfl) (fun x2_4 ex2_4 => ?_)
      have hM := fa_let_to hM ex2_4
      refine g_goto X 3 d_Face_feedNumber_24 (by decide) ?_
      exact g_lv [1, 2, 0] rfl (ih _ _ hM)
def fm_Face_feedNumber (a1 : Int) (w : fa_W) : Option fa_W :=
  fm_Face_feedNumber_l3 a1 fa_FU 24 w
set_option maxHeartbeats 4000000 in
set_option maxRecDepth 100000 in
theorem c_Face_feedNumber {l : Launch} {D : va_G} {b : Nat} {aC : Nat → ClassId} {H0 : Heap} {N T : Nat} (hN : fa_NX ≤ N) (hT : fa_TX ≤ T) (a1 : Int)  (w : fa_W) (r : fa_W) (hM : fm_Face_feedNumber a1 w = some r) : fa_MC l D b aC H0 N T y_Face_feedNumber prog_1_method_3_code 3 ((Option.none : Option Jvm.ClassFile.FieldType)) (1) [.ref (b + 0), .int (fa_I a1)] w (none) r := by
  refine fa_enter (lv := [(0, .ref (b + 0)), (1, .int (fa_I a1))]) (by decide +kernel) (Nat.le_of_ble_eq_true rfl) rfl (fun hh hle hnm X => ?_)
  unfold fm_Face_feedNumber at hM
  refine g_bipush X (by decide) d_Face_feedNumber_0 ?_
  refine g_istorec_n X [(2, .int (fa_I 24)), (0, .ref (b + 0)), (1, .int (fa_I a1))] d_Face_feedNumber_2 (by decide) rfl ?_
  exact g_lv [1, 2, 0] rfl (c_Face_feedNumber_l3 X hle hN hT a1   fa_FU _ _ hM)
theorem d_Face_feed_0 : decode prog_1_method_2_code 0 = .ok (.aload_n 0, 1) := by decide +kernel
theorem d_Face_feed_1 : decode prog_1_method_2_code 1 = .ok (.getfield 14, 3) := by decide +kernel
theorem d_Face_feed_4 : decode prog_1_method_2_code 4 = .ok (.invokevirtual 74, 3) := by decide +kernel
theorem d_Face_feed_7 : decode prog_1_method_2_code 7 = .ok (.bipush 20, 2) := by decide +kernel
theorem d_Face_feed_9 : decode prog_1_method_2_code 9 = .ok (.iadd, 1) := by decide +kernel
theorem d_Face_feed_10 : decode prog_1_method_2_code 10 = .ok (.sipush 400, 3) := by decide +kernel
theorem d_Face_feed_13 : decode prog_1_method_2_code 13 = .ok (.if_icmp .le 5, 3) := by decide +kernel
theorem d_Face_feed_16 : decode prog_1_method_2_code 16 = .ok (.iconst (-1), 1) := by decide +kernel
theorem d_Face_feed_17 : decode prog_1_method_2_code 17 = .ok (.ireturn, 1) := by decide +kernel
theorem d_Face_feed_18 : decode prog_1_method_2_code 18 = .ok (.aload_n 0, 1) := by decide +kernel
theorem d_Face_feed_19 : decode prog_1_method_2_code 19 = .ok (.iload_n 1, 1) := by decide +kernel
theorem d_Face_feed_20 : decode prog_1_method_2_code 20 = .ok (.invokevirtual 78, 3) := by decide +kernel
theorem d_Face_feed_23 : decode prog_1_method_2_code 23 = .ok (.aload_n 0, 1) := by decide +kernel
theorem d_Face_feed_24 : decode prog_1_method_2_code 24 = .ok (.iload_n 2, 1) := by decide +kernel
theorem d_Face_feed_25 : decode prog_1_method_2_code 25 = .ok (.invokevirtual 78, 3) := by decide +kernel
theorem d_Face_feed_28 : decode prog_1_method_2_code 28 = .ok (.aload_n 0, 1) := by decide +kernel
theorem d_Face_feed_29 : decode prog_1_method_2_code 29 = .ok (.iload_n 3, 1) := by decide +kernel
theorem d_Face_feed_30 : decode prog_1_method_2_code 30 = .ok (.invokevirtual 78, 3) := by decide +kernel
theorem d_Face_feed_33 : decode prog_1_method_2_code 33 = .ok (.aload_n 0, 1) := by decide +kernel
theorem d_Face_feed_34 : decode prog_1_method_2_code 34 = .ok (.iload 4, 2) := by decide +kernel
theorem d_Face_feed_36 : decode prog_1_method_2_code 36 = .ok (.invokevirtual 78, 3) := by decide +kernel
theorem d_Face_feed_39 : decode prog_1_method_2_code 39 = .ok (.aload_n 0, 1) := by decide +kernel
theorem d_Face_feed_40 : decode prog_1_method_2_code 40 = .ok (.iload 5, 2) := by decide +kernel
theorem d_Face_feed_42 : decode prog_1_method_2_code 42 = .ok (.invokevirtual 78, 3) := by decide +kernel
theorem d_Face_feed_45 : decode prog_1_method_2_code 45 = .ok (.aload_n 0, 1) := by decide +kernel
theorem d_Face_feed_46 : decode prog_1_method_2_code 46 = .ok (.getfield 14, 3) := by decide +kernel
theorem d_Face_feed_49 : decode prog_1_method_2_code 49 = .ok (.invokevirtual 74, 3) := by decide +kernel
theorem d_Face_feed_52 : decode prog_1_method_2_code 52 = .ok (.ireturn, 1) := by decide +kernel
def fm_Face_feed (a1 : Int) (a2 : Int) (a3 : Int) (a4 : Int) (a5 : Int) (w : fa_W) : Option (Int × fa_W) :=
  if fa_wr ((fm_Row_size 1 w) + 20) ≤ 400 then
  ((fm_Face_feedNumber a1 w).bind fun w4 =>
  (fm_Face_feedNumber a2 w4).bind fun w6 =>
  (fm_Face_feedNumber a3 w6).bind fun w8 =>
  (fm_Face_feedNumber a4 w8).bind fun w10 =>
  (fm_Face_feedNumber a5 w10).bind fun w12 =>
  some (fm_Row_size 1 w12, w12))
  else
  some ((-1), w)
set_option maxHeartbeats 4000000 in
set_option maxRecDepth 100000 in
theorem c_Face_feed {l : Launch} {D : va_G} {b : Nat} {aC : Nat → ClassId} {H0 : Heap} {N T : Nat} (hN : fa_NX ≤ N) (hT : fa_TX ≤ T) (a1 : Int) (a2 : Int) (a3 : Int) (a4 : Int) (a5 : Int)  (w : fa_W) (r : Int × fa_W) (hM : fm_Face_feed a1 a2 a3 a4 a5 w = some r) : fa_MC l D b aC H0 N T y_Face_feed prog_1_method_2_code 6 ((Option.some Jvm.ClassFile.FieldType.int)) (2) [.ref (b + 0), .int (fa_I a1), .int (fa_I a2), .int (fa_I a3), .int (fa_I a4), .int (fa_I a5)] w (some (.int (fa_I r.1))) r.2 := by
  refine fa_enter (lv := [(0, .ref (b + 0)), (1, .int (fa_I a1)), (2, .int (fa_I a2)), (3, .int (fa_I a3)), (4, .int (fa_I a4)), (5, .int (fa_I a5))]) (by decide +kernel) (Nat.le_of_ble_eq_true rfl) rfl (fun hh hle hnm X => ?_)
  unfold fm_Face_feed at hM
  refine g_aload_n X 0 rfl d_Face_feed_0 ?_
  refine g_get X ck_0 fo_0 (fa_xn fo_0 (by decide) hN) 0 (by decide) wd_627 rfl (fr_0_0 rfl hT) d_Face_feed_1 ?_
  refine g_callV_i X ck_6 fo_1 (fa_xn fo_1 (by decide) hN) rfl mi_Row_size (c_Row_size 1 (fa_ro fo_1 hN hT) w _ rfl) wd_659 rfl (Nat.le_trans (Nat.le_of_ble_eq_true rfl) hle) (st := []) (Nat.le_of_ble_eq_true rfl) rfl d_Face_feed_4 ?_
  refine g_bipush X (by decide) d_Face_feed_7 ?_
  refine g_iadd X d_Face_feed_9 ?_
  refine g_sipush X (by decide) d_Face_feed_10 ?_
  refine g_icmp_le X 18 d_Face_feed_13 (by decide) (fun hc2 => ?_) (fun hc2 => ?_)
  · have hM := fa_if_t hM hc2
    refine g_aload_n X 0 rfl d_Face_feed_18 ?_
    refine g_iload_n X 1 rfl d_Face_feed_19 ?_
    obtain ⟨w4, e3, hM⟩ := fa_ob hM
    refine g_callV_v X ck_0 fo_0 (fa_xn fo_0 (by decide) hN) rfl mi_Face_feedNumber (c_Face_feedNumber hN hT a1 w _ e3) wd_660 rfl (Nat.le_trans (Nat.le_of_ble_eq_true rfl) hle) (st := []) (Nat.le_of_ble_eq_true rfl) rfl d_Face_feed_20 ?_
    refine g_aload_n X 0 rfl d_Face_feed_23 ?_
    refine g_iload_n X 2 rfl d_Face_feed_24 ?_
    obtain ⟨w6, e5, hM⟩ := fa_ob hM
    refine g_callV_v X ck_0 fo_0 (fa_xn fo_0 (by decide) hN) rfl mi_Face_feedNumber (c_Face_feedNumber hN hT a2 w4 _ e5) wd_660 rfl (Nat.le_trans (Nat.le_of_ble_eq_true rfl) hle) (st := []) (Nat.le_of_ble_eq_true rfl) rfl d_Face_feed_25 ?_
    refine g_aload_n X 0 rfl d_Face_feed_28 ?_
    refine g_iload_n X 3 rfl d_Face_feed_29 ?_
    obtain ⟨w8, e7, hM⟩ := fa_ob hM
    refine g_callV_v X ck_0 fo_0 (fa_xn fo_0 (by decide) hN) rfl mi_Face_feedNumber (c_Face_feedNumber hN hT a3 w6 _ e7) wd_660 rfl (Nat.le_trans (Nat.le_of_ble_eq_true rfl) hle) (st := []) (Nat.le_of_ble_eq_true rfl) rfl d_Face_feed_30 ?_
    refine g_aload_n X 0 rfl d_Face_feed_33 ?_
    refine g_iload X 4 rfl d_Face_feed_34 ?_
    obtain ⟨w10, e9, hM⟩ := fa_ob hM
    refine g_callV_v X ck_0 fo_0 (fa_xn fo_0 (by decide) hN) rfl mi_Face_feedNumber (c_Face_feedNumber hN hT a4 w8 _ e9) wd_660 rfl (Nat.le_trans (Nat.le_of_ble_eq_true rfl) hle) (st := []) (Nat.le_of_ble_eq_true rfl) rfl d_Face_feed_36 ?_
    refine g_aload_n X 0 rfl d_Face_feed_39 ?_
    refine g_iload X 5 rfl d_Face_feed_40 ?_
    obtain ⟨w12, e11, hM⟩ := fa_ob hM
    refine g_callV_v X ck_0 fo_0 (fa_xn fo_0 (by decide) hN) rfl mi_Face_feedNumber (c_Face_feedNumber hN hT a5 w10 _ e11) wd_660 rfl (Nat.le_trans (Nat.le_of_ble_eq_true rfl) hle) (st := []) (Nat.le_of_ble_eq_true rfl) rfl d_Face_feed_42 ?_
    refine g_aload_n X 0 rfl d_Face_feed_45 ?_
    refine g_get X ck_0 fo_0 (fa_xn fo_0 (by decide) hN) 0 (by decide) wd_627 rfl (fr_0_0 rfl hT) d_Face_feed_46 ?_
    refine g_callV_i X ck_6 fo_1 (fa_xn fo_1 (by decide) hN) rfl mi_Row_size (c_Row_size 1 (fa_ro fo_1 hN hT) w12 _ rfl) wd_659 rfl (Nat.le_trans (Nat.le_of_ble_eq_true rfl) hle) (st := []) (Nat.le_of_ble_eq_true rfl) rfl d_Face_feed_49 ?_
    cases hM
    exact g_iret X d_Face_feed_52
  · have hM := fa_if_f hM hc2
    refine g_iconst X d_Face_feed_16 ?_
    cases hM
    exact g_iret X d_Face_feed_17
theorem d_Face_end_0 : decode prog_1_method_4_code 0 = .ok (.iload_n 1, 1) := by decide +kernel
theorem d_Face_end_1 : decode prog_1_method_4_code 1 = .ok (.ifCond .lt 14, 3) := by decide +kernel
theorem d_Face_end_4 : decode prog_1_method_4_code 4 = .ok (.iload_n 1, 1) := by decide +kernel
theorem d_Face_end_5 : decode prog_1_method_4_code 5 = .ok (.aload_n 0, 1) := by decide +kernel
theorem d_Face_end_6 : decode prog_1_method_4_code 6 = .ok (.getfield 14, 3) := by decide +kernel
theorem d_Face_end_9 : decode prog_1_method_4_code 9 = .ok (.invokevirtual 74, 3) := by decide +kernel
theorem d_Face_end_12 : decode prog_1_method_4_code 12 = .ok (.if_icmp .le 5, 3) := by decide +kernel
theorem d_Face_end_15 : decode prog_1_method_4_code 15 = .ok (.iconst 0, 1) := by decide +kernel
theorem d_Face_end_16 : decode prog_1_method_4_code 16 = .ok (.ireturn, 1) := by decide +kernel
theorem d_Face_end_17 : decode prog_1_method_4_code 17 = .ok (.aload_n 0, 1) := by decide +kernel
theorem d_Face_end_18 : decode prog_1_method_4_code 18 = .ok (.getfield 14, 3) := by decide +kernel
theorem d_Face_end_21 : decode prog_1_method_4_code 21 = .ok (.iload_n 1, 1) := by decide +kernel
theorem d_Face_end_22 : decode prog_1_method_4_code 22 = .ok (.invokevirtual 84, 3) := by decide +kernel
theorem d_Face_end_25 : decode prog_1_method_4_code 25 = .ok (.iconst 1, 1) := by decide +kernel
theorem d_Face_end_26 : decode prog_1_method_4_code 26 = .ok (.ireturn, 1) := by decide +kernel
def fm_Face_end (a1 : Int) (w : fa_W) : Bool × fa_W :=
  if fa_wr a1 < 0 then
  (false, w)
  else
  (if fa_wr a1 ≤ fa_wr (fm_Row_size 1 w) then
  (fa_let (fm_Row_cut 1 a1 w) fun w5 =>
  (true, w5))
  else
  (false, w))
set_option maxHeartbeats 4000000 in
set_option maxRecDepth 100000 in
theorem c_Face_end {l : Launch} {D : va_G} {b : Nat} {aC : Nat → ClassId} {H0 : Heap} {N T : Nat} (hN : fa_NX ≤ N) (hT : fa_TX ≤ T) (a1 : Int)  (w : fa_W) (r : Bool × fa_W) (hM : fm_Face_end a1 w = r) : fa_MC l D b aC H0 N T y_Face_end prog_1_method_4_code 2 ((Option.some Jvm.ClassFile.FieldType.boolean)) (1) [.ref (b + 0), .int (fa_I a1)] w (some (.int (fa_I (fa_bi r.1)))) r.2 := by
  refine fa_enter (lv := [(0, .ref (b + 0)), (1, .int (fa_I a1))]) (by decide +kernel) (Nat.le_of_ble_eq_true rfl) rfl (fun hh hle hnm X => ?_)
  unfold fm_Face_end at hM
  refine g_iload_n X 1 rfl d_Face_end_0 ?_
  refine g_if_lt X 15 d_Face_end_1 (by decide) (fun hc1 => ?_) (fun hc1 => ?_)
  · have hM := fa_if_t hM hc1
    refine g_iconst X d_Face_end_15 ?_
    subst hM
    exact g_zret X rfl d_Face_end_16
  · have hM := fa_if_f hM hc1
    refine g_iload_n X 1 rfl d_Face_end_4 ?_
    refine g_aload_n X 0 rfl d_Face_end_5 ?_
    refine g_get X ck_0 fo_0 (fa_xn fo_0 (by decide) hN) 0 (by decide) wd_627 rfl (fr_0_0 rfl hT) d_Face_end_6 ?_
    refine g_callV_i X ck_6 fo_1 (fa_xn fo_1 (by decide) hN) rfl mi_Row_size (c_Row_size 1 (fa_ro fo_1 hN hT) w _ rfl) wd_659 rfl (Nat.le_trans (Nat.le_of_ble_eq_true rfl) hle) (st := [.int (fa_I a1)]) (Nat.le_of_ble_eq_true rfl) rfl d_Face_end_9 ?_
    refine g_icmp_le X 17 d_Face_end_12 (by decide) (fun hc3 => ?_) (fun hc3 => ?_)
    · have hM := fa_if_t hM hc3
      refine g_aload_n X 0 rfl d_Face_end_17 ?_
      refine g_get X ck_0 fo_0 (fa_xn fo_0 (by decide) hN) 0 (by decide) wd_627 rfl (fr_0_0 rfl hT) d_Face_end_18 ?_
      refine g_iload_n X 1 rfl d_Face_end_21 ?_
      obtain ⟨w5, e4⟩ : ∃ q, fm_Row_cut 1 a1 w = q := ⟨_, rfl⟩
      have hM := fa_let_to hM e4.symm
      refine g_callV_v X ck_6 fo_1 (fa_xn fo_1 (by decide) hN) rfl mi_Row_cut (c_Row_cut 1 a1 (fa_ro fo_1 hN hT) w _ e4) wd_669 rfl (Nat.le_trans (Nat.le_of_ble_eq_true rfl) hle) (st := []) (Nat.le_of_ble_eq_true rfl) rfl d_Face_end_22 ?_
      refine g_iconst X d_Face_end_25 ?_
      subst hM
      exact g_zret X rfl d_Face_end_26
    · have hM := fa_if_f hM hc3
      refine g_iconst X d_Face_end_15 ?_
      subst hM
      exact g_zret X rfl d_Face_end_16
theorem d_Face_adopt_0 : decode prog_1_method_6_code 0 = .ok (.aload_n 0, 1) := by decide +kernel
theorem d_Face_adopt_1 : decode prog_1_method_6_code 1 = .ok (.getfield 50, 3) := by decide +kernel
theorem d_Face_adopt_4 : decode prog_1_method_6_code 4 = .ok (.astore_n 1, 1) := by decide +kernel
theorem d_Face_adopt_5 : decode prog_1_method_6_code 5 = .ok (.aload_n 0, 1) := by decide +kernel
theorem d_Face_adopt_6 : decode prog_1_method_6_code 6 = .ok (.aload_n 0, 1) := by decide +kernel
theorem d_Face_adopt_7 : decode prog_1_method_6_code 7 = .ok (.getfield 54, 3) := by decide +kernel
theorem d_Face_adopt_10 : decode prog_1_method_6_code 10 = .ok (.putfield 50, 3) := by decide +kernel
theorem d_Face_adopt_13 : decode prog_1_method_6_code 13 = .ok (.aload_n 0, 1) := by decide +kernel
theorem d_Face_adopt_14 : decode prog_1_method_6_code 14 = .ok (.aload_n 1, 1) := by decide +kernel
theorem d_Face_adopt_15 : decode prog_1_method_6_code 15 = .ok (.putfield 54, 3) := by decide +kernel
theorem d_Face_adopt_18 : decode prog_1_method_6_code 18 = .ok (.aload_n 0, 1) := by decide +kernel
theorem d_Face_adopt_19 : decode prog_1_method_6_code 19 = .ok (.getfield 18, 3) := by decide +kernel
theorem d_Face_adopt_22 : decode prog_1_method_6_code 22 = .ok (.invokevirtual 90, 3) := by decide +kernel
theorem d_Face_adopt_25 : decode prog_1_method_6_code 25 = .ok (.aload_n 0, 1) := by decide +kernel
theorem d_Face_adopt_26 : decode prog_1_method_6_code 26 = .ok (.getfield 43, 3) := by decide +kernel
theorem d_Face_adopt_29 : decode prog_1_method_6_code 29 = .ok (.invokevirtual 118, 3) := by decide +kernel
theorem d_Face_adopt_32 : decode prog_1_method_6_code 32 = .ok (.aload_n 0, 1) := by decide +kernel
theorem d_Face_adopt_33 : decode prog_1_method_6_code 33 = .ok (.getfield 50, 3) := by decide +kernel
theorem d_Face_adopt_36 : decode prog_1_method_6_code 36 = .ok (.getfield 61, 3) := by decide +kernel
theorem d_Face_adopt_39 : decode prog_1_method_6_code 39 = .ok (.getfield 121, 3) := by decide +kernel
theorem d_Face_adopt_42 : decode prog_1_method_6_code 42 = .ok (.ireturn, 1) := by decide +kernel
def fm_Face_adopt (w : fa_W) : Int × fa_W :=
  fa_let (fa_st w 0 6 (w 0 7)) fun w1 =>
  fa_let (fa_st w1 0 7 (w 0 6)) fun w2 =>
  fa_let (fm_Row_clear 3 w2) fun w4 =>
  fa_let (fm_Machine_forget w4) fun w6 =>
  (w6 (fa_rf (fa_sc (w6 0 6)) 0) 14, w6)
set_option maxHeartbeats 4000000 in
set_option maxRecDepth 100000 in
theorem c_Face_adopt {l : Launch} {D : va_G} {b : Nat} {aC : Nat → ClassId} {H0 : Heap} {N T : Nat} (hN : fa_NX ≤ N) (hT : fa_TX ≤ T)   (w : fa_W) (r : Int × fa_W) (hM : fm_Face_adopt w = r) : fa_MC l D b aC H0 N T y_Face_adopt prog_1_method_6_code 2 ((Option.some Jvm.ClassFile.FieldType.int)) (1) [.ref (b + 0)] w (some (.int (fa_I r.1))) r.2 := by
  refine fa_enter (lv := [(0, .ref (b + 0))]) (by decide +kernel) (Nat.le_of_ble_eq_true rfl) rfl (fun hh hle hnm X => ?_)
  unfold fm_Face_adopt at hM
  refine g_aload_n X 0 rfl d_Face_adopt_0 ?_
  refine g_get X ck_0 fo_0 (fa_xn fo_0 (by decide) hN) 6 (by decide) wd_633 rfl (fr_0_6 rfl hT) d_Face_adopt_1 ?_
  refine g_astore_n X [(1, .ref (b + (fa_sc (w 0 6)))), (0, .ref (b + 0))] d_Face_adopt_4 (by decide) rfl ?_
  refine g_aload_n X 1 rfl d_Face_adopt_5 ?_
  refine g_aload_n X 1 rfl d_Face_adopt_6 ?_
  refine g_get X ck_0 fo_0 (fa_xn fo_0 (by decide) hN) 7 (by decide) wd_634 rfl (fr_0_7 rfl hT) d_Face_adopt_7 ?_
  refine g_put X ck_0 fo_0 (fa_xn fo_0 (by decide) hN) 6 (z := (w 0 7)) (by decide) wd_633 rfl (fa_fvS' rfl (Nat.lt_of_lt_of_le (by decide +kernel) hT)) rfl rfl rfl d_Face_adopt_10 (fun w1 ew1 => ?_)
  have hM := fa_let_to hM ew1
  refine g_aload_n X 1 rfl d_Face_adopt_13 ?_
  refine g_aload_n X 0 rfl d_Face_adopt_14 ?_
  refine g_put X ck_0 fo_0 (fa_xn fo_0 (by decide) hN) 7 (z := (w 0 6)) (by decide) wd_634 rfl (fa_fvS' rfl (Nat.lt_of_lt_of_le (by decide +kernel) hT)) rfl rfl rfl d_Face_adopt_15 (fun w2 ew2 => ?_)
  have hM := fa_let_to hM ew2
  refine g_aload_n X 1 rfl d_Face_adopt_18 ?_
  refine g_get X ck_0 fo_0 (fa_xn fo_0 (by decide) hN) 1 (by decide) wd_628 rfl (fr_0_1 rfl hT) d_Face_adopt_19 ?_
  obtain ⟨w4, e3⟩ : ∃ q, fm_Row_clear 3 w2 = q := ⟨_, rfl⟩
  have hM := fa_let_to hM e3.symm
  refine g_callV_v X ck_6 fo_3 (fa_xn fo_3 (by decide) hN) rfl mi_Row_clear (c_Row_clear 3 (fa_ro fo_3 hN hT) w2 _ e3) wd_905 rfl (Nat.le_trans (Nat.le_of_ble_eq_true rfl) hle) (st := []) (Nat.le_of_ble_eq_true rfl) rfl d_Face_adopt_22 ?_
  refine g_aload_n X 1 rfl d_Face_adopt_25 ?_
  refine g_get X ck_0 fo_0 (fa_xn fo_0 (by decide) hN) 5 (by decide) wd_632 rfl (fr_0_5 rfl hT) d_Face_adopt_26 ?_
  obtain ⟨w6, e5⟩ : ∃ q, fm_Machine_forget w4 = q := ⟨_, rfl⟩
  have hM := fa_let_to hM e5.symm
  refine g_callV_v X ck_3 fo_44 (fa_xn fo_44 (by decide) hN) rfl mi_Machine_forget (c_Machine_forget hN hT w4 _ e5) wd_906 rfl (Nat.le_trans (Nat.le_of_ble_eq_true rfl) hle) (st := []) (Nat.le_of_ble_eq_true rfl) rfl d_Face_adopt_29 ?_
  refine g_aload_n X 1 rfl d_Face_adopt_32 ?_
  refine g_get X ck_0 fo_0 (fa_xn fo_0 (by decide) hN) 6 (by decide) wd_633 rfl (fr_0_6 rfl hT) d_Face_adopt_33 ?_
  refine g_getN X ck_7 (fa_scs _) (fa_xn (fa_scs _) (by decide) hN) 0 (by decide) wd_385 rfl (fa_fvR rfl (fa_xt (fa_scs _) (by decide) hT 0)) d_Face_adopt_36 ?_
  refine g_getN X ck_4 (fa_r7_0 _ (fa_scs _)) (fa_xn (fa_r7_0 _ (fa_scs _)) (by decide) hN) 14 (by decide) wd_101 rfl (fa_fvI rfl) d_Face_adopt_39 ?_
  subst hM
  exact g_iret X d_Face_adopt_42
theorem d_Face_read_0 : decode prog_1_method_5_code 0 = .ok (.aload_n 0, 1) := by decide +kernel
theorem d_Face_read_1 : decode prog_1_method_5_code 1 = .ok (.aload_n 0, 1) := by decide +kernel
theorem d_Face_read_2 : decode prog_1_method_5_code 2 = .ok (.getfield 29, 3) := by decide +kernel
theorem d_Face_read_5 : decode prog_1_method_5_code 5 = .ok (.invokevirtual 87, 3) := by decide +kernel
theorem d_Face_read_8 : decode prog_1_method_5_code 8 = .ok (.putfield 57, 3) := by decide +kernel
theorem d_Face_read_11 : decode prog_1_method_5_code 11 = .ok (.aload_n 0, 1) := by decide +kernel
theorem d_Face_read_12 : decode prog_1_method_5_code 12 = .ok (.getfield 14, 3) := by decide +kernel
theorem d_Face_read_15 : decode prog_1_method_5_code 15 = .ok (.invokevirtual 90, 3) := by decide +kernel
theorem d_Face_read_18 : decode prog_1_method_5_code 18 = .ok (.aload_n 0, 1) := by decide +kernel
theorem d_Face_read_19 : decode prog_1_method_5_code 19 = .ok (.getfield 57, 3) := by decide +kernel
theorem d_Face_read_22 : decode prog_1_method_5_code 22 = .ok (.iconst (-1), 1) := by decide +kernel
theorem d_Face_read_23 : decode prog_1_method_5_code 23 = .ok (.if_icmp .eq 13, 3) := by decide +kernel
theorem d_Face_read_26 : decode prog_1_method_5_code 26 = .ok (.new 93, 3) := by decide +kernel
theorem d_Face_read_29 : decode prog_1_method_5_code 29 = .ok (.dup, 1) := by decide +kernel
theorem d_Face_read_30 : decode prog_1_method_5_code 30 = .ok (.ldc 95, 2) := by decide +kernel
theorem d_Face_read_32 : decode prog_1_method_5_code 32 = .ok (.invokespecial 97, 3) := by decide +kernel
theorem d_Face_read_35 : decode prog_1_method_5_code 35 = .ok (.athrow, 1) := by decide +kernel
theorem d_Face_read_36 : decode prog_1_method_5_code 36 = .ok (.aload_n 0, 1) := by decide +kernel
theorem d_Face_read_37 : decode prog_1_method_5_code 37 = .ok (.getfield 54, 3) := by decide +kernel
theorem d_Face_read_40 : decode prog_1_method_5_code 40 = .ok (.getfield 61, 3) := by decide +kernel
theorem d_Face_read_43 : decode prog_1_method_5_code 43 = .ok (.aload_n 0, 1) := by decide +kernel
theorem d_Face_read_44 : decode prog_1_method_5_code 44 = .ok (.getfield 29, 3) := by decide +kernel
theorem d_Face_read_47 : decode prog_1_method_5_code 47 = .ok (.getfield 100, 3) := by decide +kernel
theorem d_Face_read_50 : decode prog_1_method_5_code 50 = .ok (.aload_n 0, 1) := by decide +kernel
theorem d_Face_read_51 : decode prog_1_method_5_code 51 = .ok (.getfield 29, 3) := by decide +kernel
theorem d_Face_read_54 : decode prog_1_method_5_code 54 = .ok (.invokevirtual 103, 3) := by decide +kernel
theorem d_Face_read_57 : decode prog_1_method_5_code 57 = .ok (.iconst (-1), 1) := by decide +kernel
theorem d_Face_read_58 : decode prog_1_method_5_code 58 = .ok (.invokevirtual 106, 3) := by decide +kernel
theorem d_Face_read_61 : decode prog_1_method_5_code 61 = .ok (.aload_n 0, 1) := by decide +kernel
theorem d_Face_read_62 : decode prog_1_method_5_code 62 = .ok (.getfield 54, 3) := by decide +kernel
theorem d_Face_read_65 : decode prog_1_method_5_code 65 = .ok (.invokevirtual 70, 3) := by decide +kernel
theorem d_Face_read_68 : decode prog_1_method_5_code 68 = .ok (.ifCond .ne 13, 3) := by decide +kernel
theorem d_Face_read_71 : decode prog_1_method_5_code 71 = .ok (.new 110, 3) := by decide +kernel
theorem d_Face_read_74 : decode prog_1_method_5_code 74 = .ok (.dup, 1) := by decide +kernel
theorem d_Face_read_75 : decode prog_1_method_5_code 75 = .ok (.ldc 112, 2) := by decide +kernel
theorem d_Face_read_77 : decode prog_1_method_5_code 77 = .ok (.invokespecial 114, 3) := by decide +kernel
theorem d_Face_read_80 : decode prog_1_method_5_code 80 = .ok (.athrow, 1) := by decide +kernel
theorem d_Face_read_81 : decode prog_1_method_5_code 81 = .ok (.aload_n 0, 1) := by decide +kernel
theorem d_Face_read_82 : decode prog_1_method_5_code 82 = .ok (.invokevirtual 115, 3) := by decide +kernel
theorem d_Face_read_85 : decode prog_1_method_5_code 85 = .ok (.ireturn, 1) := by decide +kernel
def fm_Face_read (w : fa_W) : Option (Int × Int × fa_W) :=
  fa_bd (fm_Reader_parse w) fun v2 w3 =>
  fa_let (fa_st w3 0 8 v2) fun w4 =>
  fa_let (fm_Row_clear 1 w4) fun w6 =>
  if fa_wr (w6 0 8) = (-1) then
  ((fm_Program_copy (fa_rf (fa_sc (w6 0 7)) 0) 8 (fm_Reader_told w6) (-1) w6).bind fun w10 =>
  fa_bd (fm_Scene_settle (fa_sc (w10 0 7)) w10) fun v12 w13 =>
  if v12 = true then
  (fa_l2 (fm_Face_adopt w13) fun v16 w17 =>
  some (0, v16, w17))
  else
  some (4, 0, w13))
  else
  some (3, 0, w6)
set_option maxHeartbeats 4000000 in
set_option maxRecDepth 100000 in
theorem c_Face_read {l : Launch} {D : va_G} {b : Nat} {aC : Nat → ClassId} {H0 : Heap} {N T : Nat} (hN : fa_NX ≤ N) (hT : fa_TX ≤ T)   (w : fa_W) (rv : Int) (rw : fa_W) (hM : fm_Face_read w = some (0, rv, rw)) : fa_MC l D b aC H0 N T y_Face_read prog_1_method_5_code 1 ((Option.some Jvm.ClassFile.FieldType.int)) (907) [.ref (b + 0)] w (some (.int (fa_I rv))) rw := by
  refine fa_enter (lv := [(0, .ref (b + 0))]) (by decide +kernel) (Nat.le_of_ble_eq_true rfl) rfl (fun hh hle hnm X => ?_)
  unfold fm_Face_read at hM
  refine g_aload_n X 0 rfl d_Face_read_0 ?_
  refine g_aload_n X 0 rfl d_Face_read_1 ?_
  refine g_get X ck_0 fo_0 (fa_xn fo_0 (by decide) hN) 3 (by decide) wd_630 rfl (fr_0_3 rfl hT) d_Face_read_2 ?_
  obtain ⟨v2, w3, e1, hM⟩ := fa_obd hM
  refine g_callV_i X ck_5 fo_7 (fa_xn fo_7 (by decide) hN) rfl mi_Reader_parse (c_Reader_parse hN hT w _ e1) wd_963 rfl (Nat.le_trans (Nat.le_of_ble_eq_true rfl) hle) (st := [.ref (b + 0)]) (Nat.le_of_ble_eq_true rfl) rfl d_Face_read_5 ?_
  refine g_put X ck_0 fo_0 (fa_xn fo_0 (by decide) hN) 8 (z := v2) (by decide) wd_635 rfl (fa_fvI' rfl) rfl rfl rfl d_Face_read_8 (fun w4 ew4 => ?_)
  have hM := fa_let_to hM ew4
  refine g_aload_n X 0 rfl d_Face_read_11 ?_
  refine g_get X ck_0 fo_0 (fa_xn fo_0 (by decide) hN) 0 (by decide) wd_627 rfl (fr_0_0 rfl hT) d_Face_read_12 ?_
  obtain ⟨w6, e5⟩ : ∃ q, fm_Row_clear 1 w4 = q := ⟨_, rfl⟩
  have hM := fa_let_to hM e5.symm
  refine g_callV_v X ck_6 fo_1 (fa_xn fo_1 (by decide) hN) rfl mi_Row_clear (c_Row_clear 1 (fa_ro fo_1 hN hT) w4 _ e5) wd_905 rfl (Nat.le_trans (Nat.le_of_ble_eq_true rfl) hle) (st := []) (Nat.le_of_ble_eq_true rfl) rfl d_Face_read_15 ?_
  refine g_aload_n X 0 rfl d_Face_read_18 ?_
  refine g_get X ck_0 fo_0 (fa_xn fo_0 (by decide) hN) 8 (by decide) wd_635 rfl (fa_fvI rfl) d_Face_read_19 ?_
  refine g_iconst X d_Face_read_22 ?_
  refine g_icmp_eq X 36 d_Face_read_23 (by decide) (fun hc7 => ?_) (fun hc7 => ?_)
  · have hM := fa_if_t hM hc7
    refine g_aload_n X 0 rfl d_Face_read_36 ?_
    refine g_get X ck_0 fo_0 (fa_xn fo_0 (by decide) hN) 7 (by decide) wd_634 rfl (fr_0_7 rfl hT) d_Face_read_37 ?_
    refine g_getN X ck_7 (fa_scs _) (fa_xn (fa_scs _) (by decide) hN) 0 (by decide) wd_385 rfl (fa_fvR rfl (fa_xt (fa_scs _) (by decide) hT 0)) d_Face_read_40 ?_
    refine g_aload_n X 0 rfl d_Face_read_43 ?_
    refine g_get X ck_0 fo_0 (fa_xn fo_0 (by decide) hN) 3 (by decide) wd_630 rfl (fr_0_3 rfl hT) d_Face_read_44 ?_
    refine g_getN X ck_5 fo_7 (fa_xn fo_7 (by decide) hN) 0 (by decide) wd_151 rfl (fr_7_0 rfl hT) d_Face_read_47 ?_
    refine g_aload_n X 0 rfl d_Face_read_50 ?_
    refine g_get X ck_0 fo_0 (fa_xn fo_0 (by decide) hN) 3 (by decide) wd_630 rfl (fr_0_3 rfl hT) d_Face_read_51 ?_
    refine g_callV_i X ck_5 fo_7 (fa_xn fo_7 (by decide) hN) rfl mi_Reader_told (c_Reader_told hN hT w6 _ rfl) wd_1151 rfl (Nat.le_trans (Nat.le_of_ble_eq_true rfl) hle) (st := [.ref (b + 8), .ref (b + (fa_rf (fa_sc (w6 0 7)) 0))]) (Nat.le_of_ble_eq_true rfl) rfl d_Face_read_54 ?_
    refine g_iconst X d_Face_read_57 ?_
    obtain ⟨w10, e9, hM⟩ := fa_ob hM
    refine g_callV_v X ck_4 (fa_r7_0 _ (fa_scs _)) (fa_xn (fa_r7_0 _ (fa_scs _)) (by decide) hN) rfl mi_Program_copy (c_Program_copy hN hT (fa_rf (fa_sc (w6 0 7)) 0) 8 (fm_Reader_told w6) (-1) (fa_r7_0 _ (fa_scs _)) fo_8 w6 _ e9) wd_721 rfl (Nat.le_trans (Nat.le_of_ble_eq_true rfl) hle) (st := []) (Nat.le_of_ble_eq_true rfl) rfl d_Face_read_58 ?_
    refine g_aload_n X 0 rfl d_Face_read_61 ?_
    refine g_get X ck_0 fo_0 (fa_xn fo_0 (by decide) hN) 7 (by decide) wd_634 rfl (fr_0_7 rfl hT) d_Face_read_62 ?_
    obtain ⟨v12, w13, e11, hM⟩ := fa_obd hM
    refine g_callV_i X ck_7 (fa_scs _) (fa_xn (fa_scs _) (by decide) hN) rfl mi_Scene_settle (c_Scene_settle hN hT (fa_sc (w10 0 7)) (fa_scs _) w10 _ e11) wd_435 rfl (Nat.le_trans (Nat.le_of_ble_eq_true rfl) hle) (st := []) (Nat.le_of_ble_eq_true rfl) rfl d_Face_read_65 ?_
    refine g_ifb_ne X 81 d_Face_read_68 (by decide) (fun hc14 => ?_) (fun hc14 => ?_)
    · have hM := fa_ifb_t hM hc14
      refine g_aload_n X 0 rfl d_Face_read_81 ?_
      obtain ⟨⟨v16, w17⟩, e15⟩ : ∃ q, fm_Face_adopt w13 = q := ⟨_, rfl⟩
      have hM := fa_l2_e hM e15
      refine g_callV_i X ck_0 fo_0 (fa_xn fo_0 (by decide) hN) rfl mi_Face_adopt (c_Face_adopt hN hT w13 _ e15) wd_901 rfl (Nat.le_trans (Nat.le_of_ble_eq_true rfl) hle) (st := []) (Nat.le_of_ble_eq_true rfl) rfl d_Face_read_82 ?_
      cases hM
      exact g_iret X d_Face_read_85
    · have hM := fa_ifb_f hM hc14
      exact absurd (fa_c3 hM) (by decide)
  · have hM := fa_if_f hM hc7
    exact absurd (fa_c3 hM) (by decide)
set_option maxHeartbeats 4000000 in
set_option maxRecDepth 100000 in
theorem cx_Face_read {l : Launch} {D : va_G} {b : Nat} {aC : Nat → ClassId} {H0 : Heap} {N T : Nat} (hN : fa_NX ≤ N) (hT : fa_TX ≤ T)  (hfl : l.stackTraces = false) (w : fa_W) (rv : Int) (rw : fa_W) (kk : Int) (hk : kk ≠ 0) (hM : fm_Face_read w = some (kk, rv, rw)) : fa_MX l D b aC H0 N T y_Face_read prog_1_method_5_code 1 ((Option.some Jvm.ClassFile.FieldType.int)) (907) [.ref (b + 0)] w kk rw := by
  refine fa_xenter (lv := [(0, .ref (b + 0))]) (by decide +kernel) (Nat.le_of_ble_eq_true rfl) rfl (fun hh hle hnx X => ?_)
  unfold fm_Face_read at hM
  refine g_aload_n X 0 rfl d_Face_read_0 ?_
  refine g_aload_n X 0 rfl d_Face_read_1 ?_
  refine g_get X ck_0 fo_0 (fa_xn fo_0 (by decide) hN) 3 (by decide) wd_630 rfl (fr_0_3 rfl hT) d_Face_read_2 ?_
  obtain ⟨v2, w3, e1, hM⟩ := fa_obd hM
  refine g_callV_i X ck_5 fo_7 (fa_xn fo_7 (by decide) hN) rfl mi_Reader_parse (c_Reader_parse hN hT w _ e1) wd_963 rfl (Nat.le_trans (Nat.le_of_ble_eq_true rfl) hle) (st := [.ref (b + 0)]) (Nat.le_of_ble_eq_true rfl) rfl d_Face_read_5 ?_
  refine g_put X ck_0 fo_0 (fa_xn fo_0 (by decide) hN) 8 (z := v2) (by decide) wd_635 rfl (fa_fvI' rfl) rfl rfl rfl d_Face_read_8 (fun w4 ew4 => ?_)
  have hM := fa_let_to hM ew4
  refine g_aload_n X 0 rfl d_Face_read_11 ?_
  refine g_get X ck_0 fo_0 (fa_xn fo_0 (by decide) hN) 0 (by decide) wd_627 rfl (fr_0_0 rfl hT) d_Face_read_12 ?_
  obtain ⟨w6, e5⟩ : ∃ q, fm_Row_clear 1 w4 = q := ⟨_, rfl⟩
  have hM := fa_let_to hM e5.symm
  refine g_callV_v X ck_6 fo_1 (fa_xn fo_1 (by decide) hN) rfl mi_Row_clear (c_Row_clear 1 (fa_ro fo_1 hN hT) w4 _ e5) wd_905 rfl (Nat.le_trans (Nat.le_of_ble_eq_true rfl) hle) (st := []) (Nat.le_of_ble_eq_true rfl) rfl d_Face_read_15 ?_
  refine g_aload_n X 0 rfl d_Face_read_18 ?_
  refine g_get X ck_0 fo_0 (fa_xn fo_0 (by decide) hN) 8 (by decide) wd_635 rfl (fa_fvI rfl) d_Face_read_19 ?_
  refine g_iconst X d_Face_read_22 ?_
  refine g_icmp_eq X 36 d_Face_read_23 (by decide) (fun hc7 => ?_) (fun hc7 => ?_)
  · have hM := fa_if_t hM hc7
    refine g_aload_n X 0 rfl d_Face_read_36 ?_
    refine g_get X ck_0 fo_0 (fa_xn fo_0 (by decide) hN) 7 (by decide) wd_634 rfl (fr_0_7 rfl hT) d_Face_read_37 ?_
    refine g_getN X ck_7 (fa_scs _) (fa_xn (fa_scs _) (by decide) hN) 0 (by decide) wd_385 rfl (fa_fvR rfl (fa_xt (fa_scs _) (by decide) hT 0)) d_Face_read_40 ?_
    refine g_aload_n X 0 rfl d_Face_read_43 ?_
    refine g_get X ck_0 fo_0 (fa_xn fo_0 (by decide) hN) 3 (by decide) wd_630 rfl (fr_0_3 rfl hT) d_Face_read_44 ?_
    refine g_getN X ck_5 fo_7 (fa_xn fo_7 (by decide) hN) 0 (by decide) wd_151 rfl (fr_7_0 rfl hT) d_Face_read_47 ?_
    refine g_aload_n X 0 rfl d_Face_read_50 ?_
    refine g_get X ck_0 fo_0 (fa_xn fo_0 (by decide) hN) 3 (by decide) wd_630 rfl (fr_0_3 rfl hT) d_Face_read_51 ?_
    refine g_callV_i X ck_5 fo_7 (fa_xn fo_7 (by decide) hN) rfl mi_Reader_told (c_Reader_told hN hT w6 _ rfl) wd_1151 rfl (Nat.le_trans (Nat.le_of_ble_eq_true rfl) hle) (st := [.ref (b + 8), .ref (b + (fa_rf (fa_sc (w6 0 7)) 0))]) (Nat.le_of_ble_eq_true rfl) rfl d_Face_read_54 ?_
    refine g_iconst X d_Face_read_57 ?_
    obtain ⟨w10, e9, hM⟩ := fa_ob hM
    refine g_callV_v X ck_4 (fa_r7_0 _ (fa_scs _)) (fa_xn (fa_r7_0 _ (fa_scs _)) (by decide) hN) rfl mi_Program_copy (c_Program_copy hN hT (fa_rf (fa_sc (w6 0 7)) 0) 8 (fm_Reader_told w6) (-1) (fa_r7_0 _ (fa_scs _)) fo_8 w6 _ e9) wd_721 rfl (Nat.le_trans (Nat.le_of_ble_eq_true rfl) hle) (st := []) (Nat.le_of_ble_eq_true rfl) rfl d_Face_read_58 ?_
    refine g_aload_n X 0 rfl d_Face_read_61 ?_
    refine g_get X ck_0 fo_0 (fa_xn fo_0 (by decide) hN) 7 (by decide) wd_634 rfl (fr_0_7 rfl hT) d_Face_read_62 ?_
    obtain ⟨v12, w13, e11, hM⟩ := fa_obd hM
    refine g_callV_i X ck_7 (fa_scs _) (fa_xn (fa_scs _) (by decide) hN) rfl mi_Scene_settle (c_Scene_settle hN hT (fa_sc (w10 0 7)) (fa_scs _) w10 _ e11) wd_435 rfl (Nat.le_trans (Nat.le_of_ble_eq_true rfl) hle) (st := []) (Nat.le_of_ble_eq_true rfl) rfl d_Face_read_65 ?_
    refine g_ifb_ne X 81 d_Face_read_68 (by decide) (fun hc14 => ?_) (fun hc14 => ?_)
    · have hM := fa_ifb_t hM hc14
      refine g_aload_n X 0 rfl d_Face_read_81 ?_
      obtain ⟨⟨v16, w17⟩, e15⟩ : ∃ q, fm_Face_adopt w13 = q := ⟨_, rfl⟩
      have hM := fa_l2_e hM e15
      refine g_callV_i X ck_0 fo_0 (fa_xn fo_0 (by decide) hN) rfl mi_Face_adopt (c_Face_adopt hN hT w13 _ e15) wd_901 rfl (Nat.le_trans (Nat.le_of_ble_eq_true rfl) hle) (st := []) (Nat.le_of_ble_eq_true rfl) rfl d_Face_read_82 ?_
      exact absurd (fa_c3 hM).symm hk
    · have hM := fa_ifb_f hM hc14
      cases hM
      exact g_throwS X hnx hfl (k := 4) (by decide) (names := ["java/lang/RuntimeException", "java/lang/Exception"]) dx_4_0 dx_4_1 dx_4_2 dx_4_5 (by decide +kernel) (by decide +kernel) wd_1155 wd_18 (List.mem_of_getElem? (i := 23) rfl) ax_4 ay_4 d_Face_read_71 d_Face_read_74 d_Face_read_75 d_Face_read_77 d_Face_read_80 (Nat.le_trans (Nat.le_of_ble_eq_true rfl) hle) (Nat.le_of_ble_eq_true rfl)
  · have hM := fa_if_f hM hc7
    cases hM
    exact g_throwS X hnx hfl (k := 3) (by decide) (names := ["java/lang/RuntimeException", "java/lang/Exception"]) dx_3_0 dx_3_1 dx_3_2 dx_3_5 (by decide +kernel) (by decide +kernel) wd_1083 wd_17 (List.mem_of_getElem? (i := 22) rfl) ax_3 ay_3 d_Face_read_26 d_Face_read_29 d_Face_read_30 d_Face_read_32 d_Face_read_35 (Nat.le_trans (Nat.le_of_ble_eq_true rfl) hle) (Nat.le_of_ble_eq_true rfl)
theorem d_Face_fault_0 : decode prog_1_method_7_code 0 = .ok (.aload_n 0, 1) := by decide +kernel
theorem d_Face_fault_1 : decode prog_1_method_7_code 1 = .ok (.getfield 57, 3) := by decide +kernel
theorem d_Face_fault_4 : decode prog_1_method_7_code 4 = .ok (.ireturn, 1) := by decide +kernel
def fm_Face_fault (w : fa_W) : Int :=
  w 0 8
set_option maxHeartbeats 4000000 in
set_option maxRecDepth 100000 in
theorem c_Face_fault {l : Launch} {D : va_G} {b : Nat} {aC : Nat → ClassId} {H0 : Heap} {N T : Nat} (hN : fa_NX ≤ N) (hT : fa_TX ≤ T)   (w : fa_W) (r : Int) (hM : fm_Face_fault w = r) : fa_MC l D b aC H0 N T y_Face_fault prog_1_method_7_code 1 ((Option.some Jvm.ClassFile.FieldType.int)) (0) [.ref (b + 0)] w (some (.int (fa_I r))) w := by
  refine fa_enter (lv := [(0, .ref (b + 0))]) (by decide +kernel) (Nat.le_of_ble_eq_true rfl) rfl (fun hh hle hnm X => ?_)
  unfold fm_Face_fault at hM
  refine g_aload_n X 0 rfl d_Face_fault_0 ?_
  refine g_get X ck_0 fo_0 (fa_xn fo_0 (by decide) hN) 8 (by decide) wd_635 rfl (fa_fvI rfl) d_Face_fault_1 ?_
  subst hM
  exact g_iret X d_Face_fault_4
theorem d_Face_needFunction_0 : decode prog_1_method_9_code 0 = .ok (.iload_n 1, 1) := by decide +kernel
theorem d_Face_needFunction_1 : decode prog_1_method_9_code 1 = .ok (.ifCond .lt 17, 3) := by decide +kernel
theorem d_Face_needFunction_4 : decode prog_1_method_9_code 4 = .ok (.iload_n 1, 1) := by decide +kernel
theorem d_Face_needFunction_5 : decode prog_1_method_9_code 5 = .ok (.aload_n 0, 1) := by decide +kernel
theorem d_Face_needFunction_6 : decode prog_1_method_9_code 6 = .ok (.getfield 50, 3) := by decide +kernel
theorem d_Face_needFunction_9 : decode prog_1_method_9_code 9 = .ok (.getfield 61, 3) := by decide +kernel
theorem d_Face_needFunction_12 : decode prog_1_method_9_code 12 = .ok (.getfield 121, 3) := by decide +kernel
theorem d_Face_needFunction_15 : decode prog_1_method_9_code 15 = .ok (.if_icmp .lt 13, 3) := by decide +kernel
theorem d_Face_needFunction_18 : decode prog_1_method_9_code 18 = .ok (.new 195, 3) := by decide +kernel
theorem d_Face_needFunction_21 : decode prog_1_method_9_code 21 = .ok (.dup, 1) := by decide +kernel
theorem d_Face_needFunction_22 : decode prog_1_method_9_code 22 = .ok (.ldc 197, 2) := by decide +kernel
theorem d_Face_needFunction_24 : decode prog_1_method_9_code 24 = .ok (.invokespecial 199, 3) := by decide +kernel
theorem d_Face_needFunction_27 : decode prog_1_method_9_code 27 = .ok (.athrow, 1) := by decide +kernel
theorem d_Face_needFunction_28 : decode prog_1_method_9_code 28 = .ok (.return_, 1) := by decide +kernel
def fm_Face_needFunction_j18 (a1 : Int) (w : fa_W) : Option (Int × fa_W) :=
  some (1, w)
set_option maxHeartbeats 4000000 in
set_option maxRecDepth 100000 in
theorem c_Face_needFunction_j18 {p : Program} {l : Launch} {e : Env} {s : State} {m : MethodId} {args : Array Value} {below : List Frame} {meth : Method} {c : Code} {hh : Nat} {D : va_G} {b : Nat} {aC : Nat → ClassId} {H0 : Heap} {N T : Nat} (X : fa_GX p s m args meth c prog_1_method_9_code 2 ((Option.none : Option Jvm.ClassFile.FieldType)) y_Face_needFunction.cls D b aC) (hle : 6 ≤ hh) (hN : fa_NX ≤ N) (hT : fa_TX ≤ T) (a1 : Int) {rw : fa_W}  : ∀ (w : fa_W) (_ : fm_Face_needFunction_j18 a1 w = some (0, rw)), fa_GJ p l e (fa_rm hh) s m args below meth c 0 0 (MQ below (fa_Qc D b aC H0 N T (none) rw) args s 0 0 (fun q => b ≤ q)) D b aC H0 N T 2 w 18 [] [] := by
  intro w hM
  unfold fm_Face_needFunction_j18 at hM
  exact absurd (fa_c3 hM) (by decide)
def fm_Face_needFunction (a1 : Int) (w : fa_W) : Option (Int × fa_W) :=
  if fa_wr a1 < 0 then
  fm_Face_needFunction_j18 a1 w
  else
  (if fa_wr a1 < fa_wr (w (fa_rf (fa_sc (w 0 6)) 0) 14) then
  some (0, w)
  else
  fm_Face_needFunction_j18 a1 w)
set_option maxHeartbeats 4000000 in
set_option maxRecDepth 100000 in
theorem c_Face_needFunction {l : Launch} {D : va_G} {b : Nat} {aC : Nat → ClassId} {H0 : Heap} {N T : Nat} (hN : fa_NX ≤ N) (hT : fa_TX ≤ T) (a1 : Int)  (w : fa_W) (rw : fa_W) (hM : fm_Face_needFunction a1 w = some (0, rw)) : fa_MC l D b aC H0 N T y_Face_needFunction prog_1_method_9_code 2 ((Option.none : Option Jvm.ClassFile.FieldType)) (6) [.ref (b + 0), .int (fa_I a1)] w (none) rw := by
  refine fa_enter (lv := [(0, .ref (b + 0)), (1, .int (fa_I a1))]) (by decide +kernel) (Nat.le_of_ble_eq_true rfl) rfl (fun hh hle hnm X => ?_)
  unfold fm_Face_needFunction at hM
  refine g_iload_n X 1 rfl d_Face_needFunction_0 ?_
  refine g_if_lt X 18 d_Face_needFunction_1 (by decide) (fun hc1 => ?_) (fun hc1 => ?_)
  · have hM := fa_if_t hM hc1
    exact g_lv [] rfl (c_Face_needFunction_j18 X hle hN hT a1    _ hM)
  · have hM := fa_if_f hM hc1
    refine g_iload_n X 1 rfl d_Face_needFunction_4 ?_
    refine g_aload_n X 0 rfl d_Face_needFunction_5 ?_
    refine g_get X ck_0 fo_0 (fa_xn fo_0 (by decide) hN) 6 (by decide) wd_633 rfl (fr_0_6 rfl hT) d_Face_needFunction_6 ?_
    refine g_getN X ck_7 (fa_scs _) (fa_xn (fa_scs _) (by decide) hN) 0 (by decide) wd_385 rfl (fa_fvR rfl (fa_xt (fa_scs _) (by decide) hT 0)) d_Face_needFunction_9 ?_
    refine g_getN X ck_4 (fa_r7_0 _ (fa_scs _)) (fa_xn (fa_r7_0 _ (fa_scs _)) (by decide) hN) 14 (by decide) wd_101 rfl (fa_fvI rfl) d_Face_needFunction_12 ?_
    refine g_icmp_lt X 28 d_Face_needFunction_15 (by decide) (fun hc2 => ?_) (fun hc2 => ?_)
    · have hM := fa_if_t hM hc2
      cases hM
      exact g_vret X d_Face_needFunction_28
    · have hM := fa_if_f hM hc2
      exact g_lv [] rfl (c_Face_needFunction_j18 X hle hN hT a1    _ hM)
set_option maxHeartbeats 4000000 in
set_option maxRecDepth 100000 in
theorem cx_Face_needFunction_j18 {p : Program} {l : Launch} {e : Env} {s : State} {m : MethodId} {args : Array Value} {below : List Frame} {meth : Method} {c : Code} {hh : Nat} {D : va_G} {b : Nat} {aC : Nat → ClassId} {H0 : Heap} {N T : Nat} (X : fa_GX p s m args meth c prog_1_method_9_code 2 ((Option.none : Option Jvm.ClassFile.FieldType)) y_Face_needFunction.cls D b aC) (hle : 6 ≤ hh) (hnx : ∀ x ∈ c.exceptionTable.toList, False) (hfl : l.stackTraces = false) (hN : fa_NX ≤ N) (hT : fa_TX ≤ T) (a1 : Int) {rw : fa_W} {kk : Int} (hk : kk ≠ 0)  : ∀ (w : fa_W) (_ : fm_Face_needFunction_j18 a1 w = some (kk, rw)), fa_GJ p l e (fa_rmx hh) s m args below meth c 0 0 (fa_XQ D b aC H0 N T below args s kk rw) D b aC H0 N T 2 w 18 [] [] := by
  intro w hM
  unfold fm_Face_needFunction_j18 at hM
  cases hM
  exact g_throwS X hnx hfl (k := 1) (by decide) (names := ["java/lang/RuntimeException", "java/lang/Exception"]) dx_1_0 dx_1_1 dx_1_2 dx_1_5 (by decide +kernel) (by decide +kernel) wd_1184 wd_19 (List.mem_of_getElem? (i := 25) rfl) ax_1 ay_1 d_Face_needFunction_18 d_Face_needFunction_21 d_Face_needFunction_22 d_Face_needFunction_24 d_Face_needFunction_27 (Nat.le_trans (Nat.le_of_ble_eq_true rfl) hle) (Nat.le_of_ble_eq_true rfl)
set_option maxHeartbeats 4000000 in
set_option maxRecDepth 100000 in
theorem cx_Face_needFunction {l : Launch} {D : va_G} {b : Nat} {aC : Nat → ClassId} {H0 : Heap} {N T : Nat} (hN : fa_NX ≤ N) (hT : fa_TX ≤ T) (a1 : Int) (hfl : l.stackTraces = false) (w : fa_W) (rw : fa_W) (kk : Int) (hk : kk ≠ 0) (hM : fm_Face_needFunction a1 w = some (kk, rw)) : fa_MX l D b aC H0 N T y_Face_needFunction prog_1_method_9_code 2 ((Option.none : Option Jvm.ClassFile.FieldType)) (6) [.ref (b + 0), .int (fa_I a1)] w kk rw := by
  refine fa_xenter (lv := [(0, .ref (b + 0)), (1, .int (fa_I a1))]) (by decide +kernel) (Nat.le_of_ble_eq_true rfl) rfl (fun hh hle hnx X => ?_)
  unfold fm_Face_needFunction at hM
  refine g_iload_n X 1 rfl d_Face_needFunction_0 ?_
  refine g_if_lt X 18 d_Face_needFunction_1 (by decide) (fun hc1 => ?_) (fun hc1 => ?_)
  · have hM := fa_if_t hM hc1
    exact g_lv [] rfl (cx_Face_needFunction_j18 X hle hnx hfl hN hT a1 hk    _ hM)
  · have hM := fa_if_f hM hc1
    refine g_iload_n X 1 rfl d_Face_needFunction_4 ?_
    refine g_aload_n X 0 rfl d_Face_needFunction_5 ?_
    refine g_get X ck_0 fo_0 (fa_xn fo_0 (by decide) hN) 6 (by decide) wd_633 rfl (fr_0_6 rfl hT) d_Face_needFunction_6 ?_
    refine g_getN X ck_7 (fa_scs _) (fa_xn (fa_scs _) (by decide) hN) 0 (by decide) wd_385 rfl (fa_fvR rfl (fa_xt (fa_scs _) (by decide) hT 0)) d_Face_needFunction_9 ?_
    refine g_getN X ck_4 (fa_r7_0 _ (fa_scs _)) (fa_xn (fa_r7_0 _ (fa_scs _)) (by decide) hN) 14 (by decide) wd_101 rfl (fa_fvI rfl) d_Face_needFunction_12 ?_
    refine g_icmp_lt X 28 d_Face_needFunction_15 (by decide) (fun hc2 => ?_) (fun hc2 => ?_)
    · have hM := fa_if_t hM hc2
      exact absurd (fa_c3 hM).symm hk
    · have hM := fa_if_f hM hc2
      exact g_lv [] rfl (cx_Face_needFunction_j18 X hle hnx hfl hN hT a1 hk    _ hM)
theorem d_Face_countFields_0 : decode prog_1_method_10_code 0 = .ok (.aload_n 1, 1) := by decide +kernel
theorem d_Face_countFields_1 : decode prog_1_method_10_code 1 = .ok (.iload_n 2, 1) := by decide +kernel
theorem d_Face_countFields_2 : decode prog_1_method_10_code 2 = .ok (.aload_n 0, 1) := by decide +kernel
theorem d_Face_countFields_3 : decode prog_1_method_10_code 3 = .ok (.getfield 21, 3) := by decide +kernel
theorem d_Face_countFields_6 : decode prog_1_method_10_code 6 = .ok (.invokevirtual 200, 3) := by decide +kernel
theorem d_Face_countFields_9 : decode prog_1_method_10_code 9 = .ok (.aload_n 0, 1) := by decide +kernel
theorem d_Face_countFields_10 : decode prog_1_method_10_code 10 = .ok (.getfield 21, 3) := by decide +kernel
theorem d_Face_countFields_13 : decode prog_1_method_10_code 13 = .ok (.invokevirtual 74, 3) := by decide +kernel
theorem d_Face_countFields_16 : decode prog_1_method_10_code 16 = .ok (.ireturn, 1) := by decide +kernel
def fm_Face_countFields (a1 : Nat) (a2 : Int) (w : fa_W) : Option (Int × fa_W) :=
  (fm_Program_listFields a1 a2 5 w).bind fun w2 =>
  some (fm_Row_size 5 w2, w2)
set_option maxHeartbeats 4000000 in
set_option maxRecDepth 100000 in
theorem c_Face_countFields {l : Launch} {D : va_G} {b : Nat} {aC : Nat → ClassId} {H0 : Heap} {N T : Nat} (hN : fa_NX ≤ N) (hT : fa_TX ≤ T) (a1 : Nat) (a2 : Int) (ha1 : (fa_sh a1).1 = 4)  (w : fa_W) (r : Int × fa_W) (hM : fm_Face_countFields a1 a2 w = some r) : fa_MC l D b aC H0 N T y_Face_countFields prog_1_method_10_code 3 ((Option.some Jvm.ClassFile.FieldType.int)) (2) [.ref (b + 0), .ref (b + a1), .int (fa_I a2)] w (some (.int (fa_I r.1))) r.2 := by
  refine fa_enter (lv := [(0, .ref (b + 0)), (1, .ref (b + a1)), (2, .int (fa_I a2))]) (by decide +kernel) (Nat.le_of_ble_eq_true rfl) rfl (fun hh hle hnm X => ?_)
  unfold fm_Face_countFields at hM
  refine g_aload_n X 1 rfl d_Face_countFields_0 ?_
  refine g_iload_n X 2 rfl d_Face_countFields_1 ?_
  refine g_aload_n X 0 rfl d_Face_countFields_2 ?_
  refine g_get X ck_0 fo_0 (fa_xn fo_0 (by decide) hN) 2 (by decide) wd_629 rfl (fr_0_2 rfl hT) d_Face_countFields_3 ?_
  obtain ⟨w2, e1, hM⟩ := fa_ob hM
  refine g_callV_v X ck_4 ha1 (fa_xn ha1 (by decide) hN) rfl mi_Program_listFields (c_Program_listFields hN hT a1 a2 5 ha1 fo_5 w _ e1) wd_949 rfl (Nat.le_trans (Nat.le_of_ble_eq_true rfl) hle) (st := []) (Nat.le_of_ble_eq_true rfl) rfl d_Face_countFields_6 ?_
  refine g_aload_n X 0 rfl d_Face_countFields_9 ?_
  refine g_get X ck_0 fo_0 (fa_xn fo_0 (by decide) hN) 2 (by decide) wd_629 rfl (fr_0_2 rfl hT) d_Face_countFields_10 ?_
  refine g_callV_i X ck_6 fo_5 (fa_xn fo_5 (by decide) hN) rfl mi_Row_size (c_Row_size 5 (fa_ro fo_5 hN hT) w2 _ rfl) wd_659 rfl (Nat.le_trans (Nat.le_of_ble_eq_true rfl) hle) (st := []) (Nat.le_of_ble_eq_true rfl) rfl d_Face_countFields_13 ?_
  cases hM
  exact g_iret X d_Face_countFields_16
theorem d_Face_function_0 : decode prog_1_method_8_code 0 = .ok (.aload_n 0, 1) := by decide +kernel
theorem d_Face_function_1 : decode prog_1_method_8_code 1 = .ok (.iload_n 1, 1) := by decide +kernel
theorem d_Face_function_2 : decode prog_1_method_8_code 2 = .ok (.invokevirtual 124, 3) := by decide +kernel
theorem d_Face_function_5 : decode prog_1_method_8_code 5 = .ok (.iload_n 2, 1) := by decide +kernel
theorem d_Face_function_6 : decode prog_1_method_8_code 6 = .ok (.tableswitch 278 0 12 #[66, 78, 98, 116, 134, 149, 168, 181, 194, 207, 222, 234, 259], 66) := by decide +kernel
theorem d_Face_function_72 : decode prog_1_method_8_code 72 = .ok (.aload_n 0, 1) := by decide +kernel
theorem d_Face_function_73 : decode prog_1_method_8_code 73 = .ok (.getfield 50, 3) := by decide +kernel
theorem d_Face_function_76 : decode prog_1_method_8_code 76 = .ok (.getfield 61, 3) := by decide +kernel
theorem d_Face_function_79 : decode prog_1_method_8_code 79 = .ok (.iload_n 1, 1) := by decide +kernel
theorem d_Face_function_80 : decode prog_1_method_8_code 80 = .ok (.invokevirtual 127, 3) := by decide +kernel
theorem d_Face_function_83 : decode prog_1_method_8_code 83 = .ok (.ireturn, 1) := by decide +kernel
theorem d_Face_function_84 : decode prog_1_method_8_code 84 = .ok (.iload_n 1, 1) := by decide +kernel
theorem d_Face_function_85 : decode prog_1_method_8_code 85 = .ok (.aload_n 0, 1) := by decide +kernel
theorem d_Face_function_86 : decode prog_1_method_8_code 86 = .ok (.getfield 50, 3) := by decide +kernel
theorem d_Face_function_89 : decode prog_1_method_8_code 89 = .ok (.getfield 61, 3) := by decide +kernel
theorem d_Face_function_92 : decode prog_1_method_8_code 92 = .ok (.getfield 131, 3) := by decide +kernel
theorem d_Face_function_95 : decode prog_1_method_8_code 95 = .ok (.if_icmp .ge 7, 3) := by decide +kernel
theorem d_Face_function_98 : decode prog_1_method_8_code 98 = .ok (.iconst 1, 1) := by decide +kernel
theorem d_Face_function_99 : decode prog_1_method_8_code 99 = .ok (.goto 4, 3) := by decide +kernel
theorem d_Face_function_102 : decode prog_1_method_8_code 102 = .ok (.iconst 0, 1) := by decide +kernel
theorem d_Face_function_103 : decode prog_1_method_8_code 103 = .ok (.ireturn, 1) := by decide +kernel
theorem d_Face_function_104 : decode prog_1_method_8_code 104 = .ok (.aload_n 0, 1) := by decide +kernel
theorem d_Face_function_105 : decode prog_1_method_8_code 105 = .ok (.getfield 50, 3) := by decide +kernel
theorem d_Face_function_108 : decode prog_1_method_8_code 108 = .ok (.getfield 134, 3) := by decide +kernel
theorem d_Face_function_111 : decode prog_1_method_8_code 111 = .ok (.getfield 138, 3) := by decide +kernel
theorem d_Face_function_114 : decode prog_1_method_8_code 114 = .ok (.iload_n 1, 1) := by decide +kernel
theorem d_Face_function_115 : decode prog_1_method_8_code 115 = .ok (.invokestatic 143, 3) := by decide +kernel
theorem d_Face_function_118 : decode prog_1_method_8_code 118 = .ok (.invokestatic 147, 3) := by decide +kernel
theorem d_Face_function_121 : decode prog_1_method_8_code 121 = .ok (.ireturn, 1) := by decide +kernel
theorem d_Face_function_122 : decode prog_1_method_8_code 122 = .ok (.aload_n 0, 1) := by decide +kernel
theorem d_Face_function_123 : decode prog_1_method_8_code 123 = .ok (.getfield 50, 3) := by decide +kernel
theorem d_Face_function_126 : decode prog_1_method_8_code 126 = .ok (.getfield 134, 3) := by decide +kernel
theorem d_Face_function_129 : decode prog_1_method_8_code 129 = .ok (.getfield 151, 3) := by decide +kernel
theorem d_Face_function_132 : decode prog_1_method_8_code 132 = .ok (.iload_n 1, 1) := by decide +kernel
theorem d_Face_function_133 : decode prog_1_method_8_code 133 = .ok (.invokestatic 143, 3) := by decide +kernel
theorem d_Face_function_136 : decode prog_1_method_8_code 136 = .ok (.invokestatic 147, 3) := by decide +kernel
theorem d_Face_function_139 : decode prog_1_method_8_code 139 = .ok (.ireturn, 1) := by decide +kernel
theorem d_Face_function_140 : decode prog_1_method_8_code 140 = .ok (.aload_n 0, 1) := by decide +kernel
theorem d_Face_function_141 : decode prog_1_method_8_code 141 = .ok (.getfield 50, 3) := by decide +kernel
theorem d_Face_function_144 : decode prog_1_method_8_code 144 = .ok (.getfield 134, 3) := by decide +kernel
theorem d_Face_function_147 : decode prog_1_method_8_code 147 = .ok (.getfield 154, 3) := by decide +kernel
theorem d_Face_function_150 : decode prog_1_method_8_code 150 = .ok (.iload_n 1, 1) := by decide +kernel
theorem d_Face_function_151 : decode prog_1_method_8_code 151 = .ok (.invokevirtual 157, 3) := by decide +kernel
theorem d_Face_function_154 : decode prog_1_method_8_code 154 = .ok (.ireturn, 1) := by decide +kernel
theorem d_Face_function_155 : decode prog_1_method_8_code 155 = .ok (.aload_n 0, 1) := by decide +kernel
theorem d_Face_function_156 : decode prog_1_method_8_code 156 = .ok (.getfield 50, 3) := by decide +kernel
theorem d_Face_function_159 : decode prog_1_method_8_code 159 = .ok (.getfield 134, 3) := by decide +kernel
theorem d_Face_function_162 : decode prog_1_method_8_code 162 = .ok (.aload_n 0, 1) := by decide +kernel
theorem d_Face_function_163 : decode prog_1_method_8_code 163 = .ok (.getfield 50, 3) := by decide +kernel
theorem d_Face_function_166 : decode prog_1_method_8_code 166 = .ok (.getfield 61, 3) := by decide +kernel
theorem d_Face_function_169 : decode prog_1_method_8_code 169 = .ok (.iload_n 1, 1) := by decide +kernel
theorem d_Face_function_170 : decode prog_1_method_8_code 170 = .ok (.invokevirtual 160, 3) := by decide +kernel
theorem d_Face_function_173 : decode prog_1_method_8_code 173 = .ok (.ireturn, 1) := by decide +kernel
theorem d_Face_function_174 : decode prog_1_method_8_code 174 = .ok (.aload_n 0, 1) := by decide +kernel
theorem d_Face_function_175 : decode prog_1_method_8_code 175 = .ok (.aload_n 0, 1) := by decide +kernel
theorem d_Face_function_176 : decode prog_1_method_8_code 176 = .ok (.getfield 50, 3) := by decide +kernel
theorem d_Face_function_179 : decode prog_1_method_8_code 179 = .ok (.getfield 61, 3) := by decide +kernel
theorem d_Face_function_182 : decode prog_1_method_8_code 182 = .ok (.iload_n 1, 1) := by decide +kernel
theorem d_Face_function_183 : decode prog_1_method_8_code 183 = .ok (.invokevirtual 164, 3) := by decide +kernel
theorem d_Face_function_186 : decode prog_1_method_8_code 186 = .ok (.ireturn, 1) := by decide +kernel
theorem d_Face_function_187 : decode prog_1_method_8_code 187 = .ok (.aload_n 0, 1) := by decide +kernel
theorem d_Face_function_188 : decode prog_1_method_8_code 188 = .ok (.getfield 50, 3) := by decide +kernel
theorem d_Face_function_191 : decode prog_1_method_8_code 191 = .ok (.getfield 167, 3) := by decide +kernel
theorem d_Face_function_194 : decode prog_1_method_8_code 194 = .ok (.iconst 2, 1) := by decide +kernel
theorem d_Face_function_195 : decode prog_1_method_8_code 195 = .ok (.iload_n 1, 1) := by decide +kernel
theorem d_Face_function_196 : decode prog_1_method_8_code 196 = .ok (.invokevirtual 171, 3) := by decide +kernel
theorem d_Face_function_199 : decode prog_1_method_8_code 199 = .ok (.ireturn, 1) := by decide +kernel
theorem d_Face_function_200 : decode prog_1_method_8_code 200 = .ok (.aload_n 0, 1) := by decide +kernel
theorem d_Face_function_201 : decode prog_1_method_8_code 201 = .ok (.getfield 50, 3) := by decide +kernel
theorem d_Face_function_204 : decode prog_1_method_8_code 204 = .ok (.getfield 167, 3) := by decide +kernel
theorem d_Face_function_207 : decode prog_1_method_8_code 207 = .ok (.iconst 1, 1) := by decide +kernel
theorem d_Face_function_208 : decode prog_1_method_8_code 208 = .ok (.iload_n 1, 1) := by decide +kernel
theorem d_Face_function_209 : decode prog_1_method_8_code 209 = .ok (.invokevirtual 171, 3) := by decide +kernel
theorem d_Face_function_212 : decode prog_1_method_8_code 212 = .ok (.ireturn, 1) := by decide +kernel
theorem d_Face_function_213 : decode prog_1_method_8_code 213 = .ok (.aload_n 0, 1) := by decide +kernel
theorem d_Face_function_214 : decode prog_1_method_8_code 214 = .ok (.getfield 50, 3) := by decide +kernel
theorem d_Face_function_217 : decode prog_1_method_8_code 217 = .ok (.getfield 134, 3) := by decide +kernel
theorem d_Face_function_220 : decode prog_1_method_8_code 220 = .ok (.getfield 177, 3) := by decide +kernel
theorem d_Face_function_223 : decode prog_1_method_8_code 223 = .ok (.iload_n 1, 1) := by decide +kernel
theorem d_Face_function_224 : decode prog_1_method_8_code 224 = .ok (.invokevirtual 157, 3) := by decide +kernel
theorem d_Face_function_227 : decode prog_1_method_8_code 227 = .ok (.ireturn, 1) := by decide +kernel
theorem d_Face_function_228 : decode prog_1_method_8_code 228 = .ok (.aload_n 0, 1) := by decide +kernel
theorem d_Face_function_229 : decode prog_1_method_8_code 229 = .ok (.getfield 50, 3) := by decide +kernel
theorem d_Face_function_232 : decode prog_1_method_8_code 232 = .ok (.getfield 134, 3) := by decide +kernel
theorem d_Face_function_235 : decode prog_1_method_8_code 235 = .ok (.iload_n 1, 1) := by decide +kernel
theorem d_Face_function_236 : decode prog_1_method_8_code 236 = .ok (.invokevirtual 180, 3) := by decide +kernel
theorem d_Face_function_239 : decode prog_1_method_8_code 239 = .ok (.ireturn, 1) := by decide +kernel
theorem d_Face_function_240 : decode prog_1_method_8_code 240 = .ok (.aload_n 0, 1) := by decide +kernel
theorem d_Face_function_241 : decode prog_1_method_8_code 241 = .ok (.getfield 50, 3) := by decide +kernel
theorem d_Face_function_244 : decode prog_1_method_8_code 244 = .ok (.getfield 134, 3) := by decide +kernel
theorem d_Face_function_247 : decode prog_1_method_8_code 247 = .ok (.aload_n 0, 1) := by decide +kernel
theorem d_Face_function_248 : decode prog_1_method_8_code 248 = .ok (.getfield 50, 3) := by decide +kernel
theorem d_Face_function_251 : decode prog_1_method_8_code 251 = .ok (.getfield 61, 3) := by decide +kernel
theorem d_Face_function_254 : decode prog_1_method_8_code 254 = .ok (.invokevirtual 183, 3) := by decide +kernel
theorem d_Face_function_257 : decode prog_1_method_8_code 257 = .ok (.iload_n 1, 1) := by decide +kernel
theorem d_Face_function_258 : decode prog_1_method_8_code 258 = .ok (.invokestatic 143, 3) := by decide +kernel
theorem d_Face_function_261 : decode prog_1_method_8_code 261 = .ok (.invokestatic 147, 3) := by decide +kernel
theorem d_Face_function_264 : decode prog_1_method_8_code 264 = .ok (.ireturn, 1) := by decide +kernel
theorem d_Face_function_265 : decode prog_1_method_8_code 265 = .ok (.aload_n 0, 1) := by decide +kernel
theorem d_Face_function_266 : decode prog_1_method_8_code 266 = .ok (.getfield 50, 3) := by decide +kernel
theorem d_Face_function_269 : decode prog_1_method_8_code 269 = .ok (.getfield 134, 3) := by decide +kernel
theorem d_Face_function_272 : decode prog_1_method_8_code 272 = .ok (.aload_n 0, 1) := by decide +kernel
theorem d_Face_function_273 : decode prog_1_method_8_code 273 = .ok (.getfield 50, 3) := by decide +kernel
theorem d_Face_function_276 : decode prog_1_method_8_code 276 = .ok (.getfield 61, 3) := by decide +kernel
theorem d_Face_function_279 : decode prog_1_method_8_code 279 = .ok (.iload_n 1, 1) := by decide +kernel
theorem d_Face_function_280 : decode prog_1_method_8_code 280 = .ok (.invokevirtual 187, 3) := by decide +kernel
theorem d_Face_function_283 : decode prog_1_method_8_code 283 = .ok (.ireturn, 1) := by decide +kernel
theorem d_Face_function_284 : decode prog_1_method_8_code 284 = .ok (.new 190, 3) := by decide +kernel
theorem d_Face_function_287 : decode prog_1_method_8_code 287 = .ok (.dup, 1) := by decide +kernel
theorem d_Face_function_288 : decode prog_1_method_8_code 288 = .ok (.ldc 192, 2) := by decide +kernel
theorem d_Face_function_290 : decode prog_1_method_8_code 290 = .ok (.invokespecial 194, 3) := by decide +kernel
theorem d_Face_function_293 : decode prog_1_method_8_code 293 = .ok (.athrow, 1) := by decide +kernel
def fm_Face_function (a1 : Int) (a2 : Int) (w : fa_W) : Option (Int × Int × fa_W) :=
  fa_bd (fm_Face_needFunction a1 w) fun k2 w3 =>
  if k2 = 0 then
  (if fa_wr a2 = 0 then
  some (0, fm_Program_home (fa_rf (fa_sc (w3 0 6)) 0) a1 w3, w3)
  else
  if fa_wr a2 = 1 then
  (if fa_wr (w3 (fa_rf (fa_sc (w3 0 6)) 0) 13) ≤ fa_wr a1 then
  some (0, 0, w3)
  else
  some (0, 1, w3))
  else
  if fa_wr a2 = 2 then
  some (0, fm_Face_oneIf (fm_Face_hasBit (w3 (fa_rf (fa_sc (w3 0 6)) 2) 5) a1 w3) w3, w3)
  else
  if fa_wr a2 = 3 then
  some (0, fm_Face_oneIf (fm_Face_hasBit (w3 (fa_rf (fa_sc (w3 0 6)) 2) 6) a1 w3) w3, w3)
  else
  if fa_wr a2 = 4 then
  some (0, fr_bits (fa_rf (fa_rf (fa_sc (w3 0 6)) 2) 1) a1 w3, w3)
  else
  if fa_wr a2 = 5 then
  some (0, fm_Flow_comesOfBody (fa_rf (fa_sc (w3 0 6)) 2) (fa_rf (fa_sc (w3 0 6)) 0) a1 w3, w3)
  else
  if fa_wr a2 = 6 then
  (fa_bd (fm_Face_countFields (fa_rf (fa_sc (w3 0 6)) 0) a1 w3) fun v21 w22 =>
  some (0, v21, w22))
  else
  if fa_wr a2 = 7 then
  ((fm_Groups_groupOf (fa_rf (fa_sc (w3 0 6)) 3) 2 a1 w3).bind fun v25 =>
  some (0, v25, w3))
  else
  if fa_wr a2 = 8 then
  ((fm_Groups_groupOf (fa_rf (fa_sc (w3 0 6)) 3) 1 a1 w3).bind fun v28 =>
  some (0, v28, w3))
  else
  if fa_wr a2 = 9 then
  some (0, fr_bits (fa_rf (fa_rf (fa_sc (w3 0 6)) 2) 2) a1 w3, w3)
  else
  if fa_wr a2 = 10 then
  ((fm_Flow_ringOf (fa_rf (fa_sc (w3 0 6)) 2) a1 w3).bind fun v33 =>
  some (0, v33, w3))
  else
  if fa_wr a2 = 11 then
  some (0, fm_Face_oneIf (fm_Face_hasBit (fm_Flow_escapes (fa_rf (fa_sc (w3 0 6)) 2) (fa_rf (fa_sc (w3 0 6)) 0) w3) a1 w3) w3, w3)
  else
  if fa_wr a2 = 12 then
  ((fm_Flow_countSitesOf (fa_rf (fa_sc (w3 0 6)) 2) (fa_rf (fa_sc (w3 0 6)) 0) a1 w3).bind fun v40 =>
  some (0, v40, w3))
  else
  some (2, 0, w3))
  else
  some (k2, 0, w3)
set_option maxHeartbeats 4000000 in
set_option maxRecDepth 100000 in
theorem c_Face_function {l : Launch} {D : va_G} {b : Nat} {aC : Nat → ClassId} {H0 : Heap} {N T : Nat} (hN : fa_NX ≤ N) (hT : fa_TX ≤ T) (a1 : Int) (a2 : Int)  (w : fa_W) (rv : Int) (rw : fa_W) (hM : fm_Face_function a1 a2 w = some (0, rv, rw)) : fa_MC l D b aC H0 N T y_Face_function prog_1_method_8_code 3 ((Option.some Jvm.ClassFile.FieldType.int)) (7) [.ref (b + 0), .int (fa_I a1), .int (fa_I a2)] w (some (.int (fa_I rv))) rw := by
  refine fa_enter (lv := [(0, .ref (b + 0)), (1, .int (fa_I a1)), (2, .int (fa_I a2))]) (by decide +kernel) (Nat.le_of_ble_eq_true rfl) rfl (fun hh hle hnm X => ?_)
  unfold fm_Face_function at hM
  refine g_aload_n X 0 rfl d_Face_function_0 ?_
  refine g_iload_n X 1 rfl d_Face_function_1 ?_
  obtain ⟨k2, w3, e1, hM⟩ := fa_obd hM
  by_cases hk4 : k2 = 0
  · replace hM := fa_if_t hM hk4
    subst hk4
    refine g_callV_v X ck_0 fo_0 (fa_xn fo_0 (by decide) hN) rfl mi_Face_needFunction (c_Face_needFunction hN hT a1 w _ e1) wd_1180 rfl (Nat.le_trans (Nat.le_of_ble_eq_true rfl) hle) (st := []) (Nat.le_of_ble_eq_true rfl) rfl d_Face_function_2 ?_
    refine g_iload_n X 2 rfl d_Face_function_5 ?_
    by_cases hc5 : fa_wr a2 = 0
    · have hM := fa_if_t hM hc5
      refine g_tableIn X 0 72 d_Face_function_6 hc5 (by decide) (by decide) rfl (by decide) ?_
      refine g_aload_n X 0 rfl d_Face_function_72 ?_
      refine g_get X ck_0 fo_0 (fa_xn fo_0 (by decide) hN) 6 (by decide) wd_633 rfl (fr_0_6 rfl hT) d_Face_function_73 ?_
      refine g_getN X ck_7 (fa_scs _) (fa_xn (fa_scs _) (by decide) hN) 0 (by decide) wd_385 rfl (fa_fvR rfl (fa_xt (fa_scs _) (by decide) hT 0)) d_Face_function_76 ?_
      refine g_iload_n X 1 rfl d_Face_function_79 ?_
      refine g_callV_i X ck_4 (fa_r7_0 _ (fa_scs _)) (fa_xn (fa_r7_0 _ (fa_scs _)) (by decide) hN) rfl mi_Program_home (c_Program_home hN hT (fa_rf (fa_sc (w3 0 6)) 0) a1 (fa_r7_0 _ (fa_scs _)) w3 _ rfl) wd_1200 rfl (Nat.le_trans (Nat.le_of_ble_eq_true rfl) hle) (st := []) (Nat.le_of_ble_eq_true rfl) rfl d_Face_function_80 ?_
      cases hM
      exact g_iret X d_Face_function_83
    have hM := fa_if_f hM hc5
    by_cases hc7 : fa_wr a2 = 1
    · have hM := fa_if_t hM hc7
      refine g_tableIn X 1 84 d_Face_function_6 hc7 (by decide) (by decide) rfl (by decide) ?_
      refine g_iload_n X 1 rfl d_Face_function_84 ?_
      refine g_aload_n X 0 rfl d_Face_function_85 ?_
      refine g_get X ck_0 fo_0 (fa_xn fo_0 (by decide) hN) 6 (by decide) wd_633 rfl (fr_0_6 rfl hT) d_Face_function_86 ?_
      refine g_getN X ck_7 (fa_scs _) (fa_xn (fa_scs _) (by decide) hN) 0 (by decide) wd_385 rfl (fa_fvR rfl (fa_xt (fa_scs _) (by decide) hT 0)) d_Face_function_89 ?_
      refine g_getN X ck_4 (fa_r7_0 _ (fa_scs _)) (fa_xn (fa_r7_0 _ (fa_scs _)) (by decide) hN) 13 (by decide) wd_95 rfl (fa_fvI rfl) d_Face_function_92 ?_
      refine g_icmp_ge X 102 d_Face_function_95 (by decide) (fun hc8 => ?_) (fun hc8 => ?_)
      · have hM := fa_if_t hM hc8
        refine g_iconst X d_Face_function_102 ?_
        cases hM
        exact g_iret X d_Face_function_103
      · have hM := fa_if_f hM hc8
        refine g_iconst X d_Face_function_98 ?_
        refine g_goto X 103 d_Face_function_99 (by decide) ?_
        cases hM
        exact g_iret X d_Face_function_103
    have hM := fa_if_f hM hc7
    by_cases hc9 : fa_wr a2 = 2
    · have hM := fa_if_t hM hc9
      refine g_tableIn X 2 104 d_Face_function_6 hc9 (by decide) (by decide) rfl (by decide) ?_
      refine g_aload_n X 0 rfl d_Face_function_104 ?_
      refine g_get X ck_0 fo_0 (fa_xn fo_0 (by decide) hN) 6 (by decide) wd_633 rfl (fr_0_6 rfl hT) d_Face_function_105 ?_
      refine g_getN X ck_7 (fa_scs _) (fa_xn (fa_scs _) (by decide) hN) 2 (by decide) wd_394 rfl (fa_fvR rfl (fa_xt (fa_scs _) (by decide) hT 2)) d_Face_function_108 ?_
      refine g_getN X ck_1 (fa_r7_2 _ (fa_scs _)) (fa_xn (fa_r7_2 _ (fa_scs _)) (by decide) hN) 5 (by decide) wd_343 rfl (fa_fvI rfl) d_Face_function_111 ?_
      refine g_iload_n X 1 rfl d_Face_function_114 ?_
      refine g_callS_i X mi_Face_hasBit (c_Face_hasBit hN hT (w3 (fa_rf (fa_sc (w3 0 6)) 2) 5) a1 w3 _ rfl) wd_944 rfl (Nat.le_trans (Nat.le_of_ble_eq_true rfl) hle) (st := []) (Nat.le_of_ble_eq_true rfl) rfl d_Face_function_115 ?_
      refine g_callS_i X mi_Face_oneIf (c_Face_oneIf hN hT (fm_Face_hasBit (w3 (fa_rf (fa_sc (w3 0 6)) 2) 5) a1 w3) w3 _ rfl) wd_1204 rfl (Nat.le_trans (Nat.le_of_ble_eq_true rfl) hle) (st := []) (Nat.le_of_ble_eq_true rfl) rfl d_Face_function_118 ?_
      cases hM
      exact g_iret X d_Face_function_121
    have hM := fa_if_f hM hc9
    by_cases hc12 : fa_wr a2 = 3
    · have hM := fa_if_t hM hc12
      refine g_tableIn X 3 122 d_Face_function_6 hc12 (by decide) (by decide) rfl (by decide) ?_
      refine g_aload_n X 0 rfl d_Face_function_122 ?_
      refine g_get X ck_0 fo_0 (fa_xn fo_0 (by decide) hN) 6 (by decide) wd_633 rfl (fr_0_6 rfl hT) d_Face_function_123 ?_
      refine g_getN X ck_7 (fa_scs _) (fa_xn (fa_scs _) (by decide) hN) 2 (by decide) wd_394 rfl (fa_fvR rfl (fa_xt (fa_scs _) (by decide) hT 2)) d_Face_function_126 ?_
      refine g_getN X ck_1 (fa_r7_2 _ (fa_scs _)) (fa_xn (fa_r7_2 _ (fa_scs _)) (by decide) hN) 6 (by decide) wd_347 rfl (fa_fvI rfl) d_Face_function_129 ?_
      refine g_iload_n X 1 rfl d_Face_function_132 ?_
      refine g_callS_i X mi_Face_hasBit (c_Face_hasBit hN hT (w3 (fa_rf (fa_sc (w3 0 6)) 2) 6) a1 w3 _ rfl) wd_944 rfl (Nat.le_trans (Nat.le_of_ble_eq_true rfl) hle) (st := []) (Nat.le_of_ble_eq_true rfl) rfl d_Face_function_133 ?_
      refine g_callS_i X mi_Face_oneIf (c_Face_oneIf hN hT (fm_Face_hasBit (w3 (fa_rf (fa_sc (w3 0 6)) 2) 6) a1 w3) w3 _ rfl) wd_1204 rfl (Nat.le_trans (Nat.le_of_ble_eq_true rfl) hle) (st := []) (Nat.le_of_ble_eq_true rfl) rfl d_Face_function_136 ?_
      cases hM
      exact g_iret X d_Face_function_139
    have hM := fa_if_f hM hc12
    by_cases hc15 : fa_wr a2 = 4
    · have hM := fa_if_t hM hc15
      refine g_tableIn X 4 140 d_Face_function_6 hc15 (by decide) (by decide) rfl (by decide) ?_
      refine g_aload_n X 0 rfl d_Face_function_140 ?_
      refine g_get X ck_0 fo_0 (fa_xn fo_0 (by decide) hN) 6 (by decide) wd_633 rfl (fr_0_6 rfl hT) d_Face_function_141 ?_
      refine g_getN X ck_7 (fa_scs _) (fa_xn (fa_scs _) (by decide) hN) 2 (by decide) wd_394 rfl (fa_fvR rfl (fa_xt (fa_scs _) (by decide) hT 2)) d_Face_function_144 ?_
      refine g_getN X ck_1 (fa_r7_2 _ (fa_scs _)) (fa_xn (fa_r7_2 _ (fa_scs _)) (by decide) hN) 1 (by decide) wd_335 rfl (fa_fvR rfl (fa_xt (fa_r7_2 _ (fa_scs _)) (by decide) hT 1)) d_Face_function_147 ?_
      refine g_iload_n X 1 rfl d_Face_function_150 ?_
      refine g_callV_i X ck_6 (fa_r1_1 _ (fa_r7_2 _ (fa_scs _))) (fa_xn (fa_r1_1 _ (fa_r7_2 _ (fa_scs _))) (by decide) hN) rfl mi_Row_bits (ct_Row_bits (fa_rf (fa_rf (fa_sc (w3 0 6)) 2) 1) a1 (fa_ro (fa_r1_1 _ (fa_r7_2 _ (fa_scs _))) hN hT) w3 _ rfl) wd_1205 rfl (Nat.le_trans (Nat.le_of_ble_eq_true rfl) hle) (st := []) (Nat.le_of_ble_eq_true rfl) rfl d_Face_function_151 ?_
      cases hM
      exact g_iret X d_Face_function_154
    have hM := fa_if_f hM hc15
    by_cases hc17 : fa_wr a2 = 5
    · have hM := fa_if_t hM hc17
      refine g_tableIn X 5 155 d_Face_function_6 hc17 (by decide) (by decide) rfl (by decide) ?_
      refine g_aload_n X 0 rfl d_Face_function_155 ?_
      refine g_get X ck_0 fo_0 (fa_xn fo_0 (by decide) hN) 6 (by decide) wd_633 rfl (fr_0_6 rfl hT) d_Face_function_156 ?_
      refine g_getN X ck_7 (fa_scs _) (fa_xn (fa_scs _) (by decide) hN) 2 (by decide) wd_394 rfl (fa_fvR rfl (fa_xt (fa_scs _) (by decide) hT 2)) d_Face_function_159 ?_
      refine g_aload_n X 0 rfl d_Face_function_162 ?_
      refine g_get X ck_0 fo_0 (fa_xn fo_0 (by decide) hN) 6 (by decide) wd_633 rfl (fr_0_6 rfl hT) d_Face_function_163 ?_
      refine g_getN X ck_7 (fa_scs _) (fa_xn (fa_scs _) (by decide) hN) 0 (by decide) wd_385 rfl (fa_fvR rfl (fa_xt (fa_scs _) (by decide) hT 0)) d_Face_function_166 ?_
      refine g_iload_n X 1 rfl d_Face_function_169 ?_
      refine g_callV_i X ck_1 (fa_r7_2 _ (fa_scs _)) (fa_xn (fa_r7_2 _ (fa_scs _)) (by decide) hN) rfl mi_Flow_comesOfBody (c_Flow_comesOfBody hN hT (fa_rf (fa_sc (w3 0 6)) 2) (fa_rf (fa_sc (w3 0 6)) 0) a1 (fa_r7_2 _ (fa_scs _)) (fa_r7_0 _ (fa_scs _)) w3 _ rfl) wd_1206 rfl (Nat.le_trans (Nat.le_of_ble_eq_true rfl) hle) (st := []) (Nat.le_of_ble_eq_true rfl) rfl d_Face_function_170 ?_
      cases hM
      exact g_iret X d_Face_function_173
    have hM := fa_if_f hM hc17
    by_cases hc19 : fa_wr a2 = 6
    · have hM := fa_if_t hM hc19
      refine g_tableIn X 6 174 d_Face_function_6 hc19 (by decide) (by decide) rfl (by decide) ?_
      refine g_aload_n X 0 rfl d_Face_function_174 ?_
      refine g_aload_n X 0 rfl d_Face_function_175 ?_
      refine g_get X ck_0 fo_0 (fa_xn fo_0 (by decide) hN) 6 (by decide) wd_633 rfl (fr_0_6 rfl hT) d_Face_function_176 ?_
      refine g_getN X ck_7 (fa_scs _) (fa_xn (fa_scs _) (by decide) hN) 0 (by decide) wd_385 rfl (fa_fvR rfl (fa_xt (fa_scs _) (by decide) hT 0)) d_Face_function_179 ?_
      refine g_iload_n X 1 rfl d_Face_function_182 ?_
      obtain ⟨v21, w22, e20, hM⟩ := fa_obd hM
      refine g_callV_i X ck_0 fo_0 (fa_xn fo_0 (by decide) hN) rfl mi_Face_countFields (c_Face_countFields hN hT (fa_rf (fa_sc (w3 0 6)) 0) a1 (fa_r7_0 _ (fa_scs _)) w3 _ e20) wd_945 rfl (Nat.le_trans (Nat.le_of_ble_eq_true rfl) hle) (st := []) (Nat.le_of_ble_eq_true rfl) rfl d_Face_function_183 ?_
      cases hM
      exact g_iret X d_Face_function_186
    have hM := fa_if_f hM hc19
    by_cases hc23 : fa_wr a2 = 7
    · have hM := fa_if_t hM hc23
      refine g_tableIn X 7 187 d_Face_function_6 hc23 (by decide) (by decide) rfl (by decide) ?_
      refine g_aload_n X 0 rfl d_Face_function_187 ?_
      refine g_get X ck_0 fo_0 (fa_xn fo_0 (by decide) hN) 6 (by decide) wd_633 rfl (fr_0_6 rfl hT) d_Face_function_188 ?_
      refine g_getN X ck_7 (fa_scs _) (fa_xn (fa_scs _) (by decide) hN) 3 (by decide) wd_398 rfl (fa_fvR rfl (fa_xt (fa_scs _) (by decide) hT 3)) d_Face_function_191 ?_
      refine g_iconst X d_Face_function_194 ?_
      refine g_iload_n X 1 rfl d_Face_function_195 ?_
      obtain ⟨v25, e24, hM⟩ := fa_ob hM
      refine g_callV_i X ck_2 (fa_r7_3 _ (fa_scs _)) (fa_xn (fa_r7_3 _ (fa_scs _)) (by decide) hN) rfl mi_Groups_groupOf (c_Groups_groupOf hN hT (fa_rf (fa_sc (w3 0 6)) 3) 2 a1 (fa_r7_3 _ (fa_scs _)) w3 _ e24) wd_1207 rfl (Nat.le_trans (Nat.le_of_ble_eq_true rfl) hle) (st := []) (Nat.le_of_ble_eq_true rfl) rfl d_Face_function_196 ?_
      cases hM
      exact g_iret X d_Face_function_199
    have hM := fa_if_f hM hc23
    by_cases hc26 : fa_wr a2 = 8
    · have hM := fa_if_t hM hc26
      refine g_tableIn X 8 200 d_Face_function_6 hc26 (by decide) (by decide) rfl (by decide) ?_
      refine g_aload_n X 0 rfl d_Face_function_200 ?_
      refine g_get X ck_0 fo_0 (fa_xn fo_0 (by decide) hN) 6 (by decide) wd_633 rfl (fr_0_6 rfl hT) d_Face_function_201 ?_
      refine g_getN X ck_7 (fa_scs _) (fa_xn (fa_scs _) (by decide) hN) 3 (by decide) wd_398 rfl (fa_fvR rfl (fa_xt (fa_scs _) (by decide) hT 3)) d_Face_function_204 ?_
      refine g_iconst X d_Face_function_207 ?_
      refine g_iload_n X 1 rfl d_Face_function_208 ?_
      obtain ⟨v28, e27, hM⟩ := fa_ob hM
      refine g_callV_i X ck_2 (fa_r7_3 _ (fa_scs _)) (fa_xn (fa_r7_3 _ (fa_scs _)) (by decide) hN) rfl mi_Groups_groupOf (c_Groups_groupOf hN hT (fa_rf (fa_sc (w3 0 6)) 3) 1 a1 (fa_r7_3 _ (fa_scs _)) w3 _ e27) wd_1207 rfl (Nat.le_trans (Nat.le_of_ble_eq_true rfl) hle) (st := []) (Nat.le_of_ble_eq_true rfl) rfl d_Face_function_209 ?_
      cases hM
      exact g_iret X d_Face_function_212
    have hM := fa_if_f hM hc26
    by_cases hc29 : fa_wr a2 = 9
    · have hM := fa_if_t hM hc29
      refine g_tableIn X 9 213 d_Face_function_6 hc29 (by decide) (by decide) rfl (by decide) ?_
      refine g_aload_n X 0 rfl d_Face_function_213 ?_
      refine g_get X ck_0 fo_0 (fa_xn fo_0 (by decide) hN) 6 (by decide) wd_633 rfl (fr_0_6 rfl hT) d_Face_function_214 ?_
      refine g_getN X ck_7 (fa_scs _) (fa_xn (fa_scs _) (by decide) hN) 2 (by decide) wd_394 rfl (fa_fvR rfl (fa_xt (fa_scs _) (by decide) hT 2)) d_Face_function_217 ?_
      refine g_getN X ck_1 (fa_r7_2 _ (fa_scs _)) (fa_xn (fa_r7_2 _ (fa_scs _)) (by decide) hN) 2 (by decide) wd_337 rfl (fa_fvR rfl (fa_xt (fa_r7_2 _ (fa_scs _)) (by decide) hT 2)) d_Face_function_220 ?_
      refine g_iload_n X 1 rfl d_Face_function_223 ?_
      refine g_callV_i X ck_6 (fa_r1_2 _ (fa_r7_2 _ (fa_scs _))) (fa_xn (fa_r1_2 _ (fa_r7_2 _ (fa_scs _))) (by decide) hN) rfl mi_Row_bits (ct_Row_bits (fa_rf (fa_rf (fa_sc (w3 0 6)) 2) 2) a1 (fa_ro (fa_r1_2 _ (fa_r7_2 _ (fa_scs _))) hN hT) w3 _ rfl) wd_1205 rfl (Nat.le_trans (Nat.le_of_ble_eq_true rfl) hle) (st := []) (Nat.le_of_ble_eq_true rfl) rfl d_Face_function_224 ?_
      cases hM
      exact g_iret X d_Face_function_227
    have hM := fa_if_f hM hc29
    by_cases hc31 : fa_wr a2 = 10
    · have hM := fa_if_t hM hc31
      refine g_tableIn X 10 228 d_Face_function_6 hc31 (by decide) (by decide) rfl (by decide) ?_
      refine g_aload_n X 0 rfl d_Face_function_228 ?_
      refine g_get X ck_0 fo_0 (fa_xn fo_0 (by decide) hN) 6 (by decide) wd_633 rfl (fr_0_6 rfl hT) d_Face_function_229 ?_
      refine g_getN X ck_7 (fa_scs _) (fa_xn (fa_scs _) (by decide) hN) 2 (by decide) wd_394 rfl (fa_fvR rfl (fa_xt (fa_scs _) (by decide) hT 2)) d_Face_function_232 ?_
      refine g_iload_n X 1 rfl d_Face_function_235 ?_
      obtain ⟨v33, e32, hM⟩ := fa_ob hM
      refine g_callV_i X ck_1 (fa_r7_2 _ (fa_scs _)) (fa_xn (fa_r7_2 _ (fa_scs _)) (by decide) hN) rfl mi_Flow_ringOf (c_Flow_ringOf hN hT (fa_rf (fa_sc (w3 0 6)) 2) a1 (fa_r7_2 _ (fa_scs _)) w3 _ e32) wd_1208 rfl (Nat.le_trans (Nat.le_of_ble_eq_true rfl) hle) (st := []) (Nat.le_of_ble_eq_true rfl) rfl d_Face_function_236 ?_
      cases hM
      exact g_iret X d_Face_function_239
    have hM := fa_if_f hM hc31
    by_cases hc34 : fa_wr a2 = 11
    · have hM := fa_if_t hM hc34
      refine g_tableIn X 11 240 d_Face_function_6 hc34 (by decide) (by decide) rfl (by decide) ?_
      refine g_aload_n X 0 rfl d_Face_function_240 ?_
      refine g_get X ck_0 fo_0 (fa_xn fo_0 (by decide) hN) 6 (by decide) wd_633 rfl (fr_0_6 rfl hT) d_Face_function_241 ?_
      refine g_getN X ck_7 (fa_scs _) (fa_xn (fa_scs _) (by decide) hN) 2 (by decide) wd_394 rfl (fa_fvR rfl (fa_xt (fa_scs _) (by decide) hT 2)) d_Face_function_244 ?_
      refine g_aload_n X 0 rfl d_Face_function_247 ?_
      refine g_get X ck_0 fo_0 (fa_xn fo_0 (by decide) hN) 6 (by decide) wd_633 rfl (fr_0_6 rfl hT) d_Face_function_248 ?_
      refine g_getN X ck_7 (fa_scs _) (fa_xn (fa_scs _) (by decide) hN) 0 (by decide) wd_385 rfl (fa_fvR rfl (fa_xt (fa_scs _) (by decide) hT 0)) d_Face_function_251 ?_
      refine g_callV_i X ck_1 (fa_r7_2 _ (fa_scs _)) (fa_xn (fa_r7_2 _ (fa_scs _)) (by decide) hN) rfl mi_Flow_escapes (c_Flow_escapes hN hT (fa_rf (fa_sc (w3 0 6)) 2) (fa_rf (fa_sc (w3 0 6)) 0) (fa_r7_2 _ (fa_scs _)) (fa_r7_0 _ (fa_scs _)) w3 _ rfl) wd_919 rfl (Nat.le_trans (Nat.le_of_ble_eq_true rfl) hle) (st := []) (Nat.le_of_ble_eq_true rfl) rfl d_Face_function_254 ?_
      refine g_iload_n X 1 rfl d_Face_function_257 ?_
      refine g_callS_i X mi_Face_hasBit (c_Face_hasBit hN hT (fm_Flow_escapes (fa_rf (fa_sc (w3 0 6)) 2) (fa_rf (fa_sc (w3 0 6)) 0) w3) a1 w3 _ rfl) wd_944 rfl (Nat.le_trans (Nat.le_of_ble_eq_true rfl) hle) (st := []) (Nat.le_of_ble_eq_true rfl) rfl d_Face_function_258 ?_
      refine g_callS_i X mi_Face_oneIf (c_Face_oneIf hN hT (fm_Face_hasBit (fm_Flow_escapes (fa_rf (fa_sc (w3 0 6)) 2) (fa_rf (fa_sc (w3 0 6)) 0) w3) a1 w3) w3 _ rfl) wd_1204 rfl (Nat.le_trans (Nat.le_of_ble_eq_true rfl) hle) (st := []) (Nat.le_of_ble_eq_true rfl) rfl d_Face_function_261 ?_
      cases hM
      exact g_iret X d_Face_function_264
    have hM := fa_if_f hM hc34
    by_cases hc38 : fa_wr a2 = 12
    · have hM := fa_if_t hM hc38
      refine g_tableIn X 12 265 d_Face_function_6 hc38 (by decide) (by decide) rfl (by decide) ?_
      refine g_aload_n X 0 rfl d_Face_function_265 ?_
      refine g_get X ck_0 fo_0 (fa_xn fo_0 (by decide) hN) 6 (by decide) wd_633 rfl (fr_0_6 rfl hT) d_Face_function_266 ?_
      refine g_getN X ck_7 (fa_scs _) (fa_xn (fa_scs _) (by decide) hN) 2 (by decide) wd_394 rfl (fa_fvR rfl (fa_xt (fa_scs _) (by decide) hT 2)) d_Face_function_269 ?_
      refine g_aload_n X 0 rfl d_Face_function_272 ?_
      refine g_get X ck_0 fo_0 (fa_xn fo_0 (by decide) hN) 6 (by decide) wd_633 rfl (fr_0_6 rfl hT) d_Face_function_273 ?_
      refine g_getN X ck_7 (fa_scs _) (fa_xn (fa_scs _) (by decide) hN) 0 (by decide) wd_385 rfl (fa_fvR rfl (fa_xt (fa_scs _) (by decide) hT 0)) d_Face_function_276 ?_
      refine g_iload_n X 1 rfl d_Face_function_279 ?_
      obtain ⟨v40, e39, hM⟩ := fa_ob hM
      refine g_callV_i X ck_1 (fa_r7_2 _ (fa_scs _)) (fa_xn (fa_r7_2 _ (fa_scs _)) (by decide) hN) rfl mi_Flow_countSitesOf (c_Flow_countSitesOf hN hT (fa_rf (fa_sc (w3 0 6)) 2) (fa_rf (fa_sc (w3 0 6)) 0) a1 (fa_r7_2 _ (fa_scs _)) (fa_r7_0 _ (fa_scs _)) w3 _ e39) wd_1209 rfl (Nat.le_trans (Nat.le_of_ble_eq_true rfl) hle) (st := []) (Nat.le_of_ble_eq_true rfl) rfl d_Face_function_280 ?_
      cases hM
      exact g_iret X d_Face_function_283
    have hM := fa_if_f hM hc38
    refine g_tableDef X 284 d_Face_function_6 (by
    exact Or.inl (by omega)) (by decide) ?_
    exact absurd (fa_c3 hM) (by decide)
  · have hM := fa_if_f hM hk4
    exact absurd (fa_c3 hM) hk4
set_option maxHeartbeats 4000000 in
set_option maxRecDepth 100000 in
theorem cx_Face_function {l : Launch} {D : va_G} {b : Nat} {aC : Nat → ClassId} {H0 : Heap} {N T : Nat} (hN : fa_NX ≤ N) (hT : fa_TX ≤ T) (a1 : Int) (a2 : Int) (hfl : l.stackTraces = false) (w : fa_W) (rv : Int) (rw : fa_W) (kk : Int) (hk : kk ≠ 0) (hM : fm_Face_function a1 a2 w = some (kk, rv, rw)) : fa_MX l D b aC H0 N T y_Face_function prog_1_method_8_code 3 ((Option.some Jvm.ClassFile.FieldType.int)) (7) [.ref (b + 0), .int (fa_I a1), .int (fa_I a2)] w kk rw := by
  refine fa_xenter (lv := [(0, .ref (b + 0)), (1, .int (fa_I a1)), (2, .int (fa_I a2))]) (by decide +kernel) (Nat.le_of_ble_eq_true rfl) rfl (fun hh hle hnx X => ?_)
  unfold fm_Face_function at hM
  refine g_aload_n X 0 rfl d_Face_function_0 ?_
  refine g_iload_n X 1 rfl d_Face_function_1 ?_
  obtain ⟨k2, w3, e1, hM⟩ := fa_obd hM
  by_cases hk4 : k2 = 0
  · replace hM := fa_if_t hM hk4
    subst hk4
    refine g_callV_v X ck_0 fo_0 (fa_xn fo_0 (by decide) hN) rfl mi_Face_needFunction (c_Face_needFunction hN hT a1 w _ e1) wd_1180 rfl (Nat.le_trans (Nat.le_of_ble_eq_true rfl) hle) (st := []) (Nat.le_of_ble_eq_true rfl) rfl d_Face_function_2 ?_
    refine g_iload_n X 2 rfl d_Face_function_5 ?_
    by_cases hc5 : fa_wr a2 = 0
    · have hM := fa_if_t hM hc5
      refine g_tableIn X 0 72 d_Face_function_6 hc5 (by decide) (by decide) rfl (by decide) ?_
      refine g_aload_n X 0 rfl d_Face_function_72 ?_
      refine g_get X ck_0 fo_0 (fa_xn fo_0 (by decide) hN) 6 (by decide) wd_633 rfl (fr_0_6 rfl hT) d_Face_function_73 ?_
      refine g_getN X ck_7 (fa_scs _) (fa_xn (fa_scs _) (by decide) hN) 0 (by decide) wd_385 rfl (fa_fvR rfl (fa_xt (fa_scs _) (by decide) hT 0)) d_Face_function_76 ?_
      refine g_iload_n X 1 rfl d_Face_function_79 ?_
      refine g_callV_i X ck_4 (fa_r7_0 _ (fa_scs _)) (fa_xn (fa_r7_0 _ (fa_scs _)) (by decide) hN) rfl mi_Program_home (c_Program_home hN hT (fa_rf (fa_sc (w3 0 6)) 0) a1 (fa_r7_0 _ (fa_scs _)) w3 _ rfl) wd_1200 rfl (Nat.le_trans (Nat.le_of_ble_eq_true rfl) hle) (st := []) (Nat.le_of_ble_eq_true rfl) rfl d_Face_function_80 ?_
      exact absurd (fa_c3 hM).symm hk
    have hM := fa_if_f hM hc5
    by_cases hc7 : fa_wr a2 = 1
    · have hM := fa_if_t hM hc7
      refine g_tableIn X 1 84 d_Face_function_6 hc7 (by decide) (by decide) rfl (by decide) ?_
      refine g_iload_n X 1 rfl d_Face_function_84 ?_
      refine g_aload_n X 0 rfl d_Face_function_85 ?_
      refine g_get X ck_0 fo_0 (fa_xn fo_0 (by decide) hN) 6 (by decide) wd_633 rfl (fr_0_6 rfl hT) d_Face_function_86 ?_
      refine g_getN X ck_7 (fa_scs _) (fa_xn (fa_scs _) (by decide) hN) 0 (by decide) wd_385 rfl (fa_fvR rfl (fa_xt (fa_scs _) (by decide) hT 0)) d_Face_function_89 ?_
      refine g_getN X ck_4 (fa_r7_0 _ (fa_scs _)) (fa_xn (fa_r7_0 _ (fa_scs _)) (by decide) hN) 13 (by decide) wd_95 rfl (fa_fvI rfl) d_Face_function_92 ?_
      refine g_icmp_ge X 102 d_Face_function_95 (by decide) (fun hc8 => ?_) (fun hc8 => ?_)
      · have hM := fa_if_t hM hc8
        refine g_iconst X d_Face_function_102 ?_
        exact absurd (fa_c3 hM).symm hk
      · have hM := fa_if_f hM hc8
        refine g_iconst X d_Face_function_98 ?_
        refine g_goto X 103 d_Face_function_99 (by decide) ?_
        exact absurd (fa_c3 hM).symm hk
    have hM := fa_if_f hM hc7
    by_cases hc9 : fa_wr a2 = 2
    · have hM := fa_if_t hM hc9
      refine g_tableIn X 2 104 d_Face_function_6 hc9 (by decide) (by decide) rfl (by decide) ?_
      refine g_aload_n X 0 rfl d_Face_function_104 ?_
      refine g_get X ck_0 fo_0 (fa_xn fo_0 (by decide) hN) 6 (by decide) wd_633 rfl (fr_0_6 rfl hT) d_Face_function_105 ?_
      refine g_getN X ck_7 (fa_scs _) (fa_xn (fa_scs _) (by decide) hN) 2 (by decide) wd_394 rfl (fa_fvR rfl (fa_xt (fa_scs _) (by decide) hT 2)) d_Face_function_108 ?_
      refine g_getN X ck_1 (fa_r7_2 _ (fa_scs _)) (fa_xn (fa_r7_2 _ (fa_scs _)) (by decide) hN) 5 (by decide) wd_343 rfl (fa_fvI rfl) d_Face_function_111 ?_
      refine g_iload_n X 1 rfl d_Face_function_114 ?_
      refine g_callS_i X mi_Face_hasBit (c_Face_hasBit hN hT (w3 (fa_rf (fa_sc (w3 0 6)) 2) 5) a1 w3 _ rfl) wd_944 rfl (Nat.le_trans (Nat.le_of_ble_eq_true rfl) hle) (st := []) (Nat.le_of_ble_eq_true rfl) rfl d_Face_function_115 ?_
      refine g_callS_i X mi_Face_oneIf (c_Face_oneIf hN hT (fm_Face_hasBit (w3 (fa_rf (fa_sc (w3 0 6)) 2) 5) a1 w3) w3 _ rfl) wd_1204 rfl (Nat.le_trans (Nat.le_of_ble_eq_true rfl) hle) (st := []) (Nat.le_of_ble_eq_true rfl) rfl d_Face_function_118 ?_
      exact absurd (fa_c3 hM).symm hk
    have hM := fa_if_f hM hc9
    by_cases hc12 : fa_wr a2 = 3
    · have hM := fa_if_t hM hc12
      refine g_tableIn X 3 122 d_Face_function_6 hc12 (by decide) (by decide) rfl (by decide) ?_
      refine g_aload_n X 0 rfl d_Face_function_122 ?_
      refine g_get X ck_0 fo_0 (fa_xn fo_0 (by decide) hN) 6 (by decide) wd_633 rfl (fr_0_6 rfl hT) d_Face_function_123 ?_
      refine g_getN X ck_7 (fa_scs _) (fa_xn (fa_scs _) (by decide) hN) 2 (by decide) wd_394 rfl (fa_fvR rfl (fa_xt (fa_scs _) (by decide) hT 2)) d_Face_function_126 ?_
      refine g_getN X ck_1 (fa_r7_2 _ (fa_scs _)) (fa_xn (fa_r7_2 _ (fa_scs _)) (by decide) hN) 6 (by decide) wd_347 rfl (fa_fvI rfl) d_Face_function_129 ?_
      refine g_iload_n X 1 rfl d_Face_function_132 ?_
      refine g_callS_i X mi_Face_hasBit (c_Face_hasBit hN hT (w3 (fa_rf (fa_sc (w3 0 6)) 2) 6) a1 w3 _ rfl) wd_944 rfl (Nat.le_trans (Nat.le_of_ble_eq_true rfl) hle) (st := []) (Nat.le_of_ble_eq_true rfl) rfl d_Face_function_133 ?_
      refine g_callS_i X mi_Face_oneIf (c_Face_oneIf hN hT (fm_Face_hasBit (w3 (fa_rf (fa_sc (w3 0 6)) 2) 6) a1 w3) w3 _ rfl) wd_1204 rfl (Nat.le_trans (Nat.le_of_ble_eq_true rfl) hle) (st := []) (Nat.le_of_ble_eq_true rfl) rfl d_Face_function_136 ?_
      exact absurd (fa_c3 hM).symm hk
    have hM := fa_if_f hM hc12
    by_cases hc15 : fa_wr a2 = 4
    · have hM := fa_if_t hM hc15
      refine g_tableIn X 4 140 d_Face_function_6 hc15 (by decide) (by decide) rfl (by decide) ?_
      refine g_aload_n X 0 rfl d_Face_function_140 ?_
      refine g_get X ck_0 fo_0 (fa_xn fo_0 (by decide) hN) 6 (by decide) wd_633 rfl (fr_0_6 rfl hT) d_Face_function_141 ?_
      refine g_getN X ck_7 (fa_scs _) (fa_xn (fa_scs _) (by decide) hN) 2 (by decide) wd_394 rfl (fa_fvR rfl (fa_xt (fa_scs _) (by decide) hT 2)) d_Face_function_144 ?_
      refine g_getN X ck_1 (fa_r7_2 _ (fa_scs _)) (fa_xn (fa_r7_2 _ (fa_scs _)) (by decide) hN) 1 (by decide) wd_335 rfl (fa_fvR rfl (fa_xt (fa_r7_2 _ (fa_scs _)) (by decide) hT 1)) d_Face_function_147 ?_
      refine g_iload_n X 1 rfl d_Face_function_150 ?_
      refine g_callV_i X ck_6 (fa_r1_1 _ (fa_r7_2 _ (fa_scs _))) (fa_xn (fa_r1_1 _ (fa_r7_2 _ (fa_scs _))) (by decide) hN) rfl mi_Row_bits (ct_Row_bits (fa_rf (fa_rf (fa_sc (w3 0 6)) 2) 1) a1 (fa_ro (fa_r1_1 _ (fa_r7_2 _ (fa_scs _))) hN hT) w3 _ rfl) wd_1205 rfl (Nat.le_trans (Nat.le_of_ble_eq_true rfl) hle) (st := []) (Nat.le_of_ble_eq_true rfl) rfl d_Face_function_151 ?_
      exact absurd (fa_c3 hM).symm hk
    have hM := fa_if_f hM hc15
    by_cases hc17 : fa_wr a2 = 5
    · have hM := fa_if_t hM hc17
      refine g_tableIn X 5 155 d_Face_function_6 hc17 (by decide) (by decide) rfl (by decide) ?_
      refine g_aload_n X 0 rfl d_Face_function_155 ?_
      refine g_get X ck_0 fo_0 (fa_xn fo_0 (by decide) hN) 6 (by decide) wd_633 rfl (fr_0_6 rfl hT) d_Face_function_156 ?_
      refine g_getN X ck_7 (fa_scs _) (fa_xn (fa_scs _) (by decide) hN) 2 (by decide) wd_394 rfl (fa_fvR rfl (fa_xt (fa_scs _) (by decide) hT 2)) d_Face_function_159 ?_
      refine g_aload_n X 0 rfl d_Face_function_162 ?_
      refine g_get X ck_0 fo_0 (fa_xn fo_0 (by decide) hN) 6 (by decide) wd_633 rfl (fr_0_6 rfl hT) d_Face_function_163 ?_
      refine g_getN X ck_7 (fa_scs _) (fa_xn (fa_scs _) (by decide) hN) 0 (by decide) wd_385 rfl (fa_fvR rfl (fa_xt (fa_scs _) (by decide) hT 0)) d_Face_function_166 ?_
      refine g_iload_n X 1 rfl d_Face_function_169 ?_
      refine g_callV_i X ck_1 (fa_r7_2 _ (fa_scs _)) (fa_xn (fa_r7_2 _ (fa_scs _)) (by decide) hN) rfl mi_Flow_comesOfBody (c_Flow_comesOfBody hN hT (fa_rf (fa_sc (w3 0 6)) 2) (fa_rf (fa_sc (w3 0 6)) 0) a1 (fa_r7_2 _ (fa_scs _)) (fa_r7_0 _ (fa_scs _)) w3 _ rfl) wd_1206 rfl (Nat.le_trans (Nat.le_of_ble_eq_true rfl) hle) (st := []) (Nat.le_of_ble_eq_true rfl) rfl d_Face_function_170 ?_
      exact absurd (fa_c3 hM).symm hk
    have hM := fa_if_f hM hc17
    by_cases hc19 : fa_wr a2 = 6
    · have hM := fa_if_t hM hc19
      refine g_tableIn X 6 174 d_Face_function_6 hc19 (by decide) (by decide) rfl (by decide) ?_
      refine g_aload_n X 0 rfl d_Face_function_174 ?_
      refine g_aload_n X 0 rfl d_Face_function_175 ?_
      refine g_get X ck_0 fo_0 (fa_xn fo_0 (by decide) hN) 6 (by decide) wd_633 rfl (fr_0_6 rfl hT) d_Face_function_176 ?_
      refine g_getN X ck_7 (fa_scs _) (fa_xn (fa_scs _) (by decide) hN) 0 (by decide) wd_385 rfl (fa_fvR rfl (fa_xt (fa_scs _) (by decide) hT 0)) d_Face_function_179 ?_
      refine g_iload_n X 1 rfl d_Face_function_182 ?_
      obtain ⟨v21, w22, e20, hM⟩ := fa_obd hM
      refine g_callV_i X ck_0 fo_0 (fa_xn fo_0 (by decide) hN) rfl mi_Face_countFields (c_Face_countFields hN hT (fa_rf (fa_sc (w3 0 6)) 0) a1 (fa_r7_0 _ (fa_scs _)) w3 _ e20) wd_945 rfl (Nat.le_trans (Nat.le_of_ble_eq_true rfl) hle) (st := []) (Nat.le_of_ble_eq_true rfl) rfl d_Face_function_183 ?_
      exact absurd (fa_c3 hM).symm hk
    have hM := fa_if_f hM hc19
    by_cases hc23 : fa_wr a2 = 7
    · have hM := fa_if_t hM hc23
      refine g_tableIn X 7 187 d_Face_function_6 hc23 (by decide) (by decide) rfl (by decide) ?_
      refine g_aload_n X 0 rfl d_Face_function_187 ?_
      refine g_get X ck_0 fo_0 (fa_xn fo_0 (by decide) hN) 6 (by decide) wd_633 rfl (fr_0_6 rfl hT) d_Face_function_188 ?_
      refine g_getN X ck_7 (fa_scs _) (fa_xn (fa_scs _) (by decide) hN) 3 (by decide) wd_398 rfl (fa_fvR rfl (fa_xt (fa_scs _) (by decide) hT 3)) d_Face_function_191 ?_
      refine g_iconst X d_Face_function_194 ?_
      refine g_iload_n X 1 rfl d_Face_function_195 ?_
      obtain ⟨v25, e24, hM⟩ := fa_ob hM
      refine g_callV_i X ck_2 (fa_r7_3 _ (fa_scs _)) (fa_xn (fa_r7_3 _ (fa_scs _)) (by decide) hN) rfl mi_Groups_groupOf (c_Groups_groupOf hN hT (fa_rf (fa_sc (w3 0 6)) 3) 2 a1 (fa_r7_3 _ (fa_scs _)) w3 _ e24) wd_1207 rfl (Nat.le_trans (Nat.le_of_ble_eq_true rfl) hle) (st := []) (Nat.le_of_ble_eq_true rfl) rfl d_Face_function_196 ?_
      exact absurd (fa_c3 hM).symm hk
    have hM := fa_if_f hM hc23
    by_cases hc26 : fa_wr a2 = 8
    · have hM := fa_if_t hM hc26
      refine g_tableIn X 8 200 d_Face_function_6 hc26 (by decide) (by decide) rfl (by decide) ?_
      refine g_aload_n X 0 rfl d_Face_function_200 ?_
      refine g_get X ck_0 fo_0 (fa_xn fo_0 (by decide) hN) 6 (by decide) wd_633 rfl (fr_0_6 rfl hT) d_Face_function_201 ?_
      refine g_getN X ck_7 (fa_scs _) (fa_xn (fa_scs _) (by decide) hN) 3 (by decide) wd_398 rfl (fa_fvR rfl (fa_xt (fa_scs _) (by decide) hT 3)) d_Face_function_204 ?_
      refine g_iconst X d_Face_function_207 ?_
      refine g_iload_n X 1 rfl d_Face_function_208 ?_
      obtain ⟨v28, e27, hM⟩ := fa_ob hM
      refine g_callV_i X ck_2 (fa_r7_3 _ (fa_scs _)) (fa_xn (fa_r7_3 _ (fa_scs _)) (by decide) hN) rfl mi_Groups_groupOf (c_Groups_groupOf hN hT (fa_rf (fa_sc (w3 0 6)) 3) 1 a1 (fa_r7_3 _ (fa_scs _)) w3 _ e27) wd_1207 rfl (Nat.le_trans (Nat.le_of_ble_eq_true rfl) hle) (st := []) (Nat.le_of_ble_eq_true rfl) rfl d_Face_function_209 ?_
      exact absurd (fa_c3 hM).symm hk
    have hM := fa_if_f hM hc26
    by_cases hc29 : fa_wr a2 = 9
    · have hM := fa_if_t hM hc29
      refine g_tableIn X 9 213 d_Face_function_6 hc29 (by decide) (by decide) rfl (by decide) ?_
      refine g_aload_n X 0 rfl d_Face_function_213 ?_
      refine g_get X ck_0 fo_0 (fa_xn fo_0 (by decide) hN) 6 (by decide) wd_633 rfl (fr_0_6 rfl hT) d_Face_function_214 ?_
      refine g_getN X ck_7 (fa_scs _) (fa_xn (fa_scs _) (by decide) hN) 2 (by decide) wd_394 rfl (fa_fvR rfl (fa_xt (fa_scs _) (by decide) hT 2)) d_Face_function_217 ?_
      refine g_getN X ck_1 (fa_r7_2 _ (fa_scs _)) (fa_xn (fa_r7_2 _ (fa_scs _)) (by decide) hN) 2 (by decide) wd_337 rfl (fa_fvR rfl (fa_xt (fa_r7_2 _ (fa_scs _)) (by decide) hT 2)) d_Face_function_220 ?_
      refine g_iload_n X 1 rfl d_Face_function_223 ?_
      refine g_callV_i X ck_6 (fa_r1_2 _ (fa_r7_2 _ (fa_scs _))) (fa_xn (fa_r1_2 _ (fa_r7_2 _ (fa_scs _))) (by decide) hN) rfl mi_Row_bits (ct_Row_bits (fa_rf (fa_rf (fa_sc (w3 0 6)) 2) 2) a1 (fa_ro (fa_r1_2 _ (fa_r7_2 _ (fa_scs _))) hN hT) w3 _ rfl) wd_1205 rfl (Nat.le_trans (Nat.le_of_ble_eq_true rfl) hle) (st := []) (Nat.le_of_ble_eq_true rfl) rfl d_Face_function_224 ?_
      exact absurd (fa_c3 hM).symm hk
    have hM := fa_if_f hM hc29
    by_cases hc31 : fa_wr a2 = 10
    · have hM := fa_if_t hM hc31
      refine g_tableIn X 10 228 d_Face_function_6 hc31 (by decide) (by decide) rfl (by decide) ?_
      refine g_aload_n X 0 rfl d_Face_function_228 ?_
      refine g_get X ck_0 fo_0 (fa_xn fo_0 (by decide) hN) 6 (by decide) wd_633 rfl (fr_0_6 rfl hT) d_Face_function_229 ?_
      refine g_getN X ck_7 (fa_scs _) (fa_xn (fa_scs _) (by decide) hN) 2 (by decide) wd_394 rfl (fa_fvR rfl (fa_xt (fa_scs _) (by decide) hT 2)) d_Face_function_232 ?_
      refine g_iload_n X 1 rfl d_Face_function_235 ?_
      obtain ⟨v33, e32, hM⟩ := fa_ob hM
      refine g_callV_i X ck_1 (fa_r7_2 _ (fa_scs _)) (fa_xn (fa_r7_2 _ (fa_scs _)) (by decide) hN) rfl mi_Flow_ringOf (c_Flow_ringOf hN hT (fa_rf (fa_sc (w3 0 6)) 2) a1 (fa_r7_2 _ (fa_scs _)) w3 _ e32) wd_1208 rfl (Nat.le_trans (Nat.le_of_ble_eq_true rfl) hle) (st := []) (Nat.le_of_ble_eq_true rfl) rfl d_Face_function_236 ?_
      exact absurd (fa_c3 hM).symm hk
    have hM := fa_if_f hM hc31
    by_cases hc34 : fa_wr a2 = 11
    · have hM := fa_if_t hM hc34
      refine g_tableIn X 11 240 d_Face_function_6 hc34 (by decide) (by decide) rfl (by decide) ?_
      refine g_aload_n X 0 rfl d_Face_function_240 ?_
      refine g_get X ck_0 fo_0 (fa_xn fo_0 (by decide) hN) 6 (by decide) wd_633 rfl (fr_0_6 rfl hT) d_Face_function_241 ?_
      refine g_getN X ck_7 (fa_scs _) (fa_xn (fa_scs _) (by decide) hN) 2 (by decide) wd_394 rfl (fa_fvR rfl (fa_xt (fa_scs _) (by decide) hT 2)) d_Face_function_244 ?_
      refine g_aload_n X 0 rfl d_Face_function_247 ?_
      refine g_get X ck_0 fo_0 (fa_xn fo_0 (by decide) hN) 6 (by decide) wd_633 rfl (fr_0_6 rfl hT) d_Face_function_248 ?_
      refine g_getN X ck_7 (fa_scs _) (fa_xn (fa_scs _) (by decide) hN) 0 (by decide) wd_385 rfl (fa_fvR rfl (fa_xt (fa_scs _) (by decide) hT 0)) d_Face_function_251 ?_
      refine g_callV_i X ck_1 (fa_r7_2 _ (fa_scs _)) (fa_xn (fa_r7_2 _ (fa_scs _)) (by decide) hN) rfl mi_Flow_escapes (c_Flow_escapes hN hT (fa_rf (fa_sc (w3 0 6)) 2) (fa_rf (fa_sc (w3 0 6)) 0) (fa_r7_2 _ (fa_scs _)) (fa_r7_0 _ (fa_scs _)) w3 _ rfl) wd_919 rfl (Nat.le_trans (Nat.le_of_ble_eq_true rfl) hle) (st := []) (Nat.le_of_ble_eq_true rfl) rfl d_Face_function_254 ?_
      refine g_iload_n X 1 rfl d_Face_function_257 ?_
      refine g_callS_i X mi_Face_hasBit (c_Face_hasBit hN hT (fm_Flow_escapes (fa_rf (fa_sc (w3 0 6)) 2) (fa_rf (fa_sc (w3 0 6)) 0) w3) a1 w3 _ rfl) wd_944 rfl (Nat.le_trans (Nat.le_of_ble_eq_true rfl) hle) (st := []) (Nat.le_of_ble_eq_true rfl) rfl d_Face_function_258 ?_
      refine g_callS_i X mi_Face_oneIf (c_Face_oneIf hN hT (fm_Face_hasBit (fm_Flow_escapes (fa_rf (fa_sc (w3 0 6)) 2) (fa_rf (fa_sc (w3 0 6)) 0) w3) a1 w3) w3 _ rfl) wd_1204 rfl (Nat.le_trans (Nat.le_of_ble_eq_true rfl) hle) (st := []) (Nat.le_of_ble_eq_true rfl) rfl d_Face_function_261 ?_
      exact absurd (fa_c3 hM).symm hk
    have hM := fa_if_f hM hc34
    by_cases hc38 : fa_wr a2 = 12
    · have hM := fa_if_t hM hc38
      refine g_tableIn X 12 265 d_Face_function_6 hc38 (by decide) (by decide) rfl (by decide) ?_
      refine g_aload_n X 0 rfl d_Face_function_265 ?_
      refine g_get X ck_0 fo_0 (fa_xn fo_0 (by decide) hN) 6 (by decide) wd_633 rfl (fr_0_6 rfl hT) d_Face_function_266 ?_
      refine g_getN X ck_7 (fa_scs _) (fa_xn (fa_scs _) (by decide) hN) 2 (by decide) wd_394 rfl (fa_fvR rfl (fa_xt (fa_scs _) (by decide) hT 2)) d_Face_function_269 ?_
      refine g_aload_n X 0 rfl d_Face_function_272 ?_
      refine g_get X ck_0 fo_0 (fa_xn fo_0 (by decide) hN) 6 (by decide) wd_633 rfl (fr_0_6 rfl hT) d_Face_function_273 ?_
      refine g_getN X ck_7 (fa_scs _) (fa_xn (fa_scs _) (by decide) hN) 0 (by decide) wd_385 rfl (fa_fvR rfl (fa_xt (fa_scs _) (by decide) hT 0)) d_Face_function_276 ?_
      refine g_iload_n X 1 rfl d_Face_function_279 ?_
      obtain ⟨v40, e39, hM⟩ := fa_ob hM
      refine g_callV_i X ck_1 (fa_r7_2 _ (fa_scs _)) (fa_xn (fa_r7_2 _ (fa_scs _)) (by decide) hN) rfl mi_Flow_countSitesOf (c_Flow_countSitesOf hN hT (fa_rf (fa_sc (w3 0 6)) 2) (fa_rf (fa_sc (w3 0 6)) 0) a1 (fa_r7_2 _ (fa_scs _)) (fa_r7_0 _ (fa_scs _)) w3 _ e39) wd_1209 rfl (Nat.le_trans (Nat.le_of_ble_eq_true rfl) hle) (st := []) (Nat.le_of_ble_eq_true rfl) rfl d_Face_function_280 ?_
      exact absurd (fa_c3 hM).symm hk
    have hM := fa_if_f hM hc38
    refine g_tableDef X 284 d_Face_function_6 (by
    exact Or.inl (by omega)) (by decide) ?_
    cases hM
    exact g_throwS X hnx hfl (k := 2) (by decide) (names := ["java/lang/RuntimeException", "java/lang/Exception"]) dx_2_0 dx_2_1 dx_2_2 dx_2_5 (by decide +kernel) (by decide +kernel) wd_1213 wd_20 (List.mem_of_getElem? (i := 24) rfl) ax_2 ay_2 d_Face_function_284 d_Face_function_287 d_Face_function_288 d_Face_function_290 d_Face_function_293 (Nat.le_trans (Nat.le_of_ble_eq_true rfl) hle) (Nat.le_of_ble_eq_true rfl)
  · have hM := fa_if_f hM hk4
    cases hM
    exact g_xcallV X hnx ck_0 fo_0 (fa_xn fo_0 (by decide) hN) rfl mi_Face_needFunction (cx_Face_needFunction hN hT a1 hfl w _ _ hk4 e1) wd_1180 rfl (Nat.le_trans (Nat.le_of_ble_eq_true rfl) hle) (st := []) (Nat.le_of_ble_eq_true rfl) rfl d_Face_function_2
theorem d_Face_field_0 : decode prog_1_method_11_code 0 = .ok (.aload_n 0, 1) := by decide +kernel
theorem d_Face_field_1 : decode prog_1_method_11_code 1 = .ok (.iload_n 1, 1) := by decide +kernel
theorem d_Face_field_2 : decode prog_1_method_11_code 2 = .ok (.invokevirtual 124, 3) := by decide +kernel
theorem d_Face_field_5 : decode prog_1_method_11_code 5 = .ok (.aload_n 0, 1) := by decide +kernel
theorem d_Face_field_6 : decode prog_1_method_11_code 6 = .ok (.getfield 50, 3) := by decide +kernel
theorem d_Face_field_9 : decode prog_1_method_11_code 9 = .ok (.getfield 61, 3) := by decide +kernel
theorem d_Face_field_12 : decode prog_1_method_11_code 12 = .ok (.iload_n 1, 1) := by decide +kernel
theorem d_Face_field_13 : decode prog_1_method_11_code 13 = .ok (.aload_n 0, 1) := by decide +kernel
theorem d_Face_field_14 : decode prog_1_method_11_code 14 = .ok (.getfield 21, 3) := by decide +kernel
theorem d_Face_field_17 : decode prog_1_method_11_code 17 = .ok (.invokevirtual 200, 3) := by decide +kernel
theorem d_Face_field_20 : decode prog_1_method_11_code 20 = .ok (.iload_n 2, 1) := by decide +kernel
theorem d_Face_field_21 : decode prog_1_method_11_code 21 = .ok (.ifCond .lt 14, 3) := by decide +kernel
theorem d_Face_field_24 : decode prog_1_method_11_code 24 = .ok (.iload_n 2, 1) := by decide +kernel
theorem d_Face_field_25 : decode prog_1_method_11_code 25 = .ok (.aload_n 0, 1) := by decide +kernel
theorem d_Face_field_26 : decode prog_1_method_11_code 26 = .ok (.getfield 21, 3) := by decide +kernel
theorem d_Face_field_29 : decode prog_1_method_11_code 29 = .ok (.invokevirtual 74, 3) := by decide +kernel
theorem d_Face_field_32 : decode prog_1_method_11_code 32 = .ok (.if_icmp .lt 13, 3) := by decide +kernel
theorem d_Face_field_35 : decode prog_1_method_11_code 35 = .ok (.new 190, 3) := by decide +kernel
theorem d_Face_field_38 : decode prog_1_method_11_code 38 = .ok (.dup, 1) := by decide +kernel
theorem d_Face_field_39 : decode prog_1_method_11_code 39 = .ok (.ldc 204, 2) := by decide +kernel
theorem d_Face_field_41 : decode prog_1_method_11_code 41 = .ok (.invokespecial 194, 3) := by decide +kernel
theorem d_Face_field_44 : decode prog_1_method_11_code 44 = .ok (.athrow, 1) := by decide +kernel
theorem d_Face_field_45 : decode prog_1_method_11_code 45 = .ok (.aload_n 0, 1) := by decide +kernel
theorem d_Face_field_46 : decode prog_1_method_11_code 46 = .ok (.getfield 36, 3) := by decide +kernel
theorem d_Face_field_49 : decode prog_1_method_11_code 49 = .ok (.aload_n 0, 1) := by decide +kernel
theorem d_Face_field_50 : decode prog_1_method_11_code 50 = .ok (.getfield 50, 3) := by decide +kernel
theorem d_Face_field_53 : decode prog_1_method_11_code 53 = .ok (.getfield 61, 3) := by decide +kernel
theorem d_Face_field_56 : decode prog_1_method_11_code 56 = .ok (.getfield 206, 3) := by decide +kernel
theorem d_Face_field_59 : decode prog_1_method_11_code 59 = .ok (.aload_n 0, 1) := by decide +kernel
theorem d_Face_field_60 : decode prog_1_method_11_code 60 = .ok (.getfield 21, 3) := by decide +kernel
theorem d_Face_field_63 : decode prog_1_method_11_code 63 = .ok (.iload_n 2, 1) := by decide +kernel
theorem d_Face_field_64 : decode prog_1_method_11_code 64 = .ok (.invokevirtual 209, 3) := by decide +kernel
theorem d_Face_field_67 : decode prog_1_method_11_code 67 = .ok (.invokevirtual 209, 3) := by decide +kernel
theorem d_Face_field_70 : decode prog_1_method_11_code 70 = .ok (.invokevirtual 212, 3) := by decide +kernel
theorem d_Face_field_73 : decode prog_1_method_11_code 73 = .ok (.ireturn, 1) := by decide +kernel
def fm_Face_field_j35 (a1 : Int) (a2 : Int) (w : fa_W) : Option (Int × Int × fa_W) :=
  some (2, 0, w)
set_option maxHeartbeats 4000000 in
set_option maxRecDepth 100000 in
theorem c_Face_field_j35 {p : Program} {l : Launch} {e : Env} {s : State} {m : MethodId} {args : Array Value} {below : List Frame} {meth : Method} {c : Code} {hh : Nat} {D : va_G} {b : Nat} {aC : Nat → ClassId} {H0 : Heap} {N T : Nat} (X : fa_GX p s m args meth c prog_1_method_11_code 3 ((Option.some Jvm.ClassFile.FieldType.int)) y_Face_field.cls D b aC) (hle : 7 ≤ hh) (hN : fa_NX ≤ N) (hT : fa_TX ≤ T) (a1 : Int) (a2 : Int) {rv : Int} {rw : fa_W}  : ∀ (w : fa_W) (_ : fm_Face_field_j35 a1 a2 w = some (0, rv, rw)), fa_GJ p l e (fa_rm hh) s m args below meth c 0 0 (MQ below (fa_Qc D b aC H0 N T (some (.int (fa_I rv))) rw) args s 0 0 (fun q => b ≤ q)) D b aC H0 N T 3 w 35 [] [] := by
  intro w hM
  unfold fm_Face_field_j35 at hM
  exact absurd (fa_c3 hM) (by decide)
def fm_Face_field (a1 : Int) (a2 : Int) (w : fa_W) : Option (Int × Int × fa_W) :=
  fa_bd (fm_Face_needFunction a1 w) fun k2 w3 =>
  if k2 = 0 then
  ((fm_Program_listFields (fa_rf (fa_sc (w3 0 6)) 0) a1 5 w3).bind fun w6 =>
  if fa_wr a2 < 0 then
  fm_Face_field_j35 a1 a2 w6
  else
  (if fa_wr a2 < fa_wr (fm_Row_size 5 w6) then
  (fa_bd (fm_Writer_showName (fr_at (fa_rf (fa_rf (fa_sc (w6 0 6)) 0) 6) (fr_at 5 a2 w6) w6) w6) fun v13 w14 =>
  some (0, v13, w14))
  else
  fm_Face_field_j35 a1 a2 w6))
  else
  some (k2, 0, w3)
set_option maxHeartbeats 4000000 in
set_option maxRecDepth 100000 in
theorem c_Face_field {l : Launch} {D : va_G} {b : Nat} {aC : Nat → ClassId} {H0 : Heap} {N T : Nat} (hN : fa_NX ≤ N) (hT : fa_TX ≤ T) (a1 : Int) (a2 : Int)  (w : fa_W) (rv : Int) (rw : fa_W) (hM : fm_Face_field a1 a2 w = some (0, rv, rw)) : fa_MC l D b aC H0 N T y_Face_field prog_1_method_11_code 3 ((Option.some Jvm.ClassFile.FieldType.int)) (7) [.ref (b + 0), .int (fa_I a1), .int (fa_I a2)] w (some (.int (fa_I rv))) rw := by
  refine fa_enter (lv := [(0, .ref (b + 0)), (1, .int (fa_I a1)), (2, .int (fa_I a2))]) (by decide +kernel) (Nat.le_of_ble_eq_true rfl) rfl (fun hh hle hnm X => ?_)
  unfold fm_Face_field at hM
  refine g_aload_n X 0 rfl d_Face_field_0 ?_
  refine g_iload_n X 1 rfl d_Face_field_1 ?_
  obtain ⟨k2, w3, e1, hM⟩ := fa_obd hM
  by_cases hk4 : k2 = 0
  · replace hM := fa_if_t hM hk4
    subst hk4
    refine g_callV_v X ck_0 fo_0 (fa_xn fo_0 (by decide) hN) rfl mi_Face_needFunction (c_Face_needFunction hN hT a1 w _ e1) wd_1180 rfl (Nat.le_trans (Nat.le_of_ble_eq_true rfl) hle) (st := []) (Nat.le_of_ble_eq_true rfl) rfl d_Face_field_2 ?_
    refine g_aload_n X 0 rfl d_Face_field_5 ?_
    refine g_get X ck_0 fo_0 (fa_xn fo_0 (by decide) hN) 6 (by decide) wd_633 rfl (fr_0_6 rfl hT) d_Face_field_6 ?_
    refine g_getN X ck_7 (fa_scs _) (fa_xn (fa_scs _) (by decide) hN) 0 (by decide) wd_385 rfl (fa_fvR rfl (fa_xt (fa_scs _) (by decide) hT 0)) d_Face_field_9 ?_
    refine g_iload_n X 1 rfl d_Face_field_12 ?_
    refine g_aload_n X 0 rfl d_Face_field_13 ?_
    refine g_get X ck_0 fo_0 (fa_xn fo_0 (by decide) hN) 2 (by decide) wd_629 rfl (fr_0_2 rfl hT) d_Face_field_14 ?_
    obtain ⟨w6, e5, hM⟩ := fa_ob hM
    refine g_callV_v X ck_4 (fa_r7_0 _ (fa_scs _)) (fa_xn (fa_r7_0 _ (fa_scs _)) (by decide) hN) rfl mi_Program_listFields (c_Program_listFields hN hT (fa_rf (fa_sc (w3 0 6)) 0) a1 5 (fa_r7_0 _ (fa_scs _)) fo_5 w3 _ e5) wd_949 rfl (Nat.le_trans (Nat.le_of_ble_eq_true rfl) hle) (st := []) (Nat.le_of_ble_eq_true rfl) rfl d_Face_field_17 ?_
    refine g_iload_n X 2 rfl d_Face_field_20 ?_
    refine g_if_lt X 35 d_Face_field_21 (by decide) (fun hc7 => ?_) (fun hc7 => ?_)
    · have hM := fa_if_t hM hc7
      exact g_lv [] rfl (c_Face_field_j35 X hle hN hT a1 a2    _ hM)
    · have hM := fa_if_f hM hc7
      refine g_iload_n X 2 rfl d_Face_field_24 ?_
      refine g_aload_n X 0 rfl d_Face_field_25 ?_
      refine g_get X ck_0 fo_0 (fa_xn fo_0 (by decide) hN) 2 (by decide) wd_629 rfl (fr_0_2 rfl hT) d_Face_field_26 ?_
      refine g_callV_i X ck_6 fo_5 (fa_xn fo_5 (by decide) hN) rfl mi_Row_size (c_Row_size 5 (fa_ro fo_5 hN hT) w6 _ rfl) wd_659 rfl (Nat.le_trans (Nat.le_of_ble_eq_true rfl) hle) (st := [.int (fa_I a2)]) (Nat.le_of_ble_eq_true rfl) rfl d_Face_field_29 ?_
      refine g_icmp_lt X 45 d_Face_field_32 (by decide) (fun hc9 => ?_) (fun hc9 => ?_)
      · have hM := fa_if_t hM hc9
        refine g_aload_n X 0 rfl d_Face_field_45 ?_
        refine g_get X ck_0 fo_0 (fa_xn fo_0 (by decide) hN) 4 (by decide) wd_631 rfl (fr_0_4 rfl hT) d_Face_field_46 ?_
        refine g_aload_n X 0 rfl d_Face_field_49 ?_
        refine g_get X ck_0 fo_0 (fa_xn fo_0 (by decide) hN) 6 (by decide) wd_633 rfl (fr_0_6 rfl hT) d_Face_field_50 ?_
        refine g_getN X ck_7 (fa_scs _) (fa_xn (fa_scs _) (by decide) hN) 0 (by decide) wd_385 rfl (fa_fvR rfl (fa_xt (fa_scs _) (by decide) hT 0)) d_Face_field_53 ?_
        refine g_getN X ck_4 (fa_r7_0 _ (fa_scs _)) (fa_xn (fa_r7_0 _ (fa_scs _)) (by decide) hN) 6 (by decide) wd_76 rfl (fa_fvR rfl (fa_xt (fa_r7_0 _ (fa_scs _)) (by decide) hT 6)) d_Face_field_56 ?_
        refine g_aload_n X 0 rfl d_Face_field_59 ?_
        refine g_get X ck_0 fo_0 (fa_xn fo_0 (by decide) hN) 2 (by decide) wd_629 rfl (fr_0_2 rfl hT) d_Face_field_60 ?_
        refine g_iload_n X 2 rfl d_Face_field_63 ?_
        refine g_callV_i X ck_6 fo_5 (fa_xn fo_5 (by decide) hN) rfl mi_Row_at (ct_Row_at 5 a2 (fa_ro fo_5 hN hT) w6 _ rfl) wd_678 rfl (Nat.le_trans (Nat.le_of_ble_eq_true rfl) hle) (st := [.ref (b + (fa_rf (fa_rf (fa_sc (w6 0 6)) 0) 6)), .ref (b + 37)]) (Nat.le_of_ble_eq_true rfl) rfl d_Face_field_64 ?_
        refine g_callV_i X ck_6 (fa_r4_6 _ (fa_r7_0 _ (fa_scs _))) (fa_xn (fa_r4_6 _ (fa_r7_0 _ (fa_scs _))) (by decide) hN) rfl mi_Row_at (ct_Row_at (fa_rf (fa_rf (fa_sc (w6 0 6)) 0) 6) (fr_at 5 a2 w6) (fa_ro (fa_r4_6 _ (fa_r7_0 _ (fa_scs _))) hN hT) w6 _ rfl) wd_678 rfl (Nat.le_trans (Nat.le_of_ble_eq_true rfl) hle) (st := [.ref (b + 37)]) (Nat.le_of_ble_eq_true rfl) rfl d_Face_field_67 ?_
        obtain ⟨v13, w14, e12, hM⟩ := fa_obd hM
        refine g_callV_i X ck_9 fo_37 (fa_xn fo_37 (by decide) hN) rfl mi_Writer_showName (c_Writer_showName hN hT (fr_at (fa_rf (fa_rf (fa_sc (w6 0 6)) 0) 6) (fr_at 5 a2 w6) w6) w6 _ e12) wd_1237 rfl (Nat.le_trans (Nat.le_of_ble_eq_true rfl) hle) (st := []) (Nat.le_of_ble_eq_true rfl) rfl d_Face_field_70 ?_
        cases hM
        exact g_iret X d_Face_field_73
      · have hM := fa_if_f hM hc9
        exact g_lv [] rfl (c_Face_field_j35 X hle hN hT a1 a2    _ hM)
  · have hM := fa_if_f hM hk4
    exact absurd (fa_c3 hM) hk4
set_option maxHeartbeats 4000000 in
set_option maxRecDepth 100000 in
theorem cx_Face_field_j35 {p : Program} {l : Launch} {e : Env} {s : State} {m : MethodId} {args : Array Value} {below : List Frame} {meth : Method} {c : Code} {hh : Nat} {D : va_G} {b : Nat} {aC : Nat → ClassId} {H0 : Heap} {N T : Nat} (X : fa_GX p s m args meth c prog_1_method_11_code 3 ((Option.some Jvm.ClassFile.FieldType.int)) y_Face_field.cls D b aC) (hle : 7 ≤ hh) (hnx : ∀ x ∈ c.exceptionTable.toList, False) (hfl : l.stackTraces = false) (hN : fa_NX ≤ N) (hT : fa_TX ≤ T) (a1 : Int) (a2 : Int) {rv : Int} {rw : fa_W} {kk : Int} (hk : kk ≠ 0)  : ∀ (w : fa_W) (_ : fm_Face_field_j35 a1 a2 w = some (kk, rv, rw)), fa_GJ p l e (fa_rmx hh) s m args below meth c 0 0 (fa_XQ D b aC H0 N T below args s kk rw) D b aC H0 N T 3 w 35 [] [] := by
  intro w hM
  unfold fm_Face_field_j35 at hM
  cases hM
  exact g_throwS X hnx hfl (k := 2) (by decide) (names := ["java/lang/RuntimeException", "java/lang/Exception"]) dx_2_0 dx_2_1 dx_2_2 dx_2_5 (by decide +kernel) (by decide +kernel) wd_1213 wd_20 (List.mem_of_getElem? (i := 26) rfl) ax_2 ay_2 d_Face_field_35 d_Face_field_38 d_Face_field_39 d_Face_field_41 d_Face_field_44 (Nat.le_trans (Nat.le_of_ble_eq_true rfl) hle) (Nat.le_of_ble_eq_true rfl)
set_option maxHeartbeats 4000000 in
set_option maxRecDepth 100000 in
theorem cx_Face_field {l : Launch} {D : va_G} {b : Nat} {aC : Nat → ClassId} {H0 : Heap} {N T : Nat} (hN : fa_NX ≤ N) (hT : fa_TX ≤ T) (a1 : Int) (a2 : Int) (hfl : l.stackTraces = false) (w : fa_W) (rv : Int) (rw : fa_W) (kk : Int) (hk : kk ≠ 0) (hM : fm_Face_field a1 a2 w = some (kk, rv, rw)) : fa_MX l D b aC H0 N T y_Face_field prog_1_method_11_code 3 ((Option.some Jvm.ClassFile.FieldType.int)) (7) [.ref (b + 0), .int (fa_I a1), .int (fa_I a2)] w kk rw := by
  refine fa_xenter (lv := [(0, .ref (b + 0)), (1, .int (fa_I a1)), (2, .int (fa_I a2))]) (by decide +kernel) (Nat.le_of_ble_eq_true rfl) rfl (fun hh hle hnx X => ?_)
  unfold fm_Face_field at hM
  refine g_aload_n X 0 rfl d_Face_field_0 ?_
  refine g_iload_n X 1 rfl d_Face_field_1 ?_
  obtain ⟨k2, w3, e1, hM⟩ := fa_obd hM
  by_cases hk4 : k2 = 0
  · replace hM := fa_if_t hM hk4
    subst hk4
    refine g_callV_v X ck_0 fo_0 (fa_xn fo_0 (by decide) hN) rfl mi_Face_needFunction (c_Face_needFunction hN hT a1 w _ e1) wd_1180 rfl (Nat.le_trans (Nat.le_of_ble_eq_true rfl) hle) (st := []) (Nat.le_of_ble_eq_true rfl) rfl d_Face_field_2 ?_
    refine g_aload_n X 0 rfl d_Face_field_5 ?_
    refine g_get X ck_0 fo_0 (fa_xn fo_0 (by decide) hN) 6 (by decide) wd_633 rfl (fr_0_6 rfl hT) d_Face_field_6 ?_
    refine g_getN X ck_7 (fa_scs _) (fa_xn (fa_scs _) (by decide) hN) 0 (by decide) wd_385 rfl (fa_fvR rfl (fa_xt (fa_scs _) (by decide) hT 0)) d_Face_field_9 ?_
    refine g_iload_n X 1 rfl d_Face_field_12 ?_
    refine g_aload_n X 0 rfl d_Face_field_13 ?_
    refine g_get X ck_0 fo_0 (fa_xn fo_0 (by decide) hN) 2 (by decide) wd_629 rfl (fr_0_2 rfl hT) d_Face_field_14 ?_
    obtain ⟨w6, e5, hM⟩ := fa_ob hM
    refine g_callV_v X ck_4 (fa_r7_0 _ (fa_scs _)) (fa_xn (fa_r7_0 _ (fa_scs _)) (by decide) hN) rfl mi_Program_listFields (c_Program_listFields hN hT (fa_rf (fa_sc (w3 0 6)) 0) a1 5 (fa_r7_0 _ (fa_scs _)) fo_5 w3 _ e5) wd_949 rfl (Nat.le_trans (Nat.le_of_ble_eq_true rfl) hle) (st := []) (Nat.le_of_ble_eq_true rfl) rfl d_Face_field_17 ?_
    refine g_iload_n X 2 rfl d_Face_field_20 ?_
    refine g_if_lt X 35 d_Face_field_21 (by decide) (fun hc7 => ?_) (fun hc7 => ?_)
    · have hM := fa_if_t hM hc7
      exact g_lv [] rfl (cx_Face_field_j35 X hle hnx hfl hN hT a1 a2 hk    _ hM)
    · have hM := fa_if_f hM hc7
      refine g_iload_n X 2 rfl d_Face_field_24 ?_
      refine g_aload_n X 0 rfl d_Face_field_25 ?_
      refine g_get X ck_0 fo_0 (fa_xn fo_0 (by decide) hN) 2 (by decide) wd_629 rfl (fr_0_2 rfl hT) d_Face_field_26 ?_
      refine g_callV_i X ck_6 fo_5 (fa_xn fo_5 (by decide) hN) rfl mi_Row_size (c_Row_size 5 (fa_ro fo_5 hN hT) w6 _ rfl) wd_659 rfl (Nat.le_trans (Nat.le_of_ble_eq_true rfl) hle) (st := [.int (fa_I a2)]) (Nat.le_of_ble_eq_true rfl) rfl d_Face_field_29 ?_
      refine g_icmp_lt X 45 d_Face_field_32 (by decide) (fun hc9 => ?_) (fun hc9 => ?_)
      · have hM := fa_if_t hM hc9
        refine g_aload_n X 0 rfl d_Face_field_45 ?_
        refine g_get X ck_0 fo_0 (fa_xn fo_0 (by decide) hN) 4 (by decide) wd_631 rfl (fr_0_4 rfl hT) d_Face_field_46 ?_
        refine g_aload_n X 0 rfl d_Face_field_49 ?_
        refine g_get X ck_0 fo_0 (fa_xn fo_0 (by decide) hN) 6 (by decide) wd_633 rfl (fr_0_6 rfl hT) d_Face_field_50 ?_
        refine g_getN X ck_7 (fa_scs _) (fa_xn (fa_scs _) (by decide) hN) 0 (by decide) wd_385 rfl (fa_fvR rfl (fa_xt (fa_scs _) (by decide) hT 0)) d_Face_field_53 ?_
        refine g_getN X ck_4 (fa_r7_0 _ (fa_scs _)) (fa_xn (fa_r7_0 _ (fa_scs _)) (by decide) hN) 6 (by decide) wd_76 rfl (fa_fvR rfl (fa_xt (fa_r7_0 _ (fa_scs _)) (by decide) hT 6)) d_Face_field_56 ?_
        refine g_aload_n X 0 rfl d_Face_field_59 ?_
        refine g_get X ck_0 fo_0 (fa_xn fo_0 (by decide) hN) 2 (by decide) wd_629 rfl (fr_0_2 rfl hT) d_Face_field_60 ?_
        refine g_iload_n X 2 rfl d_Face_field_63 ?_
        refine g_callV_i X ck_6 fo_5 (fa_xn fo_5 (by decide) hN) rfl mi_Row_at (ct_Row_at 5 a2 (fa_ro fo_5 hN hT) w6 _ rfl) wd_678 rfl (Nat.le_trans (Nat.le_of_ble_eq_true rfl) hle) (st := [.ref (b + (fa_rf (fa_rf (fa_sc (w6 0 6)) 0) 6)), .ref (b + 37)]) (Nat.le_of_ble_eq_true rfl) rfl d_Face_field_64 ?_
        refine g_callV_i X ck_6 (fa_r4_6 _ (fa_r7_0 _ (fa_scs _))) (fa_xn (fa_r4_6 _ (fa_r7_0 _ (fa_scs _))) (by decide) hN) rfl mi_Row_at (ct_Row_at (fa_rf (fa_rf (fa_sc (w6 0 6)) 0) 6) (fr_at 5 a2 w6) (fa_ro (fa_r4_6 _ (fa_r7_0 _ (fa_scs _))) hN hT) w6 _ rfl) wd_678 rfl (Nat.le_trans (Nat.le_of_ble_eq_true rfl) hle) (st := [.ref (b + 37)]) (Nat.le_of_ble_eq_true rfl) rfl d_Face_field_67 ?_
        obtain ⟨v13, w14, e12, hM⟩ := fa_obd hM
        refine g_callV_i X ck_9 fo_37 (fa_xn fo_37 (by decide) hN) rfl mi_Writer_showName (c_Writer_showName hN hT (fr_at (fa_rf (fa_rf (fa_sc (w6 0 6)) 0) 6) (fr_at 5 a2 w6) w6) w6 _ e12) wd_1237 rfl (Nat.le_trans (Nat.le_of_ble_eq_true rfl) hle) (st := []) (Nat.le_of_ble_eq_true rfl) rfl d_Face_field_70 ?_
        exact absurd (fa_c3 hM).symm hk
      · have hM := fa_if_f hM hc9
        exact g_lv [] rfl (cx_Face_field_j35 X hle hnx hfl hN hT a1 a2 hk    _ hM)
  · have hM := fa_if_f hM hk4
    cases hM
    exact g_xcallV X hnx ck_0 fo_0 (fa_xn fo_0 (by decide) hN) rfl mi_Face_needFunction (cx_Face_needFunction hN hT a1 hfl w _ _ hk4 e1) wd_1180 rfl (Nat.le_trans (Nat.le_of_ble_eq_true rfl) hle) (st := []) (Nat.le_of_ble_eq_true rfl) rfl d_Face_field_2
theorem d_Face_type_0 : decode prog_1_method_12_code 0 = .ok (.aload_n 0, 1) := by decide +kernel
theorem d_Face_type_1 : decode prog_1_method_12_code 1 = .ok (.iload_n 1, 1) := by decide +kernel
theorem d_Face_type_2 : decode prog_1_method_12_code 2 = .ok (.invokevirtual 124, 3) := by decide +kernel
theorem d_Face_type_5 : decode prog_1_method_12_code 5 = .ok (.aload_n 0, 1) := by decide +kernel
theorem d_Face_type_6 : decode prog_1_method_12_code 6 = .ok (.getfield 36, 3) := by decide +kernel
theorem d_Face_type_9 : decode prog_1_method_12_code 9 = .ok (.aload_n 0, 1) := by decide +kernel
theorem d_Face_type_10 : decode prog_1_method_12_code 10 = .ok (.getfield 50, 3) := by decide +kernel
theorem d_Face_type_13 : decode prog_1_method_12_code 13 = .ok (.getfield 215, 3) := by decide +kernel
theorem d_Face_type_16 : decode prog_1_method_12_code 16 = .ok (.aload_n 0, 1) := by decide +kernel
theorem d_Face_type_17 : decode prog_1_method_12_code 17 = .ok (.getfield 50, 3) := by decide +kernel
theorem d_Face_type_20 : decode prog_1_method_12_code 20 = .ok (.getfield 215, 3) := by decide +kernel
theorem d_Face_type_23 : decode prog_1_method_12_code 23 = .ok (.getfield 219, 3) := by decide +kernel
theorem d_Face_type_26 : decode prog_1_method_12_code 26 = .ok (.iload_n 1, 1) := by decide +kernel
theorem d_Face_type_27 : decode prog_1_method_12_code 27 = .ok (.invokevirtual 209, 3) := by decide +kernel
theorem d_Face_type_30 : decode prog_1_method_12_code 30 = .ok (.invokevirtual 224, 3) := by decide +kernel
theorem d_Face_type_33 : decode prog_1_method_12_code 33 = .ok (.ireturn, 1) := by decide +kernel
def fm_Face_type (a1 : Int) (w : fa_W) : Option (Int × Int × fa_W) :=
  fa_bd (fm_Face_needFunction a1 w) fun k2 w3 =>
  if k2 = 0 then
  (fa_bd (fm_Writer_showType (fa_rf (fa_sc (w3 0 6)) 1) (fr_at (fa_rf (fa_rf (fa_sc (w3 0 6)) 1) 6) a1 w3) w3) fun v7 w8 =>
  some (0, v7, w8))
  else
  some (k2, 0, w3)
set_option maxHeartbeats 4000000 in
set_option maxRecDepth 100000 in
theorem c_Face_type {l : Launch} {D : va_G} {b : Nat} {aC : Nat → ClassId} {H0 : Heap} {N T : Nat} (hN : fa_NX ≤ N) (hT : fa_TX ≤ T) (a1 : Int)  (w : fa_W) (rv : Int) (rw : fa_W) (hM : fm_Face_type a1 w = some (0, rv, rw)) : fa_MC l D b aC H0 N T y_Face_type prog_1_method_12_code 2 ((Option.some Jvm.ClassFile.FieldType.int)) (7) [.ref (b + 0), .int (fa_I a1)] w (some (.int (fa_I rv))) rw := by
  refine fa_enter (lv := [(0, .ref (b + 0)), (1, .int (fa_I a1))]) (by decide +kernel) (Nat.le_of_ble_eq_true rfl) rfl (fun hh hle hnm X => ?_)
  unfold fm_Face_type at hM
  refine g_aload_n X 0 rfl d_Face_type_0 ?_
  refine g_iload_n X 1 rfl d_Face_type_1 ?_
  obtain ⟨k2, w3, e1, hM⟩ := fa_obd hM
  by_cases hk4 : k2 = 0
  · replace hM := fa_if_t hM hk4
    subst hk4
    refine g_callV_v X ck_0 fo_0 (fa_xn fo_0 (by decide) hN) rfl mi_Face_needFunction (c_Face_needFunction hN hT a1 w _ e1) wd_1180 rfl (Nat.le_trans (Nat.le_of_ble_eq_true rfl) hle) (st := []) (Nat.le_of_ble_eq_true rfl) rfl d_Face_type_2 ?_
    refine g_aload_n X 0 rfl d_Face_type_5 ?_
    refine g_get X ck_0 fo_0 (fa_xn fo_0 (by decide) hN) 4 (by decide) wd_631 rfl (fr_0_4 rfl hT) d_Face_type_6 ?_
    refine g_aload_n X 0 rfl d_Face_type_9 ?_
    refine g_get X ck_0 fo_0 (fa_xn fo_0 (by decide) hN) 6 (by decide) wd_633 rfl (fr_0_6 rfl hT) d_Face_type_10 ?_
    refine g_getN X ck_7 (fa_scs _) (fa_xn (fa_scs _) (by decide) hN) 1 (by decide) wd_390 rfl (fa_fvR rfl (fa_xt (fa_scs _) (by decide) hT 1)) d_Face_type_13 ?_
    refine g_aload_n X 0 rfl d_Face_type_16 ?_
    refine g_get X ck_0 fo_0 (fa_xn fo_0 (by decide) hN) 6 (by decide) wd_633 rfl (fr_0_6 rfl hT) d_Face_type_17 ?_
    refine g_getN X ck_7 (fa_scs _) (fa_xn (fa_scs _) (by decide) hN) 1 (by decide) wd_390 rfl (fa_fvR rfl (fa_xt (fa_scs _) (by decide) hT 1)) d_Face_type_20 ?_
    refine g_getN X ck_8 (fa_r7_1 _ (fa_scs _)) (fa_xn (fa_r7_1 _ (fa_scs _)) (by decide) hN) 6 (by decide) wd_302 rfl (fa_fvR rfl (fa_xt (fa_r7_1 _ (fa_scs _)) (by decide) hT 6)) d_Face_type_23 ?_
    refine g_iload_n X 1 rfl d_Face_type_26 ?_
    refine g_callV_i X ck_6 (fa_r8_6 _ (fa_r7_1 _ (fa_scs _))) (fa_xn (fa_r8_6 _ (fa_r7_1 _ (fa_scs _))) (by decide) hN) rfl mi_Row_at (ct_Row_at (fa_rf (fa_rf (fa_sc (w3 0 6)) 1) 6) a1 (fa_ro (fa_r8_6 _ (fa_r7_1 _ (fa_scs _))) hN hT) w3 _ rfl) wd_678 rfl (Nat.le_trans (Nat.le_of_ble_eq_true rfl) hle) (st := [.ref (b + (fa_rf (fa_sc (w3 0 6)) 1)), .ref (b + 37)]) (Nat.le_of_ble_eq_true rfl) rfl d_Face_type_27 ?_
    obtain ⟨v7, w8, e6, hM⟩ := fa_obd hM
    refine g_callV_i X ck_9 fo_37 (fa_xn fo_37 (by decide) hN) rfl mi_Writer_showType (c_Writer_showType hN hT (fa_rf (fa_sc (w3 0 6)) 1) (fr_at (fa_rf (fa_rf (fa_sc (w3 0 6)) 1) 6) a1 w3) (fa_r7_1 _ (fa_scs _)) w3 _ e6) wd_679 rfl (Nat.le_trans (Nat.le_of_ble_eq_true rfl) hle) (st := []) (Nat.le_of_ble_eq_true rfl) rfl d_Face_type_30 ?_
    cases hM
    exact g_iret X d_Face_type_33
  · have hM := fa_if_f hM hk4
    exact absurd (fa_c3 hM) hk4
set_option maxHeartbeats 4000000 in
set_option maxRecDepth 100000 in
theorem cx_Face_type {l : Launch} {D : va_G} {b : Nat} {aC : Nat → ClassId} {H0 : Heap} {N T : Nat} (hN : fa_NX ≤ N) (hT : fa_TX ≤ T) (a1 : Int) (hfl : l.stackTraces = false) (w : fa_W) (rv : Int) (rw : fa_W) (kk : Int) (hk : kk ≠ 0) (hM : fm_Face_type a1 w = some (kk, rv, rw)) : fa_MX l D b aC H0 N T y_Face_type prog_1_method_12_code 2 ((Option.some Jvm.ClassFile.FieldType.int)) (7) [.ref (b + 0), .int (fa_I a1)] w kk rw := by
  refine fa_xenter (lv := [(0, .ref (b + 0)), (1, .int (fa_I a1))]) (by decide +kernel) (Nat.le_of_ble_eq_true rfl) rfl (fun hh hle hnx X => ?_)
  unfold fm_Face_type at hM
  refine g_aload_n X 0 rfl d_Face_type_0 ?_
  refine g_iload_n X 1 rfl d_Face_type_1 ?_
  obtain ⟨k2, w3, e1, hM⟩ := fa_obd hM
  by_cases hk4 : k2 = 0
  · replace hM := fa_if_t hM hk4
    subst hk4
    refine g_callV_v X ck_0 fo_0 (fa_xn fo_0 (by decide) hN) rfl mi_Face_needFunction (c_Face_needFunction hN hT a1 w _ e1) wd_1180 rfl (Nat.le_trans (Nat.le_of_ble_eq_true rfl) hle) (st := []) (Nat.le_of_ble_eq_true rfl) rfl d_Face_type_2 ?_
    refine g_aload_n X 0 rfl d_Face_type_5 ?_
    refine g_get X ck_0 fo_0 (fa_xn fo_0 (by decide) hN) 4 (by decide) wd_631 rfl (fr_0_4 rfl hT) d_Face_type_6 ?_
    refine g_aload_n X 0 rfl d_Face_type_9 ?_
    refine g_get X ck_0 fo_0 (fa_xn fo_0 (by decide) hN) 6 (by decide) wd_633 rfl (fr_0_6 rfl hT) d_Face_type_10 ?_
    refine g_getN X ck_7 (fa_scs _) (fa_xn (fa_scs _) (by decide) hN) 1 (by decide) wd_390 rfl (fa_fvR rfl (fa_xt (fa_scs _) (by decide) hT 1)) d_Face_type_13 ?_
    refine g_aload_n X 0 rfl d_Face_type_16 ?_
    refine g_get X ck_0 fo_0 (fa_xn fo_0 (by decide) hN) 6 (by decide) wd_633 rfl (fr_0_6 rfl hT) d_Face_type_17 ?_
    refine g_getN X ck_7 (fa_scs _) (fa_xn (fa_scs _) (by decide) hN) 1 (by decide) wd_390 rfl (fa_fvR rfl (fa_xt (fa_scs _) (by decide) hT 1)) d_Face_type_20 ?_
    refine g_getN X ck_8 (fa_r7_1 _ (fa_scs _)) (fa_xn (fa_r7_1 _ (fa_scs _)) (by decide) hN) 6 (by decide) wd_302 rfl (fa_fvR rfl (fa_xt (fa_r7_1 _ (fa_scs _)) (by decide) hT 6)) d_Face_type_23 ?_
    refine g_iload_n X 1 rfl d_Face_type_26 ?_
    refine g_callV_i X ck_6 (fa_r8_6 _ (fa_r7_1 _ (fa_scs _))) (fa_xn (fa_r8_6 _ (fa_r7_1 _ (fa_scs _))) (by decide) hN) rfl mi_Row_at (ct_Row_at (fa_rf (fa_rf (fa_sc (w3 0 6)) 1) 6) a1 (fa_ro (fa_r8_6 _ (fa_r7_1 _ (fa_scs _))) hN hT) w3 _ rfl) wd_678 rfl (Nat.le_trans (Nat.le_of_ble_eq_true rfl) hle) (st := [.ref (b + (fa_rf (fa_sc (w3 0 6)) 1)), .ref (b + 37)]) (Nat.le_of_ble_eq_true rfl) rfl d_Face_type_27 ?_
    obtain ⟨v7, w8, e6, hM⟩ := fa_obd hM
    refine g_callV_i X ck_9 fo_37 (fa_xn fo_37 (by decide) hN) rfl mi_Writer_showType (c_Writer_showType hN hT (fa_rf (fa_sc (w3 0 6)) 1) (fr_at (fa_rf (fa_rf (fa_sc (w3 0 6)) 1) 6) a1 w3) (fa_r7_1 _ (fa_scs _)) w3 _ e6) wd_679 rfl (Nat.le_trans (Nat.le_of_ble_eq_true rfl) hle) (st := []) (Nat.le_of_ble_eq_true rfl) rfl d_Face_type_30 ?_
    exact absurd (fa_c3 hM).symm hk
  · have hM := fa_if_f hM hk4
    cases hM
    exact g_xcallV X hnx ck_0 fo_0 (fa_xn fo_0 (by decide) hN) rfl mi_Face_needFunction (cx_Face_needFunction hN hT a1 hfl w _ _ hk4 e1) wd_1180 rfl (Nat.le_trans (Nat.le_of_ble_eq_true rfl) hle) (st := []) (Nat.le_of_ble_eq_true rfl) rfl d_Face_type_2
theorem d_Face_typeOfMain_0 : decode prog_1_method_13_code 0 = .ok (.aload_n 0, 1) := by decide +kernel
theorem d_Face_typeOfMain_1 : decode prog_1_method_13_code 1 = .ok (.getfield 36, 3) := by decide +kernel
theorem d_Face_typeOfMain_4 : decode prog_1_method_13_code 4 = .ok (.aload_n 0, 1) := by decide +kernel
theorem d_Face_typeOfMain_5 : decode prog_1_method_13_code 5 = .ok (.getfield 50, 3) := by decide +kernel
theorem d_Face_typeOfMain_8 : decode prog_1_method_13_code 8 = .ok (.getfield 215, 3) := by decide +kernel
theorem d_Face_typeOfMain_11 : decode prog_1_method_13_code 11 = .ok (.aload_n 0, 1) := by decide +kernel
theorem d_Face_typeOfMain_12 : decode prog_1_method_13_code 12 = .ok (.getfield 50, 3) := by decide +kernel
theorem d_Face_typeOfMain_15 : decode prog_1_method_13_code 15 = .ok (.getfield 215, 3) := by decide +kernel
theorem d_Face_typeOfMain_18 : decode prog_1_method_13_code 18 = .ok (.getfield 228, 3) := by decide +kernel
theorem d_Face_typeOfMain_21 : decode prog_1_method_13_code 21 = .ok (.aload_n 0, 1) := by decide +kernel
theorem d_Face_typeOfMain_22 : decode prog_1_method_13_code 22 = .ok (.getfield 50, 3) := by decide +kernel
theorem d_Face_typeOfMain_25 : decode prog_1_method_13_code 25 = .ok (.getfield 61, 3) := by decide +kernel
theorem d_Face_typeOfMain_28 : decode prog_1_method_13_code 28 = .ok (.getfield 231, 3) := by decide +kernel
theorem d_Face_typeOfMain_31 : decode prog_1_method_13_code 31 = .ok (.invokevirtual 209, 3) := by decide +kernel
theorem d_Face_typeOfMain_34 : decode prog_1_method_13_code 34 = .ok (.invokevirtual 224, 3) := by decide +kernel
theorem d_Face_typeOfMain_37 : decode prog_1_method_13_code 37 = .ok (.ireturn, 1) := by decide +kernel
def fm_Face_typeOfMain (w : fa_W) : Option (Int × fa_W) :=
  fa_bd (fm_Writer_showType (fa_rf (fa_sc (w 0 6)) 1) (fr_at (fa_rf (fa_rf (fa_sc (w 0 6)) 1) 4) (w (fa_rf (fa_sc (w 0 6)) 0) 16) w) w) fun v3 w4 =>
  some (v3, w4)
set_option maxHeartbeats 4000000 in
set_option maxRecDepth 100000 in
theorem c_Face_typeOfMain {l : Launch} {D : va_G} {b : Nat} {aC : Nat → ClassId} {H0 : Heap} {N T : Nat} (hN : fa_NX ≤ N) (hT : fa_TX ≤ T)   (w : fa_W) (r : Int × fa_W) (hM : fm_Face_typeOfMain w = some r) : fa_MC l D b aC H0 N T y_Face_typeOfMain prog_1_method_13_code 1 ((Option.some Jvm.ClassFile.FieldType.int)) (5) [.ref (b + 0)] w (some (.int (fa_I r.1))) r.2 := by
  refine fa_enter (lv := [(0, .ref (b + 0))]) (by decide +kernel) (Nat.le_of_ble_eq_true rfl) rfl (fun hh hle hnm X => ?_)
  unfold fm_Face_typeOfMain at hM
  refine g_aload_n X 0 rfl d_Face_typeOfMain_0 ?_
  refine g_get X ck_0 fo_0 (fa_xn fo_0 (by decide) hN) 4 (by decide) wd_631 rfl (fr_0_4 rfl hT) d_Face_typeOfMain_1 ?_
  refine g_aload_n X 0 rfl d_Face_typeOfMain_4 ?_
  refine g_get X ck_0 fo_0 (fa_xn fo_0 (by decide) hN) 6 (by decide) wd_633 rfl (fr_0_6 rfl hT) d_Face_typeOfMain_5 ?_
  refine g_getN X ck_7 (fa_scs _) (fa_xn (fa_scs _) (by decide) hN) 1 (by decide) wd_390 rfl (fa_fvR rfl (fa_xt (fa_scs _) (by decide) hT 1)) d_Face_typeOfMain_8 ?_
  refine g_aload_n X 0 rfl d_Face_typeOfMain_11 ?_
  refine g_get X ck_0 fo_0 (fa_xn fo_0 (by decide) hN) 6 (by decide) wd_633 rfl (fr_0_6 rfl hT) d_Face_typeOfMain_12 ?_
  refine g_getN X ck_7 (fa_scs _) (fa_xn (fa_scs _) (by decide) hN) 1 (by decide) wd_390 rfl (fa_fvR rfl (fa_xt (fa_scs _) (by decide) hT 1)) d_Face_typeOfMain_15 ?_
  refine g_getN X ck_8 (fa_r7_1 _ (fa_scs _)) (fa_xn (fa_r7_1 _ (fa_scs _)) (by decide) hN) 4 (by decide) wd_299 rfl (fa_fvR rfl (fa_xt (fa_r7_1 _ (fa_scs _)) (by decide) hT 4)) d_Face_typeOfMain_18 ?_
  refine g_aload_n X 0 rfl d_Face_typeOfMain_21 ?_
  refine g_get X ck_0 fo_0 (fa_xn fo_0 (by decide) hN) 6 (by decide) wd_633 rfl (fr_0_6 rfl hT) d_Face_typeOfMain_22 ?_
  refine g_getN X ck_7 (fa_scs _) (fa_xn (fa_scs _) (by decide) hN) 0 (by decide) wd_385 rfl (fa_fvR rfl (fa_xt (fa_scs _) (by decide) hT 0)) d_Face_typeOfMain_25 ?_
  refine g_getN X ck_4 (fa_r7_0 _ (fa_scs _)) (fa_xn (fa_r7_0 _ (fa_scs _)) (by decide) hN) 16 (by decide) wd_112 rfl (fa_fvI rfl) d_Face_typeOfMain_28 ?_
  refine g_callV_i X ck_6 (fa_r8_4 _ (fa_r7_1 _ (fa_scs _))) (fa_xn (fa_r8_4 _ (fa_r7_1 _ (fa_scs _))) (by decide) hN) rfl mi_Row_at (ct_Row_at (fa_rf (fa_rf (fa_sc (w 0 6)) 1) 4) (w (fa_rf (fa_sc (w 0 6)) 0) 16) (fa_ro (fa_r8_4 _ (fa_r7_1 _ (fa_scs _))) hN hT) w _ rfl) wd_678 rfl (Nat.le_trans (Nat.le_of_ble_eq_true rfl) hle) (st := [.ref (b + (fa_rf (fa_sc (w 0 6)) 1)), .ref (b + 37)]) (Nat.le_of_ble_eq_true rfl) rfl d_Face_typeOfMain_31 ?_
  obtain ⟨v3, w4, e2, hM⟩ := fa_obd hM
  refine g_callV_i X ck_9 fo_37 (fa_xn fo_37 (by decide) hN) rfl mi_Writer_showType (c_Writer_showType hN hT (fa_rf (fa_sc (w 0 6)) 1) (fr_at (fa_rf (fa_rf (fa_sc (w 0 6)) 1) 4) (w (fa_rf (fa_sc (w 0 6)) 0) 16) w) (fa_r7_1 _ (fa_scs _)) w _ e2) wd_679 rfl (Nat.le_trans (Nat.le_of_ble_eq_true rfl) hle) (st := []) (Nat.le_of_ble_eq_true rfl) rfl d_Face_typeOfMain_34 ?_
  cases hM
  exact g_iret X d_Face_typeOfMain_37
theorem d_Face_alike_0 : decode prog_1_method_14_code 0 = .ok (.aload_n 0, 1) := by decide +kernel
theorem d_Face_alike_1 : decode prog_1_method_14_code 1 = .ok (.iload_n 1, 1) := by decide +kernel
theorem d_Face_alike_2 : decode prog_1_method_14_code 2 = .ok (.invokevirtual 124, 3) := by decide +kernel
theorem d_Face_alike_5 : decode prog_1_method_14_code 5 = .ok (.aload_n 0, 1) := by decide +kernel
theorem d_Face_alike_6 : decode prog_1_method_14_code 6 = .ok (.iload_n 2, 1) := by decide +kernel
theorem d_Face_alike_7 : decode prog_1_method_14_code 7 = .ok (.invokevirtual 124, 3) := by decide +kernel
theorem d_Face_alike_10 : decode prog_1_method_14_code 10 = .ok (.aload_n 0, 1) := by decide +kernel
theorem d_Face_alike_11 : decode prog_1_method_14_code 11 = .ok (.getfield 50, 3) := by decide +kernel
theorem d_Face_alike_14 : decode prog_1_method_14_code 14 = .ok (.getfield 215, 3) := by decide +kernel
theorem d_Face_alike_17 : decode prog_1_method_14_code 17 = .ok (.iload_n 1, 1) := by decide +kernel
theorem d_Face_alike_18 : decode prog_1_method_14_code 18 = .ok (.iload_n 2, 1) := by decide +kernel
theorem d_Face_alike_19 : decode prog_1_method_14_code 19 = .ok (.invokevirtual 234, 3) := by decide +kernel
theorem d_Face_alike_22 : decode prog_1_method_14_code 22 = .ok (.ireturn, 1) := by decide +kernel
def fm_Face_alike (a1 : Int) (a2 : Int) (w : fa_W) : Option (Int × Bool × fa_W) :=
  fa_bd (fm_Face_needFunction a1 w) fun k2 w3 =>
  if k2 = 0 then
  (fa_bd (fm_Face_needFunction a2 w3) fun k6 w7 =>
  if k6 = 0 then
  ((fm_Typing_same (fa_rf (fa_sc (w7 0 6)) 1) a1 a2 w7).bind fun v10 =>
  some (0, v10, w7))
  else
  some (k6, false, w7))
  else
  some (k2, false, w3)
set_option maxHeartbeats 4000000 in
set_option maxRecDepth 100000 in
theorem c_Face_alike {l : Launch} {D : va_G} {b : Nat} {aC : Nat → ClassId} {H0 : Heap} {N T : Nat} (hN : fa_NX ≤ N) (hT : fa_TX ≤ T) (a1 : Int) (a2 : Int)  (w : fa_W) (rv : Bool) (rw : fa_W) (hM : fm_Face_alike a1 a2 w = some (0, rv, rw)) : fa_MC l D b aC H0 N T y_Face_alike prog_1_method_14_code 3 ((Option.some Jvm.ClassFile.FieldType.boolean)) (7) [.ref (b + 0), .int (fa_I a1), .int (fa_I a2)] w (some (.int (fa_I (fa_bi rv)))) rw := by
  refine fa_enter (lv := [(0, .ref (b + 0)), (1, .int (fa_I a1)), (2, .int (fa_I a2))]) (by decide +kernel) (Nat.le_of_ble_eq_true rfl) rfl (fun hh hle hnm X => ?_)
  unfold fm_Face_alike at hM
  refine g_aload_n X 0 rfl d_Face_alike_0 ?_
  refine g_iload_n X 1 rfl d_Face_alike_1 ?_
  obtain ⟨k2, w3, e1, hM⟩ := fa_obd hM
  by_cases hk4 : k2 = 0
  · replace hM := fa_if_t hM hk4
    subst hk4
    refine g_callV_v X ck_0 fo_0 (fa_xn fo_0 (by decide) hN) rfl mi_Face_needFunction (c_Face_needFunction hN hT a1 w _ e1) wd_1180 rfl (Nat.le_trans (Nat.le_of_ble_eq_true rfl) hle) (st := []) (Nat.le_of_ble_eq_true rfl) rfl d_Face_alike_2 ?_
    refine g_aload_n X 0 rfl d_Face_alike_5 ?_
    refine g_iload_n X 2 rfl d_Face_alike_6 ?_
    obtain ⟨k6, w7, e5, hM⟩ := fa_obd hM
    by_cases hk8 : k6 = 0
    · replace hM := fa_if_t hM hk8
      subst hk8
      refine g_callV_v X ck_0 fo_0 (fa_xn fo_0 (by decide) hN) rfl mi_Face_needFunction (c_Face_needFunction hN hT a2 w3 _ e5) wd_1180 rfl (Nat.le_trans (Nat.le_of_ble_eq_true rfl) hle) (st := []) (Nat.le_of_ble_eq_true rfl) rfl d_Face_alike_7 ?_
      refine g_aload_n X 0 rfl d_Face_alike_10 ?_
      refine g_get X ck_0 fo_0 (fa_xn fo_0 (by decide) hN) 6 (by decide) wd_633 rfl (fr_0_6 rfl hT) d_Face_alike_11 ?_
      refine g_getN X ck_7 (fa_scs _) (fa_xn (fa_scs _) (by decide) hN) 1 (by decide) wd_390 rfl (fa_fvR rfl (fa_xt (fa_scs _) (by decide) hT 1)) d_Face_alike_14 ?_
      refine g_iload_n X 1 rfl d_Face_alike_17 ?_
      refine g_iload_n X 2 rfl d_Face_alike_18 ?_
      obtain ⟨v10, e9, hM⟩ := fa_ob hM
      refine g_callV_i X ck_8 (fa_r7_1 _ (fa_scs _)) (fa_xn (fa_r7_1 _ (fa_scs _)) (by decide) hN) rfl mi_Typing_same (c_Typing_same hN hT (fa_rf (fa_sc (w7 0 6)) 1) a1 a2 (fa_r7_1 _ (fa_scs _)) w7 _ e9) wd_1255 rfl (Nat.le_trans (Nat.le_of_ble_eq_true rfl) hle) (st := []) (Nat.le_of_ble_eq_true rfl) rfl d_Face_alike_19 ?_
      cases hM
      exact g_zret X rfl d_Face_alike_22
    · have hM := fa_if_f hM hk8
      exact absurd (fa_c3 hM) hk8
  · have hM := fa_if_f hM hk4
    exact absurd (fa_c3 hM) hk4
set_option maxHeartbeats 4000000 in
set_option maxRecDepth 100000 in
theorem cx_Face_alike {l : Launch} {D : va_G} {b : Nat} {aC : Nat → ClassId} {H0 : Heap} {N T : Nat} (hN : fa_NX ≤ N) (hT : fa_TX ≤ T) (a1 : Int) (a2 : Int) (hfl : l.stackTraces = false) (w : fa_W) (rv : Bool) (rw : fa_W) (kk : Int) (hk : kk ≠ 0) (hM : fm_Face_alike a1 a2 w = some (kk, rv, rw)) : fa_MX l D b aC H0 N T y_Face_alike prog_1_method_14_code 3 ((Option.some Jvm.ClassFile.FieldType.boolean)) (7) [.ref (b + 0), .int (fa_I a1), .int (fa_I a2)] w kk rw := by
  refine fa_xenter (lv := [(0, .ref (b + 0)), (1, .int (fa_I a1)), (2, .int (fa_I a2))]) (by decide +kernel) (Nat.le_of_ble_eq_true rfl) rfl (fun hh hle hnx X => ?_)
  unfold fm_Face_alike at hM
  refine g_aload_n X 0 rfl d_Face_alike_0 ?_
  refine g_iload_n X 1 rfl d_Face_alike_1 ?_
  obtain ⟨k2, w3, e1, hM⟩ := fa_obd hM
  by_cases hk4 : k2 = 0
  · replace hM := fa_if_t hM hk4
    subst hk4
    refine g_callV_v X ck_0 fo_0 (fa_xn fo_0 (by decide) hN) rfl mi_Face_needFunction (c_Face_needFunction hN hT a1 w _ e1) wd_1180 rfl (Nat.le_trans (Nat.le_of_ble_eq_true rfl) hle) (st := []) (Nat.le_of_ble_eq_true rfl) rfl d_Face_alike_2 ?_
    refine g_aload_n X 0 rfl d_Face_alike_5 ?_
    refine g_iload_n X 2 rfl d_Face_alike_6 ?_
    obtain ⟨k6, w7, e5, hM⟩ := fa_obd hM
    by_cases hk8 : k6 = 0
    · replace hM := fa_if_t hM hk8
      subst hk8
      refine g_callV_v X ck_0 fo_0 (fa_xn fo_0 (by decide) hN) rfl mi_Face_needFunction (c_Face_needFunction hN hT a2 w3 _ e5) wd_1180 rfl (Nat.le_trans (Nat.le_of_ble_eq_true rfl) hle) (st := []) (Nat.le_of_ble_eq_true rfl) rfl d_Face_alike_7 ?_
      refine g_aload_n X 0 rfl d_Face_alike_10 ?_
      refine g_get X ck_0 fo_0 (fa_xn fo_0 (by decide) hN) 6 (by decide) wd_633 rfl (fr_0_6 rfl hT) d_Face_alike_11 ?_
      refine g_getN X ck_7 (fa_scs _) (fa_xn (fa_scs _) (by decide) hN) 1 (by decide) wd_390 rfl (fa_fvR rfl (fa_xt (fa_scs _) (by decide) hT 1)) d_Face_alike_14 ?_
      refine g_iload_n X 1 rfl d_Face_alike_17 ?_
      refine g_iload_n X 2 rfl d_Face_alike_18 ?_
      obtain ⟨v10, e9, hM⟩ := fa_ob hM
      refine g_callV_i X ck_8 (fa_r7_1 _ (fa_scs _)) (fa_xn (fa_r7_1 _ (fa_scs _)) (by decide) hN) rfl mi_Typing_same (c_Typing_same hN hT (fa_rf (fa_sc (w7 0 6)) 1) a1 a2 (fa_r7_1 _ (fa_scs _)) w7 _ e9) wd_1255 rfl (Nat.le_trans (Nat.le_of_ble_eq_true rfl) hle) (st := []) (Nat.le_of_ble_eq_true rfl) rfl d_Face_alike_19 ?_
      exact absurd (fa_c3 hM).symm hk
    · have hM := fa_if_f hM hk8
      cases hM
      exact g_xcallV X hnx ck_0 fo_0 (fa_xn fo_0 (by decide) hN) rfl mi_Face_needFunction (cx_Face_needFunction hN hT a2 hfl w3 _ _ hk8 e5) wd_1180 rfl (Nat.le_trans (Nat.le_of_ble_eq_true rfl) hle) (st := []) (Nat.le_of_ble_eq_true rfl) rfl d_Face_alike_7
  · have hM := fa_if_f hM hk4
    cases hM
    exact g_xcallV X hnx ck_0 fo_0 (fa_xn fo_0 (by decide) hN) rfl mi_Face_needFunction (cx_Face_needFunction hN hT a1 hfl w _ _ hk4 e1) wd_1180 rfl (Nat.le_trans (Nat.le_of_ble_eq_true rfl) hle) (st := []) (Nat.le_of_ble_eq_true rfl) rfl d_Face_alike_2
theorem d_Face_site_0 : decode prog_1_method_15_code 0 = .ok (.iload_n 1, 1) := by decide +kernel
theorem d_Face_site_1 : decode prog_1_method_15_code 1 = .ok (.ifCond .lt 17, 3) := by decide +kernel
theorem d_Face_site_4 : decode prog_1_method_15_code 4 = .ok (.iload_n 1, 1) := by decide +kernel
theorem d_Face_site_5 : decode prog_1_method_15_code 5 = .ok (.aload_n 0, 1) := by decide +kernel
theorem d_Face_site_6 : decode prog_1_method_15_code 6 = .ok (.getfield 50, 3) := by decide +kernel
theorem d_Face_site_9 : decode prog_1_method_15_code 9 = .ok (.getfield 61, 3) := by decide +kernel
theorem d_Face_site_12 : decode prog_1_method_15_code 12 = .ok (.getfield 237, 3) := by decide +kernel
theorem d_Face_site_15 : decode prog_1_method_15_code 15 = .ok (.if_icmp .lt 13, 3) := by decide +kernel
theorem d_Face_site_18 : decode prog_1_method_15_code 18 = .ok (.new 195, 3) := by decide +kernel
theorem d_Face_site_21 : decode prog_1_method_15_code 21 = .ok (.dup, 1) := by decide +kernel
theorem d_Face_site_22 : decode prog_1_method_15_code 22 = .ok (.ldc 240, 2) := by decide +kernel
theorem d_Face_site_24 : decode prog_1_method_15_code 24 = .ok (.invokespecial 199, 3) := by decide +kernel
theorem d_Face_site_27 : decode prog_1_method_15_code 27 = .ok (.athrow, 1) := by decide +kernel
theorem d_Face_site_28 : decode prog_1_method_15_code 28 = .ok (.aload_n 0, 1) := by decide +kernel
theorem d_Face_site_29 : decode prog_1_method_15_code 29 = .ok (.getfield 50, 3) := by decide +kernel
theorem d_Face_site_32 : decode prog_1_method_15_code 32 = .ok (.getfield 61, 3) := by decide +kernel
theorem d_Face_site_35 : decode prog_1_method_15_code 35 = .ok (.getfield 242, 3) := by decide +kernel
theorem d_Face_site_38 : decode prog_1_method_15_code 38 = .ok (.iload_n 1, 1) := by decide +kernel
theorem d_Face_site_39 : decode prog_1_method_15_code 39 = .ok (.invokevirtual 209, 3) := by decide +kernel
theorem d_Face_site_42 : decode prog_1_method_15_code 42 = .ok (.istore_n 3, 1) := by decide +kernel
theorem d_Face_site_43 : decode prog_1_method_15_code 43 = .ok (.aload_n 0, 1) := by decide +kernel
theorem d_Face_site_44 : decode prog_1_method_15_code 44 = .ok (.getfield 50, 3) := by decide +kernel
theorem d_Face_site_47 : decode prog_1_method_15_code 47 = .ok (.getfield 134, 3) := by decide +kernel
theorem d_Face_site_50 : decode prog_1_method_15_code 50 = .ok (.aload_n 0, 1) := by decide +kernel
theorem d_Face_site_51 : decode prog_1_method_15_code 51 = .ok (.getfield 50, 3) := by decide +kernel
theorem d_Face_site_54 : decode prog_1_method_15_code 54 = .ok (.getfield 61, 3) := by decide +kernel
theorem d_Face_site_57 : decode prog_1_method_15_code 57 = .ok (.iload_n 3, 1) := by decide +kernel
theorem d_Face_site_58 : decode prog_1_method_15_code 58 = .ok (.invokevirtual 245, 3) := by decide +kernel
theorem d_Face_site_61 : decode prog_1_method_15_code 61 = .ok (.istore 4, 2) := by decide +kernel
theorem d_Face_site_63 : decode prog_1_method_15_code 63 = .ok (.iload_n 2, 1) := by decide +kernel
theorem d_Face_site_64 : decode prog_1_method_15_code 64 = .ok (.tableswitch 160 0 6 #[44, 56, 59, 85, 100, 117, 135], 44) := by decide +kernel
theorem d_Face_site_108 : decode prog_1_method_15_code 108 = .ok (.aload_n 0, 1) := by decide +kernel
theorem d_Face_site_109 : decode prog_1_method_15_code 109 = .ok (.getfield 50, 3) := by decide +kernel
theorem d_Face_site_112 : decode prog_1_method_15_code 112 = .ok (.getfield 61, 3) := by decide +kernel
theorem d_Face_site_115 : decode prog_1_method_15_code 115 = .ok (.iload_n 3, 1) := by decide +kernel
theorem d_Face_site_116 : decode prog_1_method_15_code 116 = .ok (.invokevirtual 248, 3) := by decide +kernel
theorem d_Face_site_119 : decode prog_1_method_15_code 119 = .ok (.ireturn, 1) := by decide +kernel
theorem d_Face_site_120 : decode prog_1_method_15_code 120 = .ok (.iload 4, 2) := by decide +kernel
theorem d_Face_site_122 : decode prog_1_method_15_code 122 = .ok (.ireturn, 1) := by decide +kernel
theorem d_Face_site_123 : decode prog_1_method_15_code 123 = .ok (.aload_n 0, 1) := by decide +kernel
theorem d_Face_site_124 : decode prog_1_method_15_code 124 = .ok (.getfield 50, 3) := by decide +kernel
theorem d_Face_site_127 : decode prog_1_method_15_code 127 = .ok (.getfield 134, 3) := by decide +kernel
theorem d_Face_site_130 : decode prog_1_method_15_code 130 = .ok (.getfield 251, 3) := by decide +kernel
theorem d_Face_site_133 : decode prog_1_method_15_code 133 = .ok (.aload_n 0, 1) := by decide +kernel
theorem d_Face_site_134 : decode prog_1_method_15_code 134 = .ok (.getfield 50, 3) := by decide +kernel
theorem d_Face_site_137 : decode prog_1_method_15_code 137 = .ok (.getfield 61, 3) := by decide +kernel
theorem d_Face_site_140 : decode prog_1_method_15_code 140 = .ok (.iload_n 3, 1) := by decide +kernel
theorem d_Face_site_141 : decode prog_1_method_15_code 141 = .ok (.iconst 1, 1) := by decide +kernel
theorem d_Face_site_142 : decode prog_1_method_15_code 142 = .ok (.invokevirtual 254, 3) := by decide +kernel
theorem d_Face_site_145 : decode prog_1_method_15_code 145 = .ok (.invokevirtual 157, 3) := by decide +kernel
theorem d_Face_site_148 : decode prog_1_method_15_code 148 = .ok (.ireturn, 1) := by decide +kernel
theorem d_Face_site_149 : decode prog_1_method_15_code 149 = .ok (.aload_n 0, 1) := by decide +kernel
theorem d_Face_site_150 : decode prog_1_method_15_code 150 = .ok (.getfield 50, 3) := by decide +kernel
theorem d_Face_site_153 : decode prog_1_method_15_code 153 = .ok (.getfield 134, 3) := by decide +kernel
theorem d_Face_site_156 : decode prog_1_method_15_code 156 = .ok (.getfield 251, 3) := by decide +kernel
theorem d_Face_site_159 : decode prog_1_method_15_code 159 = .ok (.iload_n 3, 1) := by decide +kernel
theorem d_Face_site_160 : decode prog_1_method_15_code 160 = .ok (.invokevirtual 157, 3) := by decide +kernel
theorem d_Face_site_163 : decode prog_1_method_15_code 163 = .ok (.ireturn, 1) := by decide +kernel
theorem d_Face_site_164 : decode prog_1_method_15_code 164 = .ok (.aload_n 0, 1) := by decide +kernel
theorem d_Face_site_165 : decode prog_1_method_15_code 165 = .ok (.getfield 50, 3) := by decide +kernel
theorem d_Face_site_168 : decode prog_1_method_15_code 168 = .ok (.getfield 167, 3) := by decide +kernel
theorem d_Face_site_171 : decode prog_1_method_15_code 171 = .ok (.iconst 2, 1) := by decide +kernel
theorem d_Face_site_172 : decode prog_1_method_15_code 172 = .ok (.iload 4, 2) := by decide +kernel
theorem d_Face_site_174 : decode prog_1_method_15_code 174 = .ok (.invokestatic 257, 3) := by decide +kernel
theorem d_Face_site_177 : decode prog_1_method_15_code 177 = .ok (.invokevirtual 171, 3) := by decide +kernel
theorem d_Face_site_180 : decode prog_1_method_15_code 180 = .ok (.ireturn, 1) := by decide +kernel
theorem d_Face_site_181 : decode prog_1_method_15_code 181 = .ok (.iload 4, 2) := by decide +kernel
theorem d_Face_site_183 : decode prog_1_method_15_code 183 = .ok (.invokestatic 260, 3) := by decide +kernel
theorem d_Face_site_186 : decode prog_1_method_15_code 186 = .ok (.iconst 1, 1) := by decide +kernel
theorem d_Face_site_187 : decode prog_1_method_15_code 187 = .ok (.if_icmp .ne 7, 3) := by decide +kernel
theorem d_Face_site_190 : decode prog_1_method_15_code 190 = .ok (.iconst 1, 1) := by decide +kernel
theorem d_Face_site_191 : decode prog_1_method_15_code 191 = .ok (.goto 4, 3) := by decide +kernel
theorem d_Face_site_194 : decode prog_1_method_15_code 194 = .ok (.iconst 0, 1) := by decide +kernel
theorem d_Face_site_195 : decode prog_1_method_15_code 195 = .ok (.invokestatic 147, 3) := by decide +kernel
theorem d_Face_site_198 : decode prog_1_method_15_code 198 = .ok (.ireturn, 1) := by decide +kernel
theorem d_Face_site_199 : decode prog_1_method_15_code 199 = .ok (.aload_n 0, 1) := by decide +kernel
theorem d_Face_site_200 : decode prog_1_method_15_code 200 = .ok (.getfield 50, 3) := by decide +kernel
theorem d_Face_site_203 : decode prog_1_method_15_code 203 = .ok (.getfield 134, 3) := by decide +kernel
theorem d_Face_site_206 : decode prog_1_method_15_code 206 = .ok (.aload_n 0, 1) := by decide +kernel
theorem d_Face_site_207 : decode prog_1_method_15_code 207 = .ok (.getfield 50, 3) := by decide +kernel
theorem d_Face_site_210 : decode prog_1_method_15_code 210 = .ok (.getfield 61, 3) := by decide +kernel
theorem d_Face_site_213 : decode prog_1_method_15_code 213 = .ok (.iload_n 3, 1) := by decide +kernel
theorem d_Face_site_214 : decode prog_1_method_15_code 214 = .ok (.invokevirtual 248, 3) := by decide +kernel
theorem d_Face_site_217 : decode prog_1_method_15_code 217 = .ok (.invokevirtual 265, 3) := by decide +kernel
theorem d_Face_site_220 : decode prog_1_method_15_code 220 = .ok (.invokestatic 147, 3) := by decide +kernel
theorem d_Face_site_223 : decode prog_1_method_15_code 223 = .ok (.ireturn, 1) := by decide +kernel
theorem d_Face_site_224 : decode prog_1_method_15_code 224 = .ok (.new 190, 3) := by decide +kernel
theorem d_Face_site_227 : decode prog_1_method_15_code 227 = .ok (.dup, 1) := by decide +kernel
theorem d_Face_site_228 : decode prog_1_method_15_code 228 = .ok (.ldc_w 269, 3) := by decide +kernel
theorem d_Face_site_231 : decode prog_1_method_15_code 231 = .ok (.invokespecial 194, 3) := by decide +kernel
theorem d_Face_site_234 : decode prog_1_method_15_code 234 = .ok (.athrow, 1) := by decide +kernel
def fm_Face_site_j18 (a1 : Int) (a2 : Int) (w : fa_W) : Option (Int × Int × fa_W) :=
  some (1, 0, w)
set_option maxHeartbeats 4000000 in
set_option maxRecDepth 100000 in
theorem c_Face_site_j18 {p : Program} {l : Launch} {e : Env} {s : State} {m : MethodId} {args : Array Value} {below : List Frame} {meth : Method} {c : Code} {hh : Nat} {D : va_G} {b : Nat} {aC : Nat → ClassId} {H0 : Heap} {N T : Nat} (X : fa_GX p s m args meth c prog_1_method_15_code 5 ((Option.some Jvm.ClassFile.FieldType.int)) y_Face_site.cls D b aC) (hle : 6 ≤ hh) (hN : fa_NX ≤ N) (hT : fa_TX ≤ T) (a1 : Int) (a2 : Int) {rv : Int} {rw : fa_W}  : ∀ (w : fa_W) (_ : fm_Face_site_j18 a1 a2 w = some (0, rv, rw)), fa_GJ p l e (fa_rm hh) s m args below meth c 0 0 (MQ below (fa_Qc D b aC H0 N T (some (.int (fa_I rv))) rw) args s 0 0 (fun q => b ≤ q)) D b aC H0 N T 5 w 18 [] [] := by
  intro w hM
  unfold fm_Face_site_j18 at hM
  exact absurd (fa_c3 hM) (by decide)
def fm_Face_site_j195 (a1 : Int) (a2 : Int) (s0 : Bool) (w : fa_W) : Option (Int × Int × fa_W) :=
  some (0, fm_Face_oneIf s0 w, w)
set_option maxHeartbeats 4000000 in
set_option maxRecDepth 100000 in
theorem c_Face_site_j195 {p : Program} {l : Launch} {e : Env} {s : State} {m : MethodId} {args : Array Value} {below : List Frame} {meth : Method} {c : Code} {hh : Nat} {D : va_G} {b : Nat} {aC : Nat → ClassId} {H0 : Heap} {N T : Nat} (X : fa_GX p s m args meth c prog_1_method_15_code 5 ((Option.some Jvm.ClassFile.FieldType.int)) y_Face_site.cls D b aC) (hle : 6 ≤ hh) (hN : fa_NX ≤ N) (hT : fa_TX ≤ T) (a1 : Int) (a2 : Int) {rv : Int} {rw : fa_W}  : ∀ (s0 : Bool) (w : fa_W) (_ : fm_Face_site_j195 a1 a2 s0 w = some (0, rv, rw)), fa_GJ p l e (fa_rm hh) s m args below meth c 0 0 (MQ below (fa_Qc D b aC H0 N T (some (.int (fa_I rv))) rw) args s 0 0 (fun q => b ≤ q)) D b aC H0 N T 5 w 195 [] [.int (fa_I (fa_bi s0))] := by
  intro s0 w hM
  unfold fm_Face_site_j195 at hM
  refine g_callS_i X mi_Face_oneIf (c_Face_oneIf hN hT s0 w _ rfl) wd_1204 rfl (Nat.le_trans (Nat.le_of_ble_eq_true rfl) hle) (st := []) (Nat.le_of_ble_eq_true rfl) rfl d_Face_site_195 ?_
  cases hM
  exact g_iret X d_Face_site_198
def fm_Face_site (a1 : Int) (a2 : Int) (w : fa_W) : Option (Int × Int × fa_W) :=
  if fa_wr a1 < 0 then
  fm_Face_site_j18 a1 a2 w
  else
  (if fa_wr a1 < fa_wr (w (fa_rf (fa_sc (w 0 6)) 0) 15) then
  (fa_let (fr_at (fa_rf (fa_rf (fa_sc (w 0 6)) 0) 5) a1 w) fun x3_4 =>
  fa_let (fm_Flow_applied (fa_rf (fa_sc (w 0 6)) 2) (fa_rf (fa_sc (w 0 6)) 0) x3_4 w) fun x4_6 =>
  if fa_wr a2 = 0 then
  some (0, fm_Program_owner (fa_rf (fa_sc (w 0 6)) 0) x3_4 w, w)
  else
  if fa_wr a2 = 1 then
  some (0, x4_6, w)
  else
  if fa_wr a2 = 2 then
  some (0, fr_bits (fa_rf (fa_rf (fa_sc (w 0 6)) 2) 0) (fm_Program_part (fa_rf (fa_sc (w 0 6)) 0) x3_4 1 w) w, w)
  else
  if fa_wr a2 = 3 then
  some (0, fr_bits (fa_rf (fa_rf (fa_sc (w 0 6)) 2) 0) x3_4 w, w)
  else
  if fa_wr a2 = 4 then
  ((fm_Groups_groupOf (fa_rf (fa_sc (w 0 6)) 3) 2 (fm_Face_lowest x4_6 w) w).bind fun v18 =>
  some (0, v18, w))
  else
  if fa_wr a2 = 5 then
  (if fa_wr (fm_Integer_bitCount x4_6 w) = 1 then
  fm_Face_site_j195 a1 a2 true w
  else
  fm_Face_site_j195 a1 a2 false w)
  else
  if fa_wr a2 = 6 then
  some (0, fm_Face_oneIf (fm_Flow_looked (fa_rf (fa_sc (w 0 6)) 2) (fm_Program_owner (fa_rf (fa_sc (w 0 6)) 0) x3_4 w) w) w, w)
  else
  some (2, 0, w))
  else
  fm_Face_site_j18 a1 a2 w)
set_option maxHeartbeats 4000000 in
set_option maxRecDepth 100000 in
theorem c_Face_site {l : Launch} {D : va_G} {b : Nat} {aC : Nat → ClassId} {H0 : Heap} {N T : Nat} (hN : fa_NX ≤ N) (hT : fa_TX ≤ T) (a1 : Int) (a2 : Int)  (w : fa_W) (rv : Int) (rw : fa_W) (hM : fm_Face_site a1 a2 w = some (0, rv, rw)) : fa_MC l D b aC H0 N T y_Face_site prog_1_method_15_code 5 ((Option.some Jvm.ClassFile.FieldType.int)) (6) [.ref (b + 0), .int (fa_I a1), .int (fa_I a2)] w (some (.int (fa_I rv))) rw := by
  refine fa_enter (lv := [(0, .ref (b + 0)), (1, .int (fa_I a1)), (2, .int (fa_I a2))]) (by decide +kernel) (Nat.le_of_ble_eq_true rfl) rfl (fun hh hle hnm X => ?_)
  unfold fm_Face_site at hM
  refine g_iload_n X 1 rfl d_Face_site_0 ?_
  refine g_if_lt X 18 d_Face_site_1 (by decide) (fun hc1 => ?_) (fun hc1 => ?_)
  · have hM := fa_if_t hM hc1
    exact g_lv [] rfl (c_Face_site_j18 X hle hN hT a1 a2    _ hM)
  · have hM := fa_if_f hM hc1
    refine g_iload_n X 1 rfl d_Face_site_4 ?_
    refine g_aload_n X 0 rfl d_Face_site_5 ?_
    refine g_get X ck_0 fo_0 (fa_xn fo_0 (by decide) hN) 6 (by decide) wd_633 rfl (fr_0_6 rfl hT) d_Face_site_6 ?_
    refine g_getN X ck_7 (fa_scs _) (fa_xn (fa_scs _) (by decide) hN) 0 (by decide) wd_385 rfl (fa_fvR rfl (fa_xt (fa_scs _) (by decide) hT 0)) d_Face_site_9 ?_
    refine g_getN X ck_4 (fa_r7_0 _ (fa_scs _)) (fa_xn (fa_r7_0 _ (fa_scs _)) (by decide) hN) 15 (by decide) wd_105 rfl (fa_fvI rfl) d_Face_site_12 ?_
    refine g_icmp_lt X 28 d_Face_site_15 (by decide) (fun hc2 => ?_) (fun hc2 => ?_)
    · have hM := fa_if_t hM hc2
      refine g_aload_n X 0 rfl d_Face_site_28 ?_
      refine g_get X ck_0 fo_0 (fa_xn fo_0 (by decide) hN) 6 (by decide) wd_633 rfl (fr_0_6 rfl hT) d_Face_site_29 ?_
      refine g_getN X ck_7 (fa_scs _) (fa_xn (fa_scs _) (by decide) hN) 0 (by decide) wd_385 rfl (fa_fvR rfl (fa_xt (fa_scs _) (by decide) hT 0)) d_Face_site_32 ?_
      refine g_getN X ck_4 (fa_r7_0 _ (fa_scs _)) (fa_xn (fa_r7_0 _ (fa_scs _)) (by decide) hN) 5 (by decide) wd_73 rfl (fa_fvR rfl (fa_xt (fa_r7_0 _ (fa_scs _)) (by decide) hT 5)) d_Face_site_35 ?_
      refine g_iload_n X 1 rfl d_Face_site_38 ?_
      refine g_callV_i X ck_6 (fa_r4_5 _ (fa_r7_0 _ (fa_scs _))) (fa_xn (fa_r4_5 _ (fa_r7_0 _ (fa_scs _))) (by decide) hN) rfl mi_Row_at (ct_Row_at (fa_rf (fa_rf (fa_sc (w 0 6)) 0) 5) a1 (fa_ro (fa_r4_5 _ (fa_r7_0 _ (fa_scs _))) hN hT) w _ rfl) wd_678 rfl (Nat.le_trans (Nat.le_of_ble_eq_true rfl) hle) (st := []) (Nat.le_of_ble_eq_true rfl) rfl d_Face_site_39 ?_
      refine g_istore_n X (fun x3_4 => [(3, .int (fa_I x3_4)), (0, .ref (b + 0)), (1, .int (fa_I a1)), (2, .int (fa_I a2))]) d_Face_site_42 (by decide) (fun _ => rfl) (fun x3_4 ex3_4 => ?_)
      have hM := fa_let_to hM ex3_4
      refine g_aload_n X 1 rfl d_Face_site_43 ?_
      refine g_get X ck_0 fo_0 (fa_xn fo_0 (by decide) hN) 6 (by decide) wd_633 rfl (fr_0_6 rfl hT) d_Face_site_44 ?_
      refine g_getN X ck_7 (fa_scs _) (fa_xn (fa_scs _) (by decide) hN) 2 (by decide) wd_394 rfl (fa_fvR rfl (fa_xt (fa_scs _) (by decide) hT 2)) d_Face_site_47 ?_
      refine g_aload_n X 1 rfl d_Face_site_50 ?_
      refine g_get X ck_0 fo_0 (fa_xn fo_0 (by decide) hN) 6 (by decide) wd_633 rfl (fr_0_6 rfl hT) d_Face_site_51 ?_
      refine g_getN X ck_7 (fa_scs _) (fa_xn (fa_scs _) (by decide) hN) 0 (by decide) wd_385 rfl (fa_fvR rfl (fa_xt (fa_scs _) (by decide) hT 0)) d_Face_site_54 ?_
      refine g_iload_n X 0 rfl d_Face_site_57 ?_
      refine g_callV_i X ck_1 (fa_r7_2 _ (fa_scs _)) (fa_xn (fa_r7_2 _ (fa_scs _)) (by decide) hN) rfl mi_Flow_applied (c_Flow_applied hN hT (fa_rf (fa_sc (w 0 6)) 2) (fa_rf (fa_sc (w 0 6)) 0) x3_4 (fa_r7_2 _ (fa_scs _)) (fa_r7_0 _ (fa_scs _)) w _ rfl) wd_1264 rfl (Nat.le_trans (Nat.le_of_ble_eq_true rfl) hle) (st := []) (Nat.le_of_ble_eq_true rfl) rfl d_Face_site_58 ?_
      refine g_istore X (fun x4_6 => [(4, .int (fa_I x4_6)), (3, .int (fa_I x3_4)), (0, .ref (b + 0)), (1, .int (fa_I a1)), (2, .int (fa_I a2))]) d_Face_site_61 (by decide) (fun _ => rfl) (fun x4_6 ex4_6 => ?_)
      have hM := fa_let_to hM ex4_6
      refine g_iload_n X 4 rfl d_Face_site_63 ?_
      by_cases hc7 : fa_wr a2 = 0
      · have hM := fa_if_t hM hc7
        refine g_tableIn X 0 108 d_Face_site_64 hc7 (by decide) (by decide) rfl (by decide) ?_
        refine g_aload_n X 2 rfl d_Face_site_108 ?_
        refine g_get X ck_0 fo_0 (fa_xn fo_0 (by decide) hN) 6 (by decide) wd_633 rfl (fr_0_6 rfl hT) d_Face_site_109 ?_
        refine g_getN X ck_7 (fa_scs _) (fa_xn (fa_scs _) (by decide) hN) 0 (by decide) wd_385 rfl (fa_fvR rfl (fa_xt (fa_scs _) (by decide) hT 0)) d_Face_site_112 ?_
        refine g_iload_n X 1 rfl d_Face_site_115 ?_
        refine g_callV_i X ck_4 (fa_r7_0 _ (fa_scs _)) (fa_xn (fa_r7_0 _ (fa_scs _)) (by decide) hN) rfl mi_Program_owner (c_Program_owner hN hT (fa_rf (fa_sc (w 0 6)) 0) x3_4 (fa_r7_0 _ (fa_scs _)) w _ rfl) wd_1265 rfl (Nat.le_trans (Nat.le_of_ble_eq_true rfl) hle) (st := []) (Nat.le_of_ble_eq_true rfl) rfl d_Face_site_116 ?_
        cases hM
        exact g_iret X d_Face_site_119
      have hM := fa_if_f hM hc7
      by_cases hc9 : fa_wr a2 = 1
      · have hM := fa_if_t hM hc9
        refine g_tableIn X 1 120 d_Face_site_64 hc9 (by decide) (by decide) rfl (by decide) ?_
        refine g_iload X 0 rfl d_Face_site_120 ?_
        cases hM
        exact g_iret X d_Face_site_122
      have hM := fa_if_f hM hc9
      by_cases hc10 : fa_wr a2 = 2
      · have hM := fa_if_t hM hc10
        refine g_tableIn X 2 123 d_Face_site_64 hc10 (by decide) (by decide) rfl (by decide) ?_
        refine g_aload_n X 2 rfl d_Face_site_123 ?_
        refine g_get X ck_0 fo_0 (fa_xn fo_0 (by decide) hN) 6 (by decide) wd_633 rfl (fr_0_6 rfl hT) d_Face_site_124 ?_
        refine g_getN X ck_7 (fa_scs _) (fa_xn (fa_scs _) (by decide) hN) 2 (by decide) wd_394 rfl (fa_fvR rfl (fa_xt (fa_scs _) (by decide) hT 2)) d_Face_site_127 ?_
        refine g_getN X ck_1 (fa_r7_2 _ (fa_scs _)) (fa_xn (fa_r7_2 _ (fa_scs _)) (by decide) hN) 0 (by decide) wd_333 rfl (fa_fvR rfl (fa_xt (fa_r7_2 _ (fa_scs _)) (by decide) hT 0)) d_Face_site_130 ?_
        refine g_aload_n X 2 rfl d_Face_site_133 ?_
        refine g_get X ck_0 fo_0 (fa_xn fo_0 (by decide) hN) 6 (by decide) wd_633 rfl (fr_0_6 rfl hT) d_Face_site_134 ?_
        refine g_getN X ck_7 (fa_scs _) (fa_xn (fa_scs _) (by decide) hN) 0 (by decide) wd_385 rfl (fa_fvR rfl (fa_xt (fa_scs _) (by decide) hT 0)) d_Face_site_137 ?_
        refine g_iload_n X 1 rfl d_Face_site_140 ?_
        refine g_iconst X d_Face_site_141 ?_
        refine g_callV_i X ck_4 (fa_r7_0 _ (fa_scs _)) (fa_xn (fa_r7_0 _ (fa_scs _)) (by decide) hN) rfl mi_Program_part (c_Program_part hN hT (fa_rf (fa_sc (w 0 6)) 0) x3_4 1 (fa_r7_0 _ (fa_scs _)) w _ rfl) wd_1266 rfl (Nat.le_trans (Nat.le_of_ble_eq_true rfl) hle) (st := [.ref (b + (fa_rf (fa_rf (fa_sc (w 0 6)) 2) 0))]) (Nat.le_of_ble_eq_true rfl) rfl d_Face_site_142 ?_
        refine g_callV_i X ck_6 (fa_r1_0 _ (fa_r7_2 _ (fa_scs _))) (fa_xn (fa_r1_0 _ (fa_r7_2 _ (fa_scs _))) (by decide) hN) rfl mi_Row_bits (ct_Row_bits (fa_rf (fa_rf (fa_sc (w 0 6)) 2) 0) (fm_Program_part (fa_rf (fa_sc (w 0 6)) 0) x3_4 1 w) (fa_ro (fa_r1_0 _ (fa_r7_2 _ (fa_scs _))) hN hT) w _ rfl) wd_1205 rfl (Nat.le_trans (Nat.le_of_ble_eq_true rfl) hle) (st := []) (Nat.le_of_ble_eq_true rfl) rfl d_Face_site_145 ?_
        cases hM
        exact g_iret X d_Face_site_148
      have hM := fa_if_f hM hc10
      by_cases hc13 : fa_wr a2 = 3
      · have hM := fa_if_t hM hc13
        refine g_tableIn X 3 149 d_Face_site_64 hc13 (by decide) (by decide) rfl (by decide) ?_
        refine g_aload_n X 2 rfl d_Face_site_149 ?_
        refine g_get X ck_0 fo_0 (fa_xn fo_0 (by decide) hN) 6 (by decide) wd_633 rfl (fr_0_6 rfl hT) d_Face_site_150 ?_
        refine g_getN X ck_7 (fa_scs _) (fa_xn (fa_scs _) (by decide) hN) 2 (by decide) wd_394 rfl (fa_fvR rfl (fa_xt (fa_scs _) (by decide) hT 2)) d_Face_site_153 ?_
        refine g_getN X ck_1 (fa_r7_2 _ (fa_scs _)) (fa_xn (fa_r7_2 _ (fa_scs _)) (by decide) hN) 0 (by decide) wd_333 rfl (fa_fvR rfl (fa_xt (fa_r7_2 _ (fa_scs _)) (by decide) hT 0)) d_Face_site_156 ?_
        refine g_iload_n X 1 rfl d_Face_site_159 ?_
        refine g_callV_i X ck_6 (fa_r1_0 _ (fa_r7_2 _ (fa_scs _))) (fa_xn (fa_r1_0 _ (fa_r7_2 _ (fa_scs _))) (by decide) hN) rfl mi_Row_bits (ct_Row_bits (fa_rf (fa_rf (fa_sc (w 0 6)) 2) 0) x3_4 (fa_ro (fa_r1_0 _ (fa_r7_2 _ (fa_scs _))) hN hT) w _ rfl) wd_1205 rfl (Nat.le_trans (Nat.le_of_ble_eq_true rfl) hle) (st := []) (Nat.le_of_ble_eq_true rfl) rfl d_Face_site_160 ?_
        cases hM
        exact g_iret X d_Face_site_163
      have hM := fa_if_f hM hc13
      by_cases hc15 : fa_wr a2 = 4
      · have hM := fa_if_t hM hc15
        refine g_tableIn X 4 164 d_Face_site_64 hc15 (by decide) (by decide) rfl (by decide) ?_
        refine g_aload_n X 2 rfl d_Face_site_164 ?_
        refine g_get X ck_0 fo_0 (fa_xn fo_0 (by decide) hN) 6 (by decide) wd_633 rfl (fr_0_6 rfl hT) d_Face_site_165 ?_
        refine g_getN X ck_7 (fa_scs _) (fa_xn (fa_scs _) (by decide) hN) 3 (by decide) wd_398 rfl (fa_fvR rfl (fa_xt (fa_scs _) (by decide) hT 3)) d_Face_site_168 ?_
        refine g_iconst X d_Face_site_171 ?_
        refine g_iload X 0 rfl d_Face_site_172 ?_
        refine g_callS_i X mi_Face_lowest (c_Face_lowest hN hT x4_6 w _ rfl) wd_1267 rfl (Nat.le_trans (Nat.le_of_ble_eq_true rfl) hle) (st := [.int (fa_I 2), .ref (b + (fa_rf (fa_sc (w 0 6)) 3))]) (Nat.le_of_ble_eq_true rfl) rfl d_Face_site_174 ?_
        obtain ⟨v18, e17, hM⟩ := fa_ob hM
        refine g_callV_i X ck_2 (fa_r7_3 _ (fa_scs _)) (fa_xn (fa_r7_3 _ (fa_scs _)) (by decide) hN) rfl mi_Groups_groupOf (c_Groups_groupOf hN hT (fa_rf (fa_sc (w 0 6)) 3) 2 (fm_Face_lowest x4_6 w) (fa_r7_3 _ (fa_scs _)) w _ e17) wd_1207 rfl (Nat.le_trans (Nat.le_of_ble_eq_true rfl) hle) (st := []) (Nat.le_of_ble_eq_true rfl) rfl d_Face_site_177 ?_
        cases hM
        exact g_iret X d_Face_site_180
      have hM := fa_if_f hM hc15
      by_cases hc19 : fa_wr a2 = 5
      · have hM := fa_if_t hM hc19
        refine g_tableIn X 5 181 d_Face_site_64 hc19 (by decide) (by decide) rfl (by decide) ?_
        refine g_iload X 0 rfl d_Face_site_181 ?_
        refine g_callS_i X mi_Integer_bitCount (c_Integer_bitCount x4_6 w _ rfl) wd_1268 rfl (Nat.le_trans (Nat.le_of_ble_eq_true rfl) hle) (st := []) (Nat.le_of_ble_eq_true rfl) rfl d_Face_site_183 ?_
        refine g_iconst X d_Face_site_186 ?_
        refine g_icmp_ne X 194 d_Face_site_187 (by decide) (fun hc21 => ?_) (fun hc21 => ?_)
        · have hM := fa_if_f hM hc21
          refine g_iconst X d_Face_site_194 ?_
          exact g_lv [] rfl (c_Face_site_j195 X hle hN hT a1 a2    _ _ hM)
        · have hM := fa_if_t hM hc21
          refine g_iconst X d_Face_site_190 ?_
          refine g_goto X 195 d_Face_site_191 (by decide) ?_
          exact g_lv [] rfl (c_Face_site_j195 X hle hN hT a1 a2    _ _ hM)
      have hM := fa_if_f hM hc19
      by_cases hc23 : fa_wr a2 = 6
      · have hM := fa_if_t hM hc23
        refine g_tableIn X 6 199 d_Face_site_64 hc23 (by decide) (by decide) rfl (by decide) ?_
        refine g_aload_n X 2 rfl d_Face_site_199 ?_
        refine g_get X ck_0 fo_0 (fa_xn fo_0 (by decide) hN) 6 (by decide) wd_633 rfl (fr_0_6 rfl hT) d_Face_site_200 ?_
        refine g_getN X ck_7 (fa_scs _) (fa_xn (fa_scs _) (by decide) hN) 2 (by decide) wd_394 rfl (fa_fvR rfl (fa_xt (fa_scs _) (by decide) hT 2)) d_Face_site_203 ?_
        refine g_aload_n X 2 rfl d_Face_site_206 ?_
        refine g_get X ck_0 fo_0 (fa_xn fo_0 (by decide) hN) 6 (by decide) wd_633 rfl (fr_0_6 rfl hT) d_Face_site_207 ?_
        refine g_getN X ck_7 (fa_scs _) (fa_xn (fa_scs _) (by decide) hN) 0 (by decide) wd_385 rfl (fa_fvR rfl (fa_xt (fa_scs _) (by decide) hT 0)) d_Face_site_210 ?_
        refine g_iload_n X 1 rfl d_Face_site_213 ?_
        refine g_callV_i X ck_4 (fa_r7_0 _ (fa_scs _)) (fa_xn (fa_r7_0 _ (fa_scs _)) (by decide) hN) rfl mi_Program_owner (c_Program_owner hN hT (fa_rf (fa_sc (w 0 6)) 0) x3_4 (fa_r7_0 _ (fa_scs _)) w _ rfl) wd_1265 rfl (Nat.le_trans (Nat.le_of_ble_eq_true rfl) hle) (st := [.ref (b + (fa_rf (fa_sc (w 0 6)) 2))]) (Nat.le_of_ble_eq_true rfl) rfl d_Face_site_214 ?_
        refine g_callV_i X ck_1 (fa_r7_2 _ (fa_scs _)) (fa_xn (fa_r7_2 _ (fa_scs _)) (by decide) hN) rfl mi_Flow_looked (c_Flow_looked hN hT (fa_rf (fa_sc (w 0 6)) 2) (fm_Program_owner (fa_rf (fa_sc (w 0 6)) 0) x3_4 w) (fa_r7_2 _ (fa_scs _)) w _ rfl) wd_1269 rfl (Nat.le_trans (Nat.le_of_ble_eq_true rfl) hle) (st := []) (Nat.le_of_ble_eq_true rfl) rfl d_Face_site_217 ?_
        refine g_callS_i X mi_Face_oneIf (c_Face_oneIf hN hT (fm_Flow_looked (fa_rf (fa_sc (w 0 6)) 2) (fm_Program_owner (fa_rf (fa_sc (w 0 6)) 0) x3_4 w) w) w _ rfl) wd_1204 rfl (Nat.le_trans (Nat.le_of_ble_eq_true rfl) hle) (st := []) (Nat.le_of_ble_eq_true rfl) rfl d_Face_site_220 ?_
        cases hM
        exact g_iret X d_Face_site_223
      have hM := fa_if_f hM hc23
      refine g_tableDef X 224 d_Face_site_64 (by
    exact Or.inl (by omega)) (by decide) ?_
      exact absurd (fa_c3 hM) (by decide)
    · have hM := fa_if_f hM hc2
      exact g_lv [] rfl (c_Face_site_j18 X hle hN hT a1 a2    _ hM)
set_option maxHeartbeats 4000000 in
set_option maxRecDepth 100000 in
theorem cx_Face_site_j18 {p : Program} {l : Launch} {e : Env} {s : State} {m : MethodId} {args : Array Value} {below : List Frame} {meth : Method} {c : Code} {hh : Nat} {D : va_G} {b : Nat} {aC : Nat → ClassId} {H0 : Heap} {N T : Nat} (X : fa_GX p s m args meth c prog_1_method_15_code 5 ((Option.some Jvm.ClassFile.FieldType.int)) y_Face_site.cls D b aC) (hle : 6 ≤ hh) (hnx : ∀ x ∈ c.exceptionTable.toList, False) (hfl : l.stackTraces = false) (hN : fa_NX ≤ N) (hT : fa_TX ≤ T) (a1 : Int) (a2 : Int) {rv : Int} {rw : fa_W} {kk : Int} (hk : kk ≠ 0)  : ∀ (w : fa_W) (_ : fm_Face_site_j18 a1 a2 w = some (kk, rv, rw)), fa_GJ p l e (fa_rmx hh) s m args below meth c 0 0 (fa_XQ D b aC H0 N T below args s kk rw) D b aC H0 N T 5 w 18 [] [] := by
  intro w hM
  unfold fm_Face_site_j18 at hM
  cases hM
  exact g_throwS X hnx hfl (k := 1) (by decide) (names := ["java/lang/RuntimeException", "java/lang/Exception"]) dx_1_0 dx_1_1 dx_1_2 dx_1_5 (by decide +kernel) (by decide +kernel) wd_1184 wd_19 (List.mem_of_getElem? (i := 27) rfl) ax_1 ay_1 d_Face_site_18 d_Face_site_21 d_Face_site_22 d_Face_site_24 d_Face_site_27 (Nat.le_trans (Nat.le_of_ble_eq_true rfl) hle) (Nat.le_of_ble_eq_true rfl)
set_option maxHeartbeats 4000000 in
set_option maxRecDepth 100000 in
theorem cx_Face_site_j195 {p : Program} {l : Launch} {e : Env} {s : State} {m : MethodId} {args : Array Value} {below : List Frame} {meth : Method} {c : Code} {hh : Nat} {D : va_G} {b : Nat} {aC : Nat → ClassId} {H0 : Heap} {N T : Nat} (X : fa_GX p s m args meth c prog_1_method_15_code 5 ((Option.some Jvm.ClassFile.FieldType.int)) y_Face_site.cls D b aC) (hle : 6 ≤ hh) (hnx : ∀ x ∈ c.exceptionTable.toList, False) (hfl : l.stackTraces = false) (hN : fa_NX ≤ N) (hT : fa_TX ≤ T) (a1 : Int) (a2 : Int) {rv : Int} {rw : fa_W} {kk : Int} (hk : kk ≠ 0)  : ∀ (s0 : Bool) (w : fa_W) (_ : fm_Face_site_j195 a1 a2 s0 w = some (kk, rv, rw)), fa_GJ p l e (fa_rmx hh) s m args below meth c 0 0 (fa_XQ D b aC H0 N T below args s kk rw) D b aC H0 N T 5 w 195 [] [.int (fa_I (fa_bi s0))] := by
  intro s0 w hM
  unfold fm_Face_site_j195 at hM
  refine g_callS_i X mi_Face_oneIf (c_Face_oneIf hN hT s0 w _ rfl) wd_1204 rfl (Nat.le_trans (Nat.le_of_ble_eq_true rfl) hle) (st := []) (Nat.le_of_ble_eq_true rfl) rfl d_Face_site_195 ?_
  exact absurd (fa_c3 hM).symm hk
set_option maxHeartbeats 4000000 in
set_option maxRecDepth 100000 in
theorem cx_Face_site {l : Launch} {D : va_G} {b : Nat} {aC : Nat → ClassId} {H0 : Heap} {N T : Nat} (hN : fa_NX ≤ N) (hT : fa_TX ≤ T) (a1 : Int) (a2 : Int) (hfl : l.stackTraces = false) (w : fa_W) (rv : Int) (rw : fa_W) (kk : Int) (hk : kk ≠ 0) (hM : fm_Face_site a1 a2 w = some (kk, rv, rw)) : fa_MX l D b aC H0 N T y_Face_site prog_1_method_15_code 5 ((Option.some Jvm.ClassFile.FieldType.int)) (6) [.ref (b + 0), .int (fa_I a1), .int (fa_I a2)] w kk rw := by
  refine fa_xenter (lv := [(0, .ref (b + 0)), (1, .int (fa_I a1)), (2, .int (fa_I a2))]) (by decide +kernel) (Nat.le_of_ble_eq_true rfl) rfl (fun hh hle hnx X => ?_)
  unfold fm_Face_site at hM
  refine g_iload_n X 1 rfl d_Face_site_0 ?_
  refine g_if_lt X 18 d_Face_site_1 (by decide) (fun hc1 => ?_) (fun hc1 => ?_)
  · have hM := fa_if_t hM hc1
    exact g_lv [] rfl (cx_Face_site_j18 X hle hnx hfl hN hT a1 a2 hk    _ hM)
  · have hM := fa_if_f hM hc1
    refine g_iload_n X 1 rfl d_Face_site_4 ?_
    refine g_aload_n X 0 rfl d_Face_site_5 ?_
    refine g_get X ck_0 fo_0 (fa_xn fo_0 (by decide) hN) 6 (by decide) wd_633 rfl (fr_0_6 rfl hT) d_Face_site_6 ?_
    refine g_getN X ck_7 (fa_scs _) (fa_xn (fa_scs _) (by decide) hN) 0 (by decide) wd_385 rfl (fa_fvR rfl (fa_xt (fa_scs _) (by decide) hT 0)) d_Face_site_9 ?_
    refine g_getN X ck_4 (fa_r7_0 _ (fa_scs _)) (fa_xn (fa_r7_0 _ (fa_scs _)) (by decide) hN) 15 (by decide) wd_105 rfl (fa_fvI rfl) d_Face_site_12 ?_
    refine g_icmp_lt X 28 d_Face_site_15 (by decide) (fun hc2 => ?_) (fun hc2 => ?_)
    · have hM := fa_if_t hM hc2
      refine g_aload_n X 0 rfl d_Face_site_28 ?_
      refine g_get X ck_0 fo_0 (fa_xn fo_0 (by decide) hN) 6 (by decide) wd_633 rfl (fr_0_6 rfl hT) d_Face_site_29 ?_
      refine g_getN X ck_7 (fa_scs _) (fa_xn (fa_scs _) (by decide) hN) 0 (by decide) wd_385 rfl (fa_fvR rfl (fa_xt (fa_scs _) (by decide) hT 0)) d_Face_site_32 ?_
      refine g_getN X ck_4 (fa_r7_0 _ (fa_scs _)) (fa_xn (fa_r7_0 _ (fa_scs _)) (by decide) hN) 5 (by decide) wd_73 rfl (fa_fvR rfl (fa_xt (fa_r7_0 _ (fa_scs _)) (by decide) hT 5)) d_Face_site_35 ?_
      refine g_iload_n X 1 rfl d_Face_site_38 ?_
      refine g_callV_i X ck_6 (fa_r4_5 _ (fa_r7_0 _ (fa_scs _))) (fa_xn (fa_r4_5 _ (fa_r7_0 _ (fa_scs _))) (by decide) hN) rfl mi_Row_at (ct_Row_at (fa_rf (fa_rf (fa_sc (w 0 6)) 0) 5) a1 (fa_ro (fa_r4_5 _ (fa_r7_0 _ (fa_scs _))) hN hT) w _ rfl) wd_678 rfl (Nat.le_trans (Nat.le_of_ble_eq_true rfl) hle) (st := []) (Nat.le_of_ble_eq_true rfl) rfl d_Face_site_39 ?_
      refine g_istore_n X (fun x3_4 => [(3, .int (fa_I x3_4)), (0, .ref (b + 0)), (1, .int (fa_I a1)), (2, .int (fa_I a2))]) d_Face_site_42 (by decide) (fun _ => rfl) (fun x3_4 ex3_4 => ?_)
      have hM := fa_let_to hM ex3_4
      refine g_aload_n X 1 rfl d_Face_site_43 ?_
      refine g_get X ck_0 fo_0 (fa_xn fo_0 (by decide) hN) 6 (by decide) wd_633 rfl (fr_0_6 rfl hT) d_Face_site_44 ?_
      refine g_getN X ck_7 (fa_scs _) (fa_xn (fa_scs _) (by decide) hN) 2 (by decide) wd_394 rfl (fa_fvR rfl (fa_xt (fa_scs _) (by decide) hT 2)) d_Face_site_47 ?_
      refine g_aload_n X 1 rfl d_Face_site_50 ?_
      refine g_get X ck_0 fo_0 (fa_xn fo_0 (by decide) hN) 6 (by decide) wd_633 rfl (fr_0_6 rfl hT) d_Face_site_51 ?_
      refine g_getN X ck_7 (fa_scs _) (fa_xn (fa_scs _) (by decide) hN) 0 (by decide) wd_385 rfl (fa_fvR rfl (fa_xt (fa_scs _) (by decide) hT 0)) d_Face_site_54 ?_
      refine g_iload_n X 0 rfl d_Face_site_57 ?_
      refine g_callV_i X ck_1 (fa_r7_2 _ (fa_scs _)) (fa_xn (fa_r7_2 _ (fa_scs _)) (by decide) hN) rfl mi_Flow_applied (c_Flow_applied hN hT (fa_rf (fa_sc (w 0 6)) 2) (fa_rf (fa_sc (w 0 6)) 0) x3_4 (fa_r7_2 _ (fa_scs _)) (fa_r7_0 _ (fa_scs _)) w _ rfl) wd_1264 rfl (Nat.le_trans (Nat.le_of_ble_eq_true rfl) hle) (st := []) (Nat.le_of_ble_eq_true rfl) rfl d_Face_site_58 ?_
      refine g_istore X (fun x4_6 => [(4, .int (fa_I x4_6)), (3, .int (fa_I x3_4)), (0, .ref (b + 0)), (1, .int (fa_I a1)), (2, .int (fa_I a2))]) d_Face_site_61 (by decide) (fun _ => rfl) (fun x4_6 ex4_6 => ?_)
      have hM := fa_let_to hM ex4_6
      refine g_iload_n X 4 rfl d_Face_site_63 ?_
      by_cases hc7 : fa_wr a2 = 0
      · have hM := fa_if_t hM hc7
        refine g_tableIn X 0 108 d_Face_site_64 hc7 (by decide) (by decide) rfl (by decide) ?_
        refine g_aload_n X 2 rfl d_Face_site_108 ?_
        refine g_get X ck_0 fo_0 (fa_xn fo_0 (by decide) hN) 6 (by decide) wd_633 rfl (fr_0_6 rfl hT) d_Face_site_109 ?_
        refine g_getN X ck_7 (fa_scs _) (fa_xn (fa_scs _) (by decide) hN) 0 (by decide) wd_385 rfl (fa_fvR rfl (fa_xt (fa_scs _) (by decide) hT 0)) d_Face_site_112 ?_
        refine g_iload_n X 1 rfl d_Face_site_115 ?_
        refine g_callV_i X ck_4 (fa_r7_0 _ (fa_scs _)) (fa_xn (fa_r7_0 _ (fa_scs _)) (by decide) hN) rfl mi_Program_owner (c_Program_owner hN hT (fa_rf (fa_sc (w 0 6)) 0) x3_4 (fa_r7_0 _ (fa_scs _)) w _ rfl) wd_1265 rfl (Nat.le_trans (Nat.le_of_ble_eq_true rfl) hle) (st := []) (Nat.le_of_ble_eq_true rfl) rfl d_Face_site_116 ?_
        exact absurd (fa_c3 hM).symm hk
      have hM := fa_if_f hM hc7
      by_cases hc9 : fa_wr a2 = 1
      · have hM := fa_if_t hM hc9
        refine g_tableIn X 1 120 d_Face_site_64 hc9 (by decide) (by decide) rfl (by decide) ?_
        refine g_iload X 0 rfl d_Face_site_120 ?_
        exact absurd (fa_c3 hM).symm hk
      have hM := fa_if_f hM hc9
      by_cases hc10 : fa_wr a2 = 2
      · have hM := fa_if_t hM hc10
        refine g_tableIn X 2 123 d_Face_site_64 hc10 (by decide) (by decide) rfl (by decide) ?_
        refine g_aload_n X 2 rfl d_Face_site_123 ?_
        refine g_get X ck_0 fo_0 (fa_xn fo_0 (by decide) hN) 6 (by decide) wd_633 rfl (fr_0_6 rfl hT) d_Face_site_124 ?_
        refine g_getN X ck_7 (fa_scs _) (fa_xn (fa_scs _) (by decide) hN) 2 (by decide) wd_394 rfl (fa_fvR rfl (fa_xt (fa_scs _) (by decide) hT 2)) d_Face_site_127 ?_
        refine g_getN X ck_1 (fa_r7_2 _ (fa_scs _)) (fa_xn (fa_r7_2 _ (fa_scs _)) (by decide) hN) 0 (by decide) wd_333 rfl (fa_fvR rfl (fa_xt (fa_r7_2 _ (fa_scs _)) (by decide) hT 0)) d_Face_site_130 ?_
        refine g_aload_n X 2 rfl d_Face_site_133 ?_
        refine g_get X ck_0 fo_0 (fa_xn fo_0 (by decide) hN) 6 (by decide) wd_633 rfl (fr_0_6 rfl hT) d_Face_site_134 ?_
        refine g_getN X ck_7 (fa_scs _) (fa_xn (fa_scs _) (by decide) hN) 0 (by decide) wd_385 rfl (fa_fvR rfl (fa_xt (fa_scs _) (by decide) hT 0)) d_Face_site_137 ?_
        refine g_iload_n X 1 rfl d_Face_site_140 ?_
        refine g_iconst X d_Face_site_141 ?_
        refine g_callV_i X ck_4 (fa_r7_0 _ (fa_scs _)) (fa_xn (fa_r7_0 _ (fa_scs _)) (by decide) hN) rfl mi_Program_part (c_Program_part hN hT (fa_rf (fa_sc (w 0 6)) 0) x3_4 1 (fa_r7_0 _ (fa_scs _)) w _ rfl) wd_1266 rfl (Nat.le_trans (Nat.le_of_ble_eq_true rfl) hle) (st := [.ref (b + (fa_rf (fa_rf (fa_sc (w 0 6)) 2) 0))]) (Nat.le_of_ble_eq_true rfl) rfl d_Face_site_142 ?_
        refine g_callV_i X ck_6 (fa_r1_0 _ (fa_r7_2 _ (fa_scs _))) (fa_xn (fa_r1_0 _ (fa_r7_2 _ (fa_scs _))) (by decide) hN) rfl mi_Row_bits (ct_Row_bits (fa_rf (fa_rf (fa_sc (w 0 6)) 2) 0) (fm_Program_part (fa_rf (fa_sc (w 0 6)) 0) x3_4 1 w) (fa_ro (fa_r1_0 _ (fa_r7_2 _ (fa_scs _))) hN hT) w _ rfl) wd_1205 rfl (Nat.le_trans (Nat.le_of_ble_eq_true rfl) hle) (st := []) (Nat.le_of_ble_eq_true rfl) rfl d_Face_site_145 ?_
        exact absurd (fa_c3 hM).symm hk
      have hM := fa_if_f hM hc10
      by_cases hc13 : fa_wr a2 = 3
      · have hM := fa_if_t hM hc13
        refine g_tableIn X 3 149 d_Face_site_64 hc13 (by decide) (by decide) rfl (by decide) ?_
        refine g_aload_n X 2 rfl d_Face_site_149 ?_
        refine g_get X ck_0 fo_0 (fa_xn fo_0 (by decide) hN) 6 (by decide) wd_633 rfl (fr_0_6 rfl hT) d_Face_site_150 ?_
        refine g_getN X ck_7 (fa_scs _) (fa_xn (fa_scs _) (by decide) hN) 2 (by decide) wd_394 rfl (fa_fvR rfl (fa_xt (fa_scs _) (by decide) hT 2)) d_Face_site_153 ?_
        refine g_getN X ck_1 (fa_r7_2 _ (fa_scs _)) (fa_xn (fa_r7_2 _ (fa_scs _)) (by decide) hN) 0 (by decide) wd_333 rfl (fa_fvR rfl (fa_xt (fa_r7_2 _ (fa_scs _)) (by decide) hT 0)) d_Face_site_156 ?_
        refine g_iload_n X 1 rfl d_Face_site_159 ?_
        refine g_callV_i X ck_6 (fa_r1_0 _ (fa_r7_2 _ (fa_scs _))) (fa_xn (fa_r1_0 _ (fa_r7_2 _ (fa_scs _))) (by decide) hN) rfl mi_Row_bits (ct_Row_bits (fa_rf (fa_rf (fa_sc (w 0 6)) 2) 0) x3_4 (fa_ro (fa_r1_0 _ (fa_r7_2 _ (fa_scs _))) hN hT) w _ rfl) wd_1205 rfl (Nat.le_trans (Nat.le_of_ble_eq_true rfl) hle) (st := []) (Nat.le_of_ble_eq_true rfl) rfl d_Face_site_160 ?_
        exact absurd (fa_c3 hM).symm hk
      have hM := fa_if_f hM hc13
      by_cases hc15 : fa_wr a2 = 4
      · have hM := fa_if_t hM hc15
        refine g_tableIn X 4 164 d_Face_site_64 hc15 (by decide) (by decide) rfl (by decide) ?_
        refine g_aload_n X 2 rfl d_Face_site_164 ?_
        refine g_get X ck_0 fo_0 (fa_xn fo_0 (by decide) hN) 6 (by decide) wd_633 rfl (fr_0_6 rfl hT) d_Face_site_165 ?_
        refine g_getN X ck_7 (fa_scs _) (fa_xn (fa_scs _) (by decide) hN) 3 (by decide) wd_398 rfl (fa_fvR rfl (fa_xt (fa_scs _) (by decide) hT 3)) d_Face_site_168 ?_
        refine g_iconst X d_Face_site_171 ?_
        refine g_iload X 0 rfl d_Face_site_172 ?_
        refine g_callS_i X mi_Face_lowest (c_Face_lowest hN hT x4_6 w _ rfl) wd_1267 rfl (Nat.le_trans (Nat.le_of_ble_eq_true rfl) hle) (st := [.int (fa_I 2), .ref (b + (fa_rf (fa_sc (w 0 6)) 3))]) (Nat.le_of_ble_eq_true rfl) rfl d_Face_site_174 ?_
        obtain ⟨v18, e17, hM⟩ := fa_ob hM
        refine g_callV_i X ck_2 (fa_r7_3 _ (fa_scs _)) (fa_xn (fa_r7_3 _ (fa_scs _)) (by decide) hN) rfl mi_Groups_groupOf (c_Groups_groupOf hN hT (fa_rf (fa_sc (w 0 6)) 3) 2 (fm_Face_lowest x4_6 w) (fa_r7_3 _ (fa_scs _)) w _ e17) wd_1207 rfl (Nat.le_trans (Nat.le_of_ble_eq_true rfl) hle) (st := []) (Nat.le_of_ble_eq_true rfl) rfl d_Face_site_177 ?_
        exact absurd (fa_c3 hM).symm hk
      have hM := fa_if_f hM hc15
      by_cases hc19 : fa_wr a2 = 5
      · have hM := fa_if_t hM hc19
        refine g_tableIn X 5 181 d_Face_site_64 hc19 (by decide) (by decide) rfl (by decide) ?_
        refine g_iload X 0 rfl d_Face_site_181 ?_
        refine g_callS_i X mi_Integer_bitCount (c_Integer_bitCount x4_6 w _ rfl) wd_1268 rfl (Nat.le_trans (Nat.le_of_ble_eq_true rfl) hle) (st := []) (Nat.le_of_ble_eq_true rfl) rfl d_Face_site_183 ?_
        refine g_iconst X d_Face_site_186 ?_
        refine g_icmp_ne X 194 d_Face_site_187 (by decide) (fun hc21 => ?_) (fun hc21 => ?_)
        · have hM := fa_if_f hM hc21
          refine g_iconst X d_Face_site_194 ?_
          exact g_lv [] rfl (cx_Face_site_j195 X hle hnx hfl hN hT a1 a2 hk    _ _ hM)
        · have hM := fa_if_t hM hc21
          refine g_iconst X d_Face_site_190 ?_
          refine g_goto X 195 d_Face_site_191 (by decide) ?_
          exact g_lv [] rfl (cx_Face_site_j195 X hle hnx hfl hN hT a1 a2 hk    _ _ hM)
      have hM := fa_if_f hM hc19
      by_cases hc23 : fa_wr a2 = 6
      · have hM := fa_if_t hM hc23
        refine g_tableIn X 6 199 d_Face_site_64 hc23 (by decide) (by decide) rfl (by decide) ?_
        refine g_aload_n X 2 rfl d_Face_site_199 ?_
        refine g_get X ck_0 fo_0 (fa_xn fo_0 (by decide) hN) 6 (by decide) wd_633 rfl (fr_0_6 rfl hT) d_Face_site_200 ?_
        refine g_getN X ck_7 (fa_scs _) (fa_xn (fa_scs _) (by decide) hN) 2 (by decide) wd_394 rfl (fa_fvR rfl (fa_xt (fa_scs _) (by decide) hT 2)) d_Face_site_203 ?_
        refine g_aload_n X 2 rfl d_Face_site_206 ?_
        refine g_get X ck_0 fo_0 (fa_xn fo_0 (by decide) hN) 6 (by decide) wd_633 rfl (fr_0_6 rfl hT) d_Face_site_207 ?_
        refine g_getN X ck_7 (fa_scs _) (fa_xn (fa_scs _) (by decide) hN) 0 (by decide) wd_385 rfl (fa_fvR rfl (fa_xt (fa_scs _) (by decide) hT 0)) d_Face_site_210 ?_
        refine g_iload_n X 1 rfl d_Face_site_213 ?_
        refine g_callV_i X ck_4 (fa_r7_0 _ (fa_scs _)) (fa_xn (fa_r7_0 _ (fa_scs _)) (by decide) hN) rfl mi_Program_owner (c_Program_owner hN hT (fa_rf (fa_sc (w 0 6)) 0) x3_4 (fa_r7_0 _ (fa_scs _)) w _ rfl) wd_1265 rfl (Nat.le_trans (Nat.le_of_ble_eq_true rfl) hle) (st := [.ref (b + (fa_rf (fa_sc (w 0 6)) 2))]) (Nat.le_of_ble_eq_true rfl) rfl d_Face_site_214 ?_
        refine g_callV_i X ck_1 (fa_r7_2 _ (fa_scs _)) (fa_xn (fa_r7_2 _ (fa_scs _)) (by decide) hN) rfl mi_Flow_looked (c_Flow_looked hN hT (fa_rf (fa_sc (w 0 6)) 2) (fm_Program_owner (fa_rf (fa_sc (w 0 6)) 0) x3_4 w) (fa_r7_2 _ (fa_scs _)) w _ rfl) wd_1269 rfl (Nat.le_trans (Nat.le_of_ble_eq_true rfl) hle) (st := []) (Nat.le_of_ble_eq_true rfl) rfl d_Face_site_217 ?_
        refine g_callS_i X mi_Face_oneIf (c_Face_oneIf hN hT (fm_Flow_looked (fa_rf (fa_sc (w 0 6)) 2) (fm_Program_owner (fa_rf (fa_sc (w 0 6)) 0) x3_4 w) w) w _ rfl) wd_1204 rfl (Nat.le_trans (Nat.le_of_ble_eq_true rfl) hle) (st := []) (Nat.le_of_ble_eq_true rfl) rfl d_Face_site_220 ?_
        exact absurd (fa_c3 hM).symm hk
      have hM := fa_if_f hM hc23
      refine g_tableDef X 224 d_Face_site_64 (by
    exact Or.inl (by omega)) (by decide) ?_
      cases hM
      exact g_throwSW X hnx hfl (k := 2) (by decide) (names := ["java/lang/RuntimeException", "java/lang/Exception"]) dx_2_0 dx_2_1 dx_2_2 dx_2_5 (by decide +kernel) (by decide +kernel) wd_1213 wd_20 (List.mem_of_getElem? (i := 28) rfl) ax_2 ay_2 d_Face_site_224 d_Face_site_227 d_Face_site_228 d_Face_site_231 d_Face_site_234 (Nat.le_trans (Nat.le_of_ble_eq_true rfl) hle) (Nat.le_of_ble_eq_true rfl)
    · have hM := fa_if_f hM hc2
      exact g_lv [] rfl (cx_Face_site_j18 X hle hnx hfl hN hT a1 a2 hk    _ hM)
theorem d_Face_needSplit_0 : decode prog_1_method_17_code 0 = .ok (.iload_n 1, 1) := by decide +kernel
theorem d_Face_needSplit_1 : decode prog_1_method_17_code 1 = .ok (.ifCond .lt 8, 3) := by decide +kernel
theorem d_Face_needSplit_4 : decode prog_1_method_17_code 4 = .ok (.iload_n 1, 1) := by decide +kernel
theorem d_Face_needSplit_5 : decode prog_1_method_17_code 5 = .ok (.iconst 3, 1) := by decide +kernel
theorem d_Face_needSplit_6 : decode prog_1_method_17_code 6 = .ok (.if_icmp .lt 14, 3) := by decide +kernel
theorem d_Face_needSplit_9 : decode prog_1_method_17_code 9 = .ok (.new 93, 3) := by decide +kernel
theorem d_Face_needSplit_12 : decode prog_1_method_17_code 12 = .ok (.dup, 1) := by decide +kernel
theorem d_Face_needSplit_13 : decode prog_1_method_17_code 13 = .ok (.ldc_w 285, 3) := by decide +kernel
theorem d_Face_needSplit_16 : decode prog_1_method_17_code 16 = .ok (.invokespecial 97, 3) := by decide +kernel
theorem d_Face_needSplit_19 : decode prog_1_method_17_code 19 = .ok (.athrow, 1) := by decide +kernel
theorem d_Face_needSplit_20 : decode prog_1_method_17_code 20 = .ok (.return_, 1) := by decide +kernel
def fm_Face_needSplit_j9 (a1 : Int) (w : fa_W) : Option (Int × fa_W) :=
  some (3, w)
set_option maxHeartbeats 4000000 in
set_option maxRecDepth 100000 in
theorem c_Face_needSplit_j9 {p : Program} {l : Launch} {e : Env} {s : State} {m : MethodId} {args : Array Value} {below : List Frame} {meth : Method} {c : Code} {hh : Nat} {D : va_G} {b : Nat} {aC : Nat → ClassId} {H0 : Heap} {N T : Nat} (X : fa_GX p s m args meth c prog_1_method_17_code 2 ((Option.none : Option Jvm.ClassFile.FieldType)) y_Face_needSplit.cls D b aC) (hle : 6 ≤ hh) (hN : fa_NX ≤ N) (hT : fa_TX ≤ T) (a1 : Int) {rw : fa_W}  : ∀ (w : fa_W) (_ : fm_Face_needSplit_j9 a1 w = some (0, rw)), fa_GJ p l e (fa_rm hh) s m args below meth c 0 0 (MQ below (fa_Qc D b aC H0 N T (none) rw) args s 0 0 (fun q => b ≤ q)) D b aC H0 N T 2 w 9 [] [] := by
  intro w hM
  unfold fm_Face_needSplit_j9 at hM
  exact absurd (fa_c3 hM) (by decide)
def fm_Face_needSplit (a1 : Int) (w : fa_W) : Option (Int × fa_W) :=
  if fa_wr a1 < 0 then
  fm_Face_needSplit_j9 a1 w
  else
  (if fa_wr a1 < 3 then
  some (0, w)
  else
  fm_Face_needSplit_j9 a1 w)
set_option maxHeartbeats 4000000 in
set_option maxRecDepth 100000 in
theorem c_Face_needSplit {l : Launch} {D : va_G} {b : Nat} {aC : Nat → ClassId} {H0 : Heap} {N T : Nat} (hN : fa_NX ≤ N) (hT : fa_TX ≤ T) (a1 : Int)  (w : fa_W) (rw : fa_W) (hM : fm_Face_needSplit a1 w = some (0, rw)) : fa_MC l D b aC H0 N T y_Face_needSplit prog_1_method_17_code 2 ((Option.none : Option Jvm.ClassFile.FieldType)) (6) [.ref (b + 0), .int (fa_I a1)] w (none) rw := by
  refine fa_enter (lv := [(0, .ref (b + 0)), (1, .int (fa_I a1))]) (by decide +kernel) (Nat.le_of_ble_eq_true rfl) rfl (fun hh hle hnm X => ?_)
  unfold fm_Face_needSplit at hM
  refine g_iload_n X 1 rfl d_Face_needSplit_0 ?_
  refine g_if_lt X 9 d_Face_needSplit_1 (by decide) (fun hc1 => ?_) (fun hc1 => ?_)
  · have hM := fa_if_t hM hc1
    exact g_lv [] rfl (c_Face_needSplit_j9 X hle hN hT a1    _ hM)
  · have hM := fa_if_f hM hc1
    refine g_iload_n X 1 rfl d_Face_needSplit_4 ?_
    refine g_iconst X d_Face_needSplit_5 ?_
    refine g_icmp_lt X 20 d_Face_needSplit_6 (by decide) (fun hc2 => ?_) (fun hc2 => ?_)
    · have hM := fa_if_t hM hc2
      cases hM
      exact g_vret X d_Face_needSplit_20
    · have hM := fa_if_f hM hc2
      exact g_lv [] rfl (c_Face_needSplit_j9 X hle hN hT a1    _ hM)
set_option maxHeartbeats 4000000 in
set_option maxRecDepth 100000 in
theorem cx_Face_needSplit_j9 {p : Program} {l : Launch} {e : Env} {s : State} {m : MethodId} {args : Array Value} {below : List Frame} {meth : Method} {c : Code} {hh : Nat} {D : va_G} {b : Nat} {aC : Nat → ClassId} {H0 : Heap} {N T : Nat} (X : fa_GX p s m args meth c prog_1_method_17_code 2 ((Option.none : Option Jvm.ClassFile.FieldType)) y_Face_needSplit.cls D b aC) (hle : 6 ≤ hh) (hnx : ∀ x ∈ c.exceptionTable.toList, False) (hfl : l.stackTraces = false) (hN : fa_NX ≤ N) (hT : fa_TX ≤ T) (a1 : Int) {rw : fa_W} {kk : Int} (hk : kk ≠ 0)  : ∀ (w : fa_W) (_ : fm_Face_needSplit_j9 a1 w = some (kk, rw)), fa_GJ p l e (fa_rmx hh) s m args below meth c 0 0 (fa_XQ D b aC H0 N T below args s kk rw) D b aC H0 N T 2 w 9 [] [] := by
  intro w hM
  unfold fm_Face_needSplit_j9 at hM
  cases hM
  exact g_throwSW X hnx hfl (k := 3) (by decide) (names := ["java/lang/RuntimeException", "java/lang/Exception"]) dx_3_0 dx_3_1 dx_3_2 dx_3_5 (by decide +kernel) (by decide +kernel) wd_1083 wd_17 (List.mem_of_getElem? (i := 30) rfl) ax_3 ay_3 d_Face_needSplit_9 d_Face_needSplit_12 d_Face_needSplit_13 d_Face_needSplit_16 d_Face_needSplit_19 (Nat.le_trans (Nat.le_of_ble_eq_true rfl) hle) (Nat.le_of_ble_eq_true rfl)
set_option maxHeartbeats 4000000 in
set_option maxRecDepth 100000 in
theorem cx_Face_needSplit {l : Launch} {D : va_G} {b : Nat} {aC : Nat → ClassId} {H0 : Heap} {N T : Nat} (hN : fa_NX ≤ N) (hT : fa_TX ≤ T) (a1 : Int) (hfl : l.stackTraces = false) (w : fa_W) (rw : fa_W) (kk : Int) (hk : kk ≠ 0) (hM : fm_Face_needSplit a1 w = some (kk, rw)) : fa_MX l D b aC H0 N T y_Face_needSplit prog_1_method_17_code 2 ((Option.none : Option Jvm.ClassFile.FieldType)) (6) [.ref (b + 0), .int (fa_I a1)] w kk rw := by
  refine fa_xenter (lv := [(0, .ref (b + 0)), (1, .int (fa_I a1))]) (by decide +kernel) (Nat.le_of_ble_eq_true rfl) rfl (fun hh hle hnx X => ?_)
  unfold fm_Face_needSplit at hM
  refine g_iload_n X 1 rfl d_Face_needSplit_0 ?_
  refine g_if_lt X 9 d_Face_needSplit_1 (by decide) (fun hc1 => ?_) (fun hc1 => ?_)
  · have hM := fa_if_t hM hc1
    exact g_lv [] rfl (cx_Face_needSplit_j9 X hle hnx hfl hN hT a1 hk    _ hM)
  · have hM := fa_if_f hM hc1
    refine g_iload_n X 1 rfl d_Face_needSplit_4 ?_
    refine g_iconst X d_Face_needSplit_5 ?_
    refine g_icmp_lt X 20 d_Face_needSplit_6 (by decide) (fun hc2 => ?_) (fun hc2 => ?_)
    · have hM := fa_if_t hM hc2
      exact absurd (fa_c3 hM).symm hk
    · have hM := fa_if_f hM hc2
      exact g_lv [] rfl (cx_Face_needSplit_j9 X hle hnx hfl hN hT a1 hk    _ hM)
theorem d_Face_split_0 : decode prog_1_method_16_code 0 = .ok (.iload_n 2, 1) := by decide +kernel
theorem d_Face_split_1 : decode prog_1_method_16_code 1 = .ok (.ifCond .lt 8, 3) := by decide +kernel
theorem d_Face_split_4 : decode prog_1_method_16_code 4 = .ok (.iload_n 2, 1) := by decide +kernel
theorem d_Face_split_5 : decode prog_1_method_16_code 5 = .ok (.iconst 4, 1) := by decide +kernel
theorem d_Face_split_6 : decode prog_1_method_16_code 6 = .ok (.if_icmp .le 14, 3) := by decide +kernel
theorem d_Face_split_9 : decode prog_1_method_16_code 9 = .ok (.new 190, 3) := by decide +kernel
theorem d_Face_split_12 : decode prog_1_method_16_code 12 = .ok (.dup, 1) := by decide +kernel
theorem d_Face_split_13 : decode prog_1_method_16_code 13 = .ok (.ldc_w 271, 3) := by decide +kernel
theorem d_Face_split_16 : decode prog_1_method_16_code 16 = .ok (.invokespecial 194, 3) := by decide +kernel
theorem d_Face_split_19 : decode prog_1_method_16_code 19 = .ok (.athrow, 1) := by decide +kernel
theorem d_Face_split_20 : decode prog_1_method_16_code 20 = .ok (.aload_n 0, 1) := by decide +kernel
theorem d_Face_split_21 : decode prog_1_method_16_code 21 = .ok (.iload_n 1, 1) := by decide +kernel
theorem d_Face_split_22 : decode prog_1_method_16_code 22 = .ok (.invokevirtual 273, 3) := by decide +kernel
theorem d_Face_split_25 : decode prog_1_method_16_code 25 = .ok (.iload_n 2, 1) := by decide +kernel
theorem d_Face_split_26 : decode prog_1_method_16_code 26 = .ok (.tableswitch 100 0 3 #[30, 42, 64, 78], 30) := by decide +kernel
theorem d_Face_split_56 : decode prog_1_method_16_code 56 = .ok (.aload_n 0, 1) := by decide +kernel
theorem d_Face_split_57 : decode prog_1_method_16_code 57 = .ok (.getfield 50, 3) := by decide +kernel
theorem d_Face_split_60 : decode prog_1_method_16_code 60 = .ok (.getfield 167, 3) := by decide +kernel
theorem d_Face_split_63 : decode prog_1_method_16_code 63 = .ok (.iload_n 1, 1) := by decide +kernel
theorem d_Face_split_64 : decode prog_1_method_16_code 64 = .ok (.invokevirtual 276, 3) := by decide +kernel
theorem d_Face_split_67 : decode prog_1_method_16_code 67 = .ok (.ireturn, 1) := by decide +kernel
theorem d_Face_split_68 : decode prog_1_method_16_code 68 = .ok (.aload_n 0, 1) := by decide +kernel
theorem d_Face_split_69 : decode prog_1_method_16_code 69 = .ok (.getfield 50, 3) := by decide +kernel
theorem d_Face_split_72 : decode prog_1_method_16_code 72 = .ok (.getfield 167, 3) := by decide +kernel
theorem d_Face_split_75 : decode prog_1_method_16_code 75 = .ok (.iload_n 1, 1) := by decide +kernel
theorem d_Face_split_76 : decode prog_1_method_16_code 76 = .ok (.aload_n 0, 1) := by decide +kernel
theorem d_Face_split_77 : decode prog_1_method_16_code 77 = .ok (.getfield 50, 3) := by decide +kernel
theorem d_Face_split_80 : decode prog_1_method_16_code 80 = .ok (.getfield 134, 3) := by decide +kernel
theorem d_Face_split_83 : decode prog_1_method_16_code 83 = .ok (.getfield 151, 3) := by decide +kernel
theorem d_Face_split_86 : decode prog_1_method_16_code 86 = .ok (.invokevirtual 279, 3) := by decide +kernel
theorem d_Face_split_89 : decode prog_1_method_16_code 89 = .ok (.ireturn, 1) := by decide +kernel
theorem d_Face_split_90 : decode prog_1_method_16_code 90 = .ok (.aload_n 0, 1) := by decide +kernel
theorem d_Face_split_91 : decode prog_1_method_16_code 91 = .ok (.getfield 50, 3) := by decide +kernel
theorem d_Face_split_94 : decode prog_1_method_16_code 94 = .ok (.getfield 134, 3) := by decide +kernel
theorem d_Face_split_97 : decode prog_1_method_16_code 97 = .ok (.getfield 151, 3) := by decide +kernel
theorem d_Face_split_100 : decode prog_1_method_16_code 100 = .ok (.invokestatic 260, 3) := by decide +kernel
theorem d_Face_split_103 : decode prog_1_method_16_code 103 = .ok (.ireturn, 1) := by decide +kernel
theorem d_Face_split_104 : decode prog_1_method_16_code 104 = .ok (.aload_n 0, 1) := by decide +kernel
theorem d_Face_split_105 : decode prog_1_method_16_code 105 = .ok (.getfield 50, 3) := by decide +kernel
theorem d_Face_split_108 : decode prog_1_method_16_code 108 = .ok (.getfield 167, 3) := by decide +kernel
theorem d_Face_split_111 : decode prog_1_method_16_code 111 = .ok (.iload_n 1, 1) := by decide +kernel
theorem d_Face_split_112 : decode prog_1_method_16_code 112 = .ok (.aload_n 0, 1) := by decide +kernel
theorem d_Face_split_113 : decode prog_1_method_16_code 113 = .ok (.getfield 50, 3) := by decide +kernel
theorem d_Face_split_116 : decode prog_1_method_16_code 116 = .ok (.getfield 134, 3) := by decide +kernel
theorem d_Face_split_119 : decode prog_1_method_16_code 119 = .ok (.getfield 151, 3) := by decide +kernel
theorem d_Face_split_122 : decode prog_1_method_16_code 122 = .ok (.invokevirtual 282, 3) := by decide +kernel
theorem d_Face_split_125 : decode prog_1_method_16_code 125 = .ok (.ireturn, 1) := by decide +kernel
theorem d_Face_split_126 : decode prog_1_method_16_code 126 = .ok (.aload_n 0, 1) := by decide +kernel
theorem d_Face_split_127 : decode prog_1_method_16_code 127 = .ok (.getfield 50, 3) := by decide +kernel
theorem d_Face_split_130 : decode prog_1_method_16_code 130 = .ok (.getfield 134, 3) := by decide +kernel
theorem d_Face_split_133 : decode prog_1_method_16_code 133 = .ok (.getfield 138, 3) := by decide +kernel
theorem d_Face_split_136 : decode prog_1_method_16_code 136 = .ok (.aload_n 0, 1) := by decide +kernel
theorem d_Face_split_137 : decode prog_1_method_16_code 137 = .ok (.getfield 50, 3) := by decide +kernel
theorem d_Face_split_140 : decode prog_1_method_16_code 140 = .ok (.getfield 134, 3) := by decide +kernel
theorem d_Face_split_143 : decode prog_1_method_16_code 143 = .ok (.getfield 151, 3) := by decide +kernel
theorem d_Face_split_146 : decode prog_1_method_16_code 146 = .ok (.iconst (-1), 1) := by decide +kernel
theorem d_Face_split_147 : decode prog_1_method_16_code 147 = .ok (.ixor, 1) := by decide +kernel
theorem d_Face_split_148 : decode prog_1_method_16_code 148 = .ok (.iand, 1) := by decide +kernel
theorem d_Face_split_149 : decode prog_1_method_16_code 149 = .ok (.invokestatic 260, 3) := by decide +kernel
theorem d_Face_split_152 : decode prog_1_method_16_code 152 = .ok (.ireturn, 1) := by decide +kernel
def fm_Face_split_j9 (a1 : Int) (a2 : Int) (w : fa_W) : Option (Int × Int × fa_W) :=
  some (2, 0, w)
set_option maxHeartbeats 4000000 in
set_option maxRecDepth 100000 in
theorem c_Face_split_j9 {p : Program} {l : Launch} {e : Env} {s : State} {m : MethodId} {args : Array Value} {below : List Frame} {meth : Method} {c : Code} {hh : Nat} {D : va_G} {b : Nat} {aC : Nat → ClassId} {H0 : Heap} {N T : Nat} (X : fa_GX p s m args meth c prog_1_method_16_code 3 ((Option.some Jvm.ClassFile.FieldType.int)) y_Face_split.cls D b aC) (hle : 7 ≤ hh) (hN : fa_NX ≤ N) (hT : fa_TX ≤ T) (a1 : Int) (a2 : Int) {rv : Int} {rw : fa_W}  : ∀ (w : fa_W) (_ : fm_Face_split_j9 a1 a2 w = some (0, rv, rw)), fa_GJ p l e (fa_rm hh) s m args below meth c 0 0 (MQ below (fa_Qc D b aC H0 N T (some (.int (fa_I rv))) rw) args s 0 0 (fun q => b ≤ q)) D b aC H0 N T 3 w 9 [] [] := by
  intro w hM
  unfold fm_Face_split_j9 at hM
  exact absurd (fa_c3 hM) (by decide)
def fm_Face_split (a1 : Int) (a2 : Int) (w : fa_W) : Option (Int × Int × fa_W) :=
  if fa_wr a2 < 0 then
  fm_Face_split_j9 a1 a2 w
  else
  (if fa_wr a2 ≤ 4 then
  (fa_bd (fm_Face_needSplit a1 w) fun k4 w5 =>
  if k4 = 0 then
  (if fa_wr a2 = 0 then
  some (0, fm_Groups_many (fa_rf (fa_sc (w5 0 6)) 3) a1 w5, w5)
  else
  if fa_wr a2 = 1 then
  ((fm_Groups_manyWithCases (fa_rf (fa_sc (w5 0 6)) 3) a1 (w5 (fa_rf (fa_sc (w5 0 6)) 2) 6) w5).bind fun v11 =>
  some (0, v11, w5))
  else
  if fa_wr a2 = 2 then
  some (0, fm_Integer_bitCount (w5 (fa_rf (fa_sc (w5 0 6)) 2) 6) w5, w5)
  else
  if fa_wr a2 = 3 then
  ((fm_Groups_mostCases (fa_rf (fa_sc (w5 0 6)) 3) a1 (w5 (fa_rf (fa_sc (w5 0 6)) 2) 6) w5).bind fun v16 =>
  some (0, v16, w5))
  else
  some (0, fm_Integer_bitCount (fa_iand (w5 (fa_rf (fa_sc (w5 0 6)) 2) 5) (fa_ixor (w5 (fa_rf (fa_sc (w5 0 6)) 2) 6) (-1))) w5, w5))
  else
  some (k4, 0, w5))
  else
  fm_Face_split_j9 a1 a2 w)
set_option maxHeartbeats 4000000 in
set_option maxRecDepth 100000 in
theorem c_Face_split {l : Launch} {D : va_G} {b : Nat} {aC : Nat → ClassId} {H0 : Heap} {N T : Nat} (hN : fa_NX ≤ N) (hT : fa_TX ≤ T) (a1 : Int) (a2 : Int)  (w : fa_W) (rv : Int) (rw : fa_W) (hM : fm_Face_split a1 a2 w = some (0, rv, rw)) : fa_MC l D b aC H0 N T y_Face_split prog_1_method_16_code 3 ((Option.some Jvm.ClassFile.FieldType.int)) (7) [.ref (b + 0), .int (fa_I a1), .int (fa_I a2)] w (some (.int (fa_I rv))) rw := by
  refine fa_enter (lv := [(0, .ref (b + 0)), (1, .int (fa_I a1)), (2, .int (fa_I a2))]) (by decide +kernel) (Nat.le_of_ble_eq_true rfl) rfl (fun hh hle hnm X => ?_)
  unfold fm_Face_split at hM
  refine g_iload_n X 2 rfl d_Face_split_0 ?_
  refine g_if_lt X 9 d_Face_split_1 (by decide) (fun hc1 => ?_) (fun hc1 => ?_)
  · have hM := fa_if_t hM hc1
    exact g_lv [] rfl (c_Face_split_j9 X hle hN hT a1 a2    _ hM)
  · have hM := fa_if_f hM hc1
    refine g_iload_n X 2 rfl d_Face_split_4 ?_
    refine g_iconst X d_Face_split_5 ?_
    refine g_icmp_le X 20 d_Face_split_6 (by decide) (fun hc2 => ?_) (fun hc2 => ?_)
    · have hM := fa_if_t hM hc2
      refine g_aload_n X 0 rfl d_Face_split_20 ?_
      refine g_iload_n X 1 rfl d_Face_split_21 ?_
      obtain ⟨k4, w5, e3, hM⟩ := fa_obd hM
      by_cases hk6 : k4 = 0
      · replace hM := fa_if_t hM hk6
        subst hk6
        refine g_callV_v X ck_0 fo_0 (fa_xn fo_0 (by decide) hN) rfl mi_Face_needSplit (c_Face_needSplit hN hT a1 w _ e3) wd_1279 rfl (Nat.le_trans (Nat.le_of_ble_eq_true rfl) hle) (st := []) (Nat.le_of_ble_eq_true rfl) rfl d_Face_split_22 ?_
        refine g_iload_n X 2 rfl d_Face_split_25 ?_
        by_cases hc7 : fa_wr a2 = 0
        · have hM := fa_if_t hM hc7
          refine g_tableIn X 0 56 d_Face_split_26 hc7 (by decide) (by decide) rfl (by decide) ?_
          refine g_aload_n X 0 rfl d_Face_split_56 ?_
          refine g_get X ck_0 fo_0 (fa_xn fo_0 (by decide) hN) 6 (by decide) wd_633 rfl (fr_0_6 rfl hT) d_Face_split_57 ?_
          refine g_getN X ck_7 (fa_scs _) (fa_xn (fa_scs _) (by decide) hN) 3 (by decide) wd_398 rfl (fa_fvR rfl (fa_xt (fa_scs _) (by decide) hT 3)) d_Face_split_60 ?_
          refine g_iload_n X 1 rfl d_Face_split_63 ?_
          refine g_callV_i X ck_2 (fa_r7_3 _ (fa_scs _)) (fa_xn (fa_r7_3 _ (fa_scs _)) (by decide) hN) rfl mi_Groups_many (c_Groups_many hN hT (fa_rf (fa_sc (w5 0 6)) 3) a1 (fa_r7_3 _ (fa_scs _)) w5 _ rfl) wd_1284 rfl (Nat.le_trans (Nat.le_of_ble_eq_true rfl) hle) (st := []) (Nat.le_of_ble_eq_true rfl) rfl d_Face_split_64 ?_
          cases hM
          exact g_iret X d_Face_split_67
        have hM := fa_if_f hM hc7
        by_cases hc9 : fa_wr a2 = 1
        · have hM := fa_if_t hM hc9
          refine g_tableIn X 1 68 d_Face_split_26 hc9 (by decide) (by decide) rfl (by decide) ?_
          refine g_aload_n X 0 rfl d_Face_split_68 ?_
          refine g_get X ck_0 fo_0 (fa_xn fo_0 (by decide) hN) 6 (by decide) wd_633 rfl (fr_0_6 rfl hT) d_Face_split_69 ?_
          refine g_getN X ck_7 (fa_scs _) (fa_xn (fa_scs _) (by decide) hN) 3 (by decide) wd_398 rfl (fa_fvR rfl (fa_xt (fa_scs _) (by decide) hT 3)) d_Face_split_72 ?_
          refine g_iload_n X 1 rfl d_Face_split_75 ?_
          refine g_aload_n X 0 rfl d_Face_split_76 ?_
          refine g_get X ck_0 fo_0 (fa_xn fo_0 (by decide) hN) 6 (by decide) wd_633 rfl (fr_0_6 rfl hT) d_Face_split_77 ?_
          refine g_getN X ck_7 (fa_scs _) (fa_xn (fa_scs _) (by decide) hN) 2 (by decide) wd_394 rfl (fa_fvR rfl (fa_xt (fa_scs _) (by decide) hT 2)) d_Face_split_80 ?_
          refine g_getN X ck_1 (fa_r7_2 _ (fa_scs _)) (fa_xn (fa_r7_2 _ (fa_scs _)) (by decide) hN) 6 (by decide) wd_347 rfl (fa_fvI rfl) d_Face_split_83 ?_
          obtain ⟨v11, e10, hM⟩ := fa_ob hM
          refine g_callV_i X ck_2 (fa_r7_3 _ (fa_scs _)) (fa_xn (fa_r7_3 _ (fa_scs _)) (by decide) hN) rfl mi_Groups_manyWithCases (c_Groups_manyWithCases hN hT (fa_rf (fa_sc (w5 0 6)) 3) a1 (w5 (fa_rf (fa_sc (w5 0 6)) 2) 6) (fa_r7_3 _ (fa_scs _)) w5 _ e10) wd_1285 rfl (Nat.le_trans (Nat.le_of_ble_eq_true rfl) hle) (st := []) (Nat.le_of_ble_eq_true rfl) rfl d_Face_split_86 ?_
          cases hM
          exact g_iret X d_Face_split_89
        have hM := fa_if_f hM hc9
        by_cases hc12 : fa_wr a2 = 2
        · have hM := fa_if_t hM hc12
          refine g_tableIn X 2 90 d_Face_split_26 hc12 (by decide) (by decide) rfl (by decide) ?_
          refine g_aload_n X 0 rfl d_Face_split_90 ?_
          refine g_get X ck_0 fo_0 (fa_xn fo_0 (by decide) hN) 6 (by decide) wd_633 rfl (fr_0_6 rfl hT) d_Face_split_91 ?_
          refine g_getN X ck_7 (fa_scs _) (fa_xn (fa_scs _) (by decide) hN) 2 (by decide) wd_394 rfl (fa_fvR rfl (fa_xt (fa_scs _) (by decide) hT 2)) d_Face_split_94 ?_
          refine g_getN X ck_1 (fa_r7_2 _ (fa_scs _)) (fa_xn (fa_r7_2 _ (fa_scs _)) (by decide) hN) 6 (by decide) wd_347 rfl (fa_fvI rfl) d_Face_split_97 ?_
          refine g_callS_i X mi_Integer_bitCount (c_Integer_bitCount (w5 (fa_rf (fa_sc (w5 0 6)) 2) 6) w5 _ rfl) wd_1268 rfl (Nat.le_trans (Nat.le_of_ble_eq_true rfl) hle) (st := []) (Nat.le_of_ble_eq_true rfl) rfl d_Face_split_100 ?_
          cases hM
          exact g_iret X d_Face_split_103
        have hM := fa_if_f hM hc12
        by_cases hc14 : fa_wr a2 = 3
        · have hM := fa_if_t hM hc14
          refine g_tableIn X 3 104 d_Face_split_26 hc14 (by decide) (by decide) rfl (by decide) ?_
          refine g_aload_n X 0 rfl d_Face_split_104 ?_
          refine g_get X ck_0 fo_0 (fa_xn fo_0 (by decide) hN) 6 (by decide) wd_633 rfl (fr_0_6 rfl hT) d_Face_split_105 ?_
          refine g_getN X ck_7 (fa_scs _) (fa_xn (fa_scs _) (by decide) hN) 3 (by decide) wd_398 rfl (fa_fvR rfl (fa_xt (fa_scs _) (by decide) hT 3)) d_Face_split_108 ?_
          refine g_iload_n X 1 rfl d_Face_split_111 ?_
          refine g_aload_n X 0 rfl d_Face_split_112 ?_
          refine g_get X ck_0 fo_0 (fa_xn fo_0 (by decide) hN) 6 (by decide) wd_633 rfl (fr_0_6 rfl hT) d_Face_split_113 ?_
          refine g_getN X ck_7 (fa_scs _) (fa_xn (fa_scs _) (by decide) hN) 2 (by decide) wd_394 rfl (fa_fvR rfl (fa_xt (fa_scs _) (by decide) hT 2)) d_Face_split_116 ?_
          refine g_getN X ck_1 (fa_r7_2 _ (fa_scs _)) (fa_xn (fa_r7_2 _ (fa_scs _)) (by decide) hN) 6 (by decide) wd_347 rfl (fa_fvI rfl) d_Face_split_119 ?_
          obtain ⟨v16, e15, hM⟩ := fa_ob hM
          refine g_callV_i X ck_2 (fa_r7_3 _ (fa_scs _)) (fa_xn (fa_r7_3 _ (fa_scs _)) (by decide) hN) rfl mi_Groups_mostCases (c_Groups_mostCases hN hT (fa_rf (fa_sc (w5 0 6)) 3) a1 (w5 (fa_rf (fa_sc (w5 0 6)) 2) 6) (fa_r7_3 _ (fa_scs _)) w5 _ e15) wd_1294 rfl (Nat.le_trans (Nat.le_of_ble_eq_true rfl) hle) (st := []) (Nat.le_of_ble_eq_true rfl) rfl d_Face_split_122 ?_
          cases hM
          exact g_iret X d_Face_split_125
        have hM := fa_if_f hM hc14
        refine g_tableDef X 126 d_Face_split_26 (by
    exact Or.inl (by omega)) (by decide) ?_
        refine g_aload_n X 0 rfl d_Face_split_126 ?_
        refine g_get X ck_0 fo_0 (fa_xn fo_0 (by decide) hN) 6 (by decide) wd_633 rfl (fr_0_6 rfl hT) d_Face_split_127 ?_
        refine g_getN X ck_7 (fa_scs _) (fa_xn (fa_scs _) (by decide) hN) 2 (by decide) wd_394 rfl (fa_fvR rfl (fa_xt (fa_scs _) (by decide) hT 2)) d_Face_split_130 ?_
        refine g_getN X ck_1 (fa_r7_2 _ (fa_scs _)) (fa_xn (fa_r7_2 _ (fa_scs _)) (by decide) hN) 5 (by decide) wd_343 rfl (fa_fvI rfl) d_Face_split_133 ?_
        refine g_aload_n X 0 rfl d_Face_split_136 ?_
        refine g_get X ck_0 fo_0 (fa_xn fo_0 (by decide) hN) 6 (by decide) wd_633 rfl (fr_0_6 rfl hT) d_Face_split_137 ?_
        refine g_getN X ck_7 (fa_scs _) (fa_xn (fa_scs _) (by decide) hN) 2 (by decide) wd_394 rfl (fa_fvR rfl (fa_xt (fa_scs _) (by decide) hT 2)) d_Face_split_140 ?_
        refine g_getN X ck_1 (fa_r7_2 _ (fa_scs _)) (fa_xn (fa_r7_2 _ (fa_scs _)) (by decide) hN) 6 (by decide) wd_347 rfl (fa_fvI rfl) d_Face_split_143 ?_
        refine g_iconst X d_Face_split_146 ?_
        refine g_ixor X d_Face_split_147 ?_
        refine g_iand X d_Face_split_148 ?_
        refine g_callS_i X mi_Integer_bitCount (c_Integer_bitCount (fa_iand (w5 (fa_rf (fa_sc (w5 0 6)) 2) 5) (fa_ixor (w5 (fa_rf (fa_sc (w5 0 6)) 2) 6) (-1))) w5 _ rfl) wd_1268 rfl (Nat.le_trans (Nat.le_of_ble_eq_true rfl) hle) (st := []) (Nat.le_of_ble_eq_true rfl) rfl d_Face_split_149 ?_
        cases hM
        exact g_iret X d_Face_split_152
      · have hM := fa_if_f hM hk6
        exact absurd (fa_c3 hM) hk6
    · have hM := fa_if_f hM hc2
      exact g_lv [] rfl (c_Face_split_j9 X hle hN hT a1 a2    _ hM)
set_option maxHeartbeats 4000000 in
set_option maxRecDepth 100000 in
theorem cx_Face_split_j9 {p : Program} {l : Launch} {e : Env} {s : State} {m : MethodId} {args : Array Value} {below : List Frame} {meth : Method} {c : Code} {hh : Nat} {D : va_G} {b : Nat} {aC : Nat → ClassId} {H0 : Heap} {N T : Nat} (X : fa_GX p s m args meth c prog_1_method_16_code 3 ((Option.some Jvm.ClassFile.FieldType.int)) y_Face_split.cls D b aC) (hle : 7 ≤ hh) (hnx : ∀ x ∈ c.exceptionTable.toList, False) (hfl : l.stackTraces = false) (hN : fa_NX ≤ N) (hT : fa_TX ≤ T) (a1 : Int) (a2 : Int) {rv : Int} {rw : fa_W} {kk : Int} (hk : kk ≠ 0)  : ∀ (w : fa_W) (_ : fm_Face_split_j9 a1 a2 w = some (kk, rv, rw)), fa_GJ p l e (fa_rmx hh) s m args below meth c 0 0 (fa_XQ D b aC H0 N T below args s kk rw) D b aC H0 N T 3 w 9 [] [] := by
  intro w hM
  unfold fm_Face_split_j9 at hM
  cases hM
  exact g_throwSW X hnx hfl (k := 2) (by decide) (names := ["java/lang/RuntimeException", "java/lang/Exception"]) dx_2_0 dx_2_1 dx_2_2 dx_2_5 (by decide +kernel) (by decide +kernel) wd_1213 wd_20 (List.mem_of_getElem? (i := 29) rfl) ax_2 ay_2 d_Face_split_9 d_Face_split_12 d_Face_split_13 d_Face_split_16 d_Face_split_19 (Nat.le_trans (Nat.le_of_ble_eq_true rfl) hle) (Nat.le_of_ble_eq_true rfl)
set_option maxHeartbeats 4000000 in
set_option maxRecDepth 100000 in
theorem cx_Face_split {l : Launch} {D : va_G} {b : Nat} {aC : Nat → ClassId} {H0 : Heap} {N T : Nat} (hN : fa_NX ≤ N) (hT : fa_TX ≤ T) (a1 : Int) (a2 : Int) (hfl : l.stackTraces = false) (w : fa_W) (rv : Int) (rw : fa_W) (kk : Int) (hk : kk ≠ 0) (hM : fm_Face_split a1 a2 w = some (kk, rv, rw)) : fa_MX l D b aC H0 N T y_Face_split prog_1_method_16_code 3 ((Option.some Jvm.ClassFile.FieldType.int)) (7) [.ref (b + 0), .int (fa_I a1), .int (fa_I a2)] w kk rw := by
  refine fa_xenter (lv := [(0, .ref (b + 0)), (1, .int (fa_I a1)), (2, .int (fa_I a2))]) (by decide +kernel) (Nat.le_of_ble_eq_true rfl) rfl (fun hh hle hnx X => ?_)
  unfold fm_Face_split at hM
  refine g_iload_n X 2 rfl d_Face_split_0 ?_
  refine g_if_lt X 9 d_Face_split_1 (by decide) (fun hc1 => ?_) (fun hc1 => ?_)
  · have hM := fa_if_t hM hc1
    exact g_lv [] rfl (cx_Face_split_j9 X hle hnx hfl hN hT a1 a2 hk    _ hM)
  · have hM := fa_if_f hM hc1
    refine g_iload_n X 2 rfl d_Face_split_4 ?_
    refine g_iconst X d_Face_split_5 ?_
    refine g_icmp_le X 20 d_Face_split_6 (by decide) (fun hc2 => ?_) (fun hc2 => ?_)
    · have hM := fa_if_t hM hc2
      refine g_aload_n X 0 rfl d_Face_split_20 ?_
      refine g_iload_n X 1 rfl d_Face_split_21 ?_
      obtain ⟨k4, w5, e3, hM⟩ := fa_obd hM
      by_cases hk6 : k4 = 0
      · replace hM := fa_if_t hM hk6
        subst hk6
        refine g_callV_v X ck_0 fo_0 (fa_xn fo_0 (by decide) hN) rfl mi_Face_needSplit (c_Face_needSplit hN hT a1 w _ e3) wd_1279 rfl (Nat.le_trans (Nat.le_of_ble_eq_true rfl) hle) (st := []) (Nat.le_of_ble_eq_true rfl) rfl d_Face_split_22 ?_
        refine g_iload_n X 2 rfl d_Face_split_25 ?_
        by_cases hc7 : fa_wr a2 = 0
        · have hM := fa_if_t hM hc7
          refine g_tableIn X 0 56 d_Face_split_26 hc7 (by decide) (by decide) rfl (by decide) ?_
          refine g_aload_n X 0 rfl d_Face_split_56 ?_
          refine g_get X ck_0 fo_0 (fa_xn fo_0 (by decide) hN) 6 (by decide) wd_633 rfl (fr_0_6 rfl hT) d_Face_split_57 ?_
          refine g_getN X ck_7 (fa_scs _) (fa_xn (fa_scs _) (by decide) hN) 3 (by decide) wd_398 rfl (fa_fvR rfl (fa_xt (fa_scs _) (by decide) hT 3)) d_Face_split_60 ?_
          refine g_iload_n X 1 rfl d_Face_split_63 ?_
          refine g_callV_i X ck_2 (fa_r7_3 _ (fa_scs _)) (fa_xn (fa_r7_3 _ (fa_scs _)) (by decide) hN) rfl mi_Groups_many (c_Groups_many hN hT (fa_rf (fa_sc (w5 0 6)) 3) a1 (fa_r7_3 _ (fa_scs _)) w5 _ rfl) wd_1284 rfl (Nat.le_trans (Nat.le_of_ble_eq_true rfl) hle) (st := []) (Nat.le_of_ble_eq_true rfl) rfl d_Face_split_64 ?_
          exact absurd (fa_c3 hM).symm hk
        have hM := fa_if_f hM hc7
        by_cases hc9 : fa_wr a2 = 1
        · have hM := fa_if_t hM hc9
          refine g_tableIn X 1 68 d_Face_split_26 hc9 (by decide) (by decide) rfl (by decide) ?_
          refine g_aload_n X 0 rfl d_Face_split_68 ?_
          refine g_get X ck_0 fo_0 (fa_xn fo_0 (by decide) hN) 6 (by decide) wd_633 rfl (fr_0_6 rfl hT) d_Face_split_69 ?_
          refine g_getN X ck_7 (fa_scs _) (fa_xn (fa_scs _) (by decide) hN) 3 (by decide) wd_398 rfl (fa_fvR rfl (fa_xt (fa_scs _) (by decide) hT 3)) d_Face_split_72 ?_
          refine g_iload_n X 1 rfl d_Face_split_75 ?_
          refine g_aload_n X 0 rfl d_Face_split_76 ?_
          refine g_get X ck_0 fo_0 (fa_xn fo_0 (by decide) hN) 6 (by decide) wd_633 rfl (fr_0_6 rfl hT) d_Face_split_77 ?_
          refine g_getN X ck_7 (fa_scs _) (fa_xn (fa_scs _) (by decide) hN) 2 (by decide) wd_394 rfl (fa_fvR rfl (fa_xt (fa_scs _) (by decide) hT 2)) d_Face_split_80 ?_
          refine g_getN X ck_1 (fa_r7_2 _ (fa_scs _)) (fa_xn (fa_r7_2 _ (fa_scs _)) (by decide) hN) 6 (by decide) wd_347 rfl (fa_fvI rfl) d_Face_split_83 ?_
          obtain ⟨v11, e10, hM⟩ := fa_ob hM
          refine g_callV_i X ck_2 (fa_r7_3 _ (fa_scs _)) (fa_xn (fa_r7_3 _ (fa_scs _)) (by decide) hN) rfl mi_Groups_manyWithCases (c_Groups_manyWithCases hN hT (fa_rf (fa_sc (w5 0 6)) 3) a1 (w5 (fa_rf (fa_sc (w5 0 6)) 2) 6) (fa_r7_3 _ (fa_scs _)) w5 _ e10) wd_1285 rfl (Nat.le_trans (Nat.le_of_ble_eq_true rfl) hle) (st := []) (Nat.le_of_ble_eq_true rfl) rfl d_Face_split_86 ?_
          exact absurd (fa_c3 hM).symm hk
        have hM := fa_if_f hM hc9
        by_cases hc12 : fa_wr a2 = 2
        · have hM := fa_if_t hM hc12
          refine g_tableIn X 2 90 d_Face_split_26 hc12 (by decide) (by decide) rfl (by decide) ?_
          refine g_aload_n X 0 rfl d_Face_split_90 ?_
          refine g_get X ck_0 fo_0 (fa_xn fo_0 (by decide) hN) 6 (by decide) wd_633 rfl (fr_0_6 rfl hT) d_Face_split_91 ?_
          refine g_getN X ck_7 (fa_scs _) (fa_xn (fa_scs _) (by decide) hN) 2 (by decide) wd_394 rfl (fa_fvR rfl (fa_xt (fa_scs _) (by decide) hT 2)) d_Face_split_94 ?_
          refine g_getN X ck_1 (fa_r7_2 _ (fa_scs _)) (fa_xn (fa_r7_2 _ (fa_scs _)) (by decide) hN) 6 (by decide) wd_347 rfl (fa_fvI rfl) d_Face_split_97 ?_
          refine g_callS_i X mi_Integer_bitCount (c_Integer_bitCount (w5 (fa_rf (fa_sc (w5 0 6)) 2) 6) w5 _ rfl) wd_1268 rfl (Nat.le_trans (Nat.le_of_ble_eq_true rfl) hle) (st := []) (Nat.le_of_ble_eq_true rfl) rfl d_Face_split_100 ?_
          exact absurd (fa_c3 hM).symm hk
        have hM := fa_if_f hM hc12
        by_cases hc14 : fa_wr a2 = 3
        · have hM := fa_if_t hM hc14
          refine g_tableIn X 3 104 d_Face_split_26 hc14 (by decide) (by decide) rfl (by decide) ?_
          refine g_aload_n X 0 rfl d_Face_split_104 ?_
          refine g_get X ck_0 fo_0 (fa_xn fo_0 (by decide) hN) 6 (by decide) wd_633 rfl (fr_0_6 rfl hT) d_Face_split_105 ?_
          refine g_getN X ck_7 (fa_scs _) (fa_xn (fa_scs _) (by decide) hN) 3 (by decide) wd_398 rfl (fa_fvR rfl (fa_xt (fa_scs _) (by decide) hT 3)) d_Face_split_108 ?_
          refine g_iload_n X 1 rfl d_Face_split_111 ?_
          refine g_aload_n X 0 rfl d_Face_split_112 ?_
          refine g_get X ck_0 fo_0 (fa_xn fo_0 (by decide) hN) 6 (by decide) wd_633 rfl (fr_0_6 rfl hT) d_Face_split_113 ?_
          refine g_getN X ck_7 (fa_scs _) (fa_xn (fa_scs _) (by decide) hN) 2 (by decide) wd_394 rfl (fa_fvR rfl (fa_xt (fa_scs _) (by decide) hT 2)) d_Face_split_116 ?_
          refine g_getN X ck_1 (fa_r7_2 _ (fa_scs _)) (fa_xn (fa_r7_2 _ (fa_scs _)) (by decide) hN) 6 (by decide) wd_347 rfl (fa_fvI rfl) d_Face_split_119 ?_
          obtain ⟨v16, e15, hM⟩ := fa_ob hM
          refine g_callV_i X ck_2 (fa_r7_3 _ (fa_scs _)) (fa_xn (fa_r7_3 _ (fa_scs _)) (by decide) hN) rfl mi_Groups_mostCases (c_Groups_mostCases hN hT (fa_rf (fa_sc (w5 0 6)) 3) a1 (w5 (fa_rf (fa_sc (w5 0 6)) 2) 6) (fa_r7_3 _ (fa_scs _)) w5 _ e15) wd_1294 rfl (Nat.le_trans (Nat.le_of_ble_eq_true rfl) hle) (st := []) (Nat.le_of_ble_eq_true rfl) rfl d_Face_split_122 ?_
          exact absurd (fa_c3 hM).symm hk
        have hM := fa_if_f hM hc14
        refine g_tableDef X 126 d_Face_split_26 (by
    exact Or.inl (by omega)) (by decide) ?_
        refine g_aload_n X 0 rfl d_Face_split_126 ?_
        refine g_get X ck_0 fo_0 (fa_xn fo_0 (by decide) hN) 6 (by decide) wd_633 rfl (fr_0_6 rfl hT) d_Face_split_127 ?_
        refine g_getN X ck_7 (fa_scs _) (fa_xn (fa_scs _) (by decide) hN) 2 (by decide) wd_394 rfl (fa_fvR rfl (fa_xt (fa_scs _) (by decide) hT 2)) d_Face_split_130 ?_
        refine g_getN X ck_1 (fa_r7_2 _ (fa_scs _)) (fa_xn (fa_r7_2 _ (fa_scs _)) (by decide) hN) 5 (by decide) wd_343 rfl (fa_fvI rfl) d_Face_split_133 ?_
        refine g_aload_n X 0 rfl d_Face_split_136 ?_
        refine g_get X ck_0 fo_0 (fa_xn fo_0 (by decide) hN) 6 (by decide) wd_633 rfl (fr_0_6 rfl hT) d_Face_split_137 ?_
        refine g_getN X ck_7 (fa_scs _) (fa_xn (fa_scs _) (by decide) hN) 2 (by decide) wd_394 rfl (fa_fvR rfl (fa_xt (fa_scs _) (by decide) hT 2)) d_Face_split_140 ?_
        refine g_getN X ck_1 (fa_r7_2 _ (fa_scs _)) (fa_xn (fa_r7_2 _ (fa_scs _)) (by decide) hN) 6 (by decide) wd_347 rfl (fa_fvI rfl) d_Face_split_143 ?_
        refine g_iconst X d_Face_split_146 ?_
        refine g_ixor X d_Face_split_147 ?_
        refine g_iand X d_Face_split_148 ?_
        refine g_callS_i X mi_Integer_bitCount (c_Integer_bitCount (fa_iand (w5 (fa_rf (fa_sc (w5 0 6)) 2) 5) (fa_ixor (w5 (fa_rf (fa_sc (w5 0 6)) 2) 6) (-1))) w5 _ rfl) wd_1268 rfl (Nat.le_trans (Nat.le_of_ble_eq_true rfl) hle) (st := []) (Nat.le_of_ble_eq_true rfl) rfl d_Face_split_149 ?_
        exact absurd (fa_c3 hM).symm hk
      · have hM := fa_if_f hM hk6
        cases hM
        exact g_xcallV X hnx ck_0 fo_0 (fa_xn fo_0 (by decide) hN) rfl mi_Face_needSplit (cx_Face_needSplit hN hT a1 hfl w _ _ hk6 e3) wd_1279 rfl (Nat.le_trans (Nat.le_of_ble_eq_true rfl) hle) (st := []) (Nat.le_of_ble_eq_true rfl) rfl d_Face_split_22
    · have hM := fa_if_f hM hc2
      exact g_lv [] rfl (cx_Face_split_j9 X hle hnx hfl hN hT a1 a2 hk    _ hM)
theorem d_Face_group_0 : decode prog_1_method_18_code 0 = .ok (.aload_n 0, 1) := by decide +kernel
theorem d_Face_group_1 : decode prog_1_method_18_code 1 = .ok (.iload_n 1, 1) := by decide +kernel
theorem d_Face_group_2 : decode prog_1_method_18_code 2 = .ok (.invokevirtual 273, 3) := by decide +kernel
theorem d_Face_group_5 : decode prog_1_method_18_code 5 = .ok (.iload_n 2, 1) := by decide +kernel
theorem d_Face_group_6 : decode prog_1_method_18_code 6 = .ok (.ifCond .lt 18, 3) := by decide +kernel
theorem d_Face_group_9 : decode prog_1_method_18_code 9 = .ok (.iload_n 2, 1) := by decide +kernel
theorem d_Face_group_10 : decode prog_1_method_18_code 10 = .ok (.aload_n 0, 1) := by decide +kernel
theorem d_Face_group_11 : decode prog_1_method_18_code 11 = .ok (.getfield 50, 3) := by decide +kernel
theorem d_Face_group_14 : decode prog_1_method_18_code 14 = .ok (.getfield 167, 3) := by decide +kernel
theorem d_Face_group_17 : decode prog_1_method_18_code 17 = .ok (.iload_n 1, 1) := by decide +kernel
theorem d_Face_group_18 : decode prog_1_method_18_code 18 = .ok (.invokevirtual 276, 3) := by decide +kernel
theorem d_Face_group_21 : decode prog_1_method_18_code 21 = .ok (.if_icmp .lt 14, 3) := by decide +kernel
theorem d_Face_group_24 : decode prog_1_method_18_code 24 = .ok (.new 190, 3) := by decide +kernel
theorem d_Face_group_27 : decode prog_1_method_18_code 27 = .ok (.dup, 1) := by decide +kernel
theorem d_Face_group_28 : decode prog_1_method_18_code 28 = .ok (.ldc_w 287, 3) := by decide +kernel
theorem d_Face_group_31 : decode prog_1_method_18_code 31 = .ok (.invokespecial 194, 3) := by decide +kernel
theorem d_Face_group_34 : decode prog_1_method_18_code 34 = .ok (.athrow, 1) := by decide +kernel
theorem d_Face_group_35 : decode prog_1_method_18_code 35 = .ok (.aload_n 0, 1) := by decide +kernel
theorem d_Face_group_36 : decode prog_1_method_18_code 36 = .ok (.getfield 50, 3) := by decide +kernel
theorem d_Face_group_39 : decode prog_1_method_18_code 39 = .ok (.getfield 167, 3) := by decide +kernel
theorem d_Face_group_42 : decode prog_1_method_18_code 42 = .ok (.iload_n 1, 1) := by decide +kernel
theorem d_Face_group_43 : decode prog_1_method_18_code 43 = .ok (.iload_n 2, 1) := by decide +kernel
theorem d_Face_group_44 : decode prog_1_method_18_code 44 = .ok (.invokevirtual 289, 3) := by decide +kernel
theorem d_Face_group_47 : decode prog_1_method_18_code 47 = .ok (.istore 4, 2) := by decide +kernel
theorem d_Face_group_49 : decode prog_1_method_18_code 49 = .ok (.iload_n 3, 1) := by decide +kernel
theorem d_Face_group_50 : decode prog_1_method_18_code 50 = .ok (.ifCond .eq 19, 3) := by decide +kernel
theorem d_Face_group_53 : decode prog_1_method_18_code 53 = .ok (.iload 4, 2) := by decide +kernel
theorem d_Face_group_55 : decode prog_1_method_18_code 55 = .ok (.aload_n 0, 1) := by decide +kernel
theorem d_Face_group_56 : decode prog_1_method_18_code 56 = .ok (.getfield 50, 3) := by decide +kernel
theorem d_Face_group_59 : decode prog_1_method_18_code 59 = .ok (.getfield 134, 3) := by decide +kernel
theorem d_Face_group_62 : decode prog_1_method_18_code 62 = .ok (.getfield 151, 3) := by decide +kernel
theorem d_Face_group_65 : decode prog_1_method_18_code 65 = .ok (.iand, 1) := by decide +kernel
theorem d_Face_group_66 : decode prog_1_method_18_code 66 = .ok (.goto 5, 3) := by decide +kernel
theorem d_Face_group_69 : decode prog_1_method_18_code 69 = .ok (.iload 4, 2) := by decide +kernel
theorem d_Face_group_71 : decode prog_1_method_18_code 71 = .ok (.ireturn, 1) := by decide +kernel
def fm_Face_group_j24 (a1 : Int) (a2 : Int) (a3 : Bool) (w : fa_W) : Option (Int × Int × fa_W) :=
  some (2, 0, w)
set_option maxHeartbeats 4000000 in
set_option maxRecDepth 100000 in
theorem c_Face_group_j24 {p : Program} {l : Launch} {e : Env} {s : State} {m : MethodId} {args : Array Value} {below : List Frame} {meth : Method} {c : Code} {hh : Nat} {D : va_G} {b : Nat} {aC : Nat → ClassId} {H0 : Heap} {N T : Nat} (X : fa_GX p s m args meth c prog_1_method_18_code 5 ((Option.some Jvm.ClassFile.FieldType.int)) y_Face_group.cls D b aC) (hle : 7 ≤ hh) (hN : fa_NX ≤ N) (hT : fa_TX ≤ T) (a1 : Int) (a2 : Int) (a3 : Bool) {rv : Int} {rw : fa_W}  : ∀ (w : fa_W) (_ : fm_Face_group_j24 a1 a2 a3 w = some (0, rv, rw)), fa_GJ p l e (fa_rm hh) s m args below meth c 0 0 (MQ below (fa_Qc D b aC H0 N T (some (.int (fa_I rv))) rw) args s 0 0 (fun q => b ≤ q)) D b aC H0 N T 5 w 24 [] [] := by
  intro w hM
  unfold fm_Face_group_j24 at hM
  exact absurd (fa_c3 hM) (by decide)
def fm_Face_group (a1 : Int) (a2 : Int) (a3 : Bool) (w : fa_W) : Option (Int × Int × fa_W) :=
  fa_bd (fm_Face_needSplit a1 w) fun k2 w3 =>
  if k2 = 0 then
  (if fa_wr a2 < 0 then
  fm_Face_group_j24 a1 a2 a3 w3
  else
  (if fa_wr a2 < fa_wr (fm_Groups_many (fa_rf (fa_sc (w3 0 6)) 3) a1 w3) then
  (fa_let (fm_Groups_members (fa_rf (fa_sc (w3 0 6)) 3) a1 a2 w3) fun x4_9 =>
  if a3 = true then
  some (0, fa_iand x4_9 (w3 (fa_rf (fa_sc (w3 0 6)) 2) 6), w3)
  else
  some (0, x4_9, w3))
  else
  fm_Face_group_j24 a1 a2 a3 w3))
  else
  some (k2, 0, w3)
set_option maxHeartbeats 4000000 in
set_option maxRecDepth 100000 in
theorem c_Face_group {l : Launch} {D : va_G} {b : Nat} {aC : Nat → ClassId} {H0 : Heap} {N T : Nat} (hN : fa_NX ≤ N) (hT : fa_TX ≤ T) (a1 : Int) (a2 : Int) (a3 : Bool)  (w : fa_W) (rv : Int) (rw : fa_W) (hM : fm_Face_group a1 a2 a3 w = some (0, rv, rw)) : fa_MC l D b aC H0 N T y_Face_group prog_1_method_18_code 5 ((Option.some Jvm.ClassFile.FieldType.int)) (7) [.ref (b + 0), .int (fa_I a1), .int (fa_I a2), .int (fa_I (fa_bi a3))] w (some (.int (fa_I rv))) rw := by
  refine fa_enter (lv := [(0, .ref (b + 0)), (1, .int (fa_I a1)), (2, .int (fa_I a2)), (3, .int (fa_I (fa_bi a3)))]) (by decide +kernel) (Nat.le_of_ble_eq_true rfl) rfl (fun hh hle hnm X => ?_)
  unfold fm_Face_group at hM
  refine g_aload_n X 0 rfl d_Face_group_0 ?_
  refine g_iload_n X 1 rfl d_Face_group_1 ?_
  obtain ⟨k2, w3, e1, hM⟩ := fa_obd hM
  by_cases hk4 : k2 = 0
  · replace hM := fa_if_t hM hk4
    subst hk4
    refine g_callV_v X ck_0 fo_0 (fa_xn fo_0 (by decide) hN) rfl mi_Face_needSplit (c_Face_needSplit hN hT a1 w _ e1) wd_1279 rfl (Nat.le_trans (Nat.le_of_ble_eq_true rfl) hle) (st := []) (Nat.le_of_ble_eq_true rfl) rfl d_Face_group_2 ?_
    refine g_iload_n X 2 rfl d_Face_group_5 ?_
    refine g_if_lt X 24 d_Face_group_6 (by decide) (fun hc5 => ?_) (fun hc5 => ?_)
    · have hM := fa_if_t hM hc5
      exact g_lv [] rfl (c_Face_group_j24 X hle hN hT a1 a2 a3    _ hM)
    · have hM := fa_if_f hM hc5
      refine g_iload_n X 2 rfl d_Face_group_9 ?_
      refine g_aload_n X 0 rfl d_Face_group_10 ?_
      refine g_get X ck_0 fo_0 (fa_xn fo_0 (by decide) hN) 6 (by decide) wd_633 rfl (fr_0_6 rfl hT) d_Face_group_11 ?_
      refine g_getN X ck_7 (fa_scs _) (fa_xn (fa_scs _) (by decide) hN) 3 (by decide) wd_398 rfl (fa_fvR rfl (fa_xt (fa_scs _) (by decide) hT 3)) d_Face_group_14 ?_
      refine g_iload_n X 1 rfl d_Face_group_17 ?_
      refine g_callV_i X ck_2 (fa_r7_3 _ (fa_scs _)) (fa_xn (fa_r7_3 _ (fa_scs _)) (by decide) hN) rfl mi_Groups_many (c_Groups_many hN hT (fa_rf (fa_sc (w3 0 6)) 3) a1 (fa_r7_3 _ (fa_scs _)) w3 _ rfl) wd_1284 rfl (Nat.le_trans (Nat.le_of_ble_eq_true rfl) hle) (st := [.int (fa_I a2)]) (Nat.le_of_ble_eq_true rfl) rfl d_Face_group_18 ?_
      refine g_icmp_lt X 35 d_Face_group_21 (by decide) (fun hc7 => ?_) (fun hc7 => ?_)
      · have hM := fa_if_t hM hc7
        refine g_aload_n X 0 rfl d_Face_group_35 ?_
        refine g_get X ck_0 fo_0 (fa_xn fo_0 (by decide) hN) 6 (by decide) wd_633 rfl (fr_0_6 rfl hT) d_Face_group_36 ?_
        refine g_getN X ck_7 (fa_scs _) (fa_xn (fa_scs _) (by decide) hN) 3 (by decide) wd_398 rfl (fa_fvR rfl (fa_xt (fa_scs _) (by decide) hT 3)) d_Face_group_39 ?_
        refine g_iload_n X 1 rfl d_Face_group_42 ?_
        refine g_iload_n X 2 rfl d_Face_group_43 ?_
        refine g_callV_i X ck_2 (fa_r7_3 _ (fa_scs _)) (fa_xn (fa_r7_3 _ (fa_scs _)) (by decide) hN) rfl mi_Groups_members (c_Groups_members hN hT (fa_rf (fa_sc (w3 0 6)) 3) a1 a2 (fa_r7_3 _ (fa_scs _)) w3 _ rfl) wd_1308 rfl (Nat.le_trans (Nat.le_of_ble_eq_true rfl) hle) (st := []) (Nat.le_of_ble_eq_true rfl) rfl d_Face_group_44 ?_
        refine g_istore X (fun x4_9 => [(4, .int (fa_I x4_9)), (0, .ref (b + 0)), (1, .int (fa_I a1)), (2, .int (fa_I a2)), (3, .int (fa_I (fa_bi a3)))]) d_Face_group_47 (by decide) (fun _ => rfl) (fun x4_9 ex4_9 => ?_)
        have hM := fa_let_to hM ex4_9
        refine g_iload_n X 4 rfl d_Face_group_49 ?_
        refine g_ifb_eq X 69 d_Face_group_50 (by decide) (fun hc10 => ?_) (fun hc10 => ?_)
        · have hM := fa_ifb_f hM hc10
          refine g_iload X 0 rfl d_Face_group_69 ?_
          cases hM
          exact g_iret X d_Face_group_71
        · have hM := fa_ifb_t hM hc10
          refine g_iload X 0 rfl d_Face_group_53 ?_
          refine g_aload_n X 1 rfl d_Face_group_55 ?_
          refine g_get X ck_0 fo_0 (fa_xn fo_0 (by decide) hN) 6 (by decide) wd_633 rfl (fr_0_6 rfl hT) d_Face_group_56 ?_
          refine g_getN X ck_7 (fa_scs _) (fa_xn (fa_scs _) (by decide) hN) 2 (by decide) wd_394 rfl (fa_fvR rfl (fa_xt (fa_scs _) (by decide) hT 2)) d_Face_group_59 ?_
          refine g_getN X ck_1 (fa_r7_2 _ (fa_scs _)) (fa_xn (fa_r7_2 _ (fa_scs _)) (by decide) hN) 6 (by decide) wd_347 rfl (fa_fvI rfl) d_Face_group_62 ?_
          refine g_iand X d_Face_group_65 ?_
          refine g_goto X 71 d_Face_group_66 (by decide) ?_
          cases hM
          exact g_iret X d_Face_group_71
      · have hM := fa_if_f hM hc7
        exact g_lv [] rfl (c_Face_group_j24 X hle hN hT a1 a2 a3    _ hM)
  · have hM := fa_if_f hM hk4
    exact absurd (fa_c3 hM) hk4
set_option maxHeartbeats 4000000 in
set_option maxRecDepth 100000 in
theorem cx_Face_group_j24 {p : Program} {l : Launch} {e : Env} {s : State} {m : MethodId} {args : Array Value} {below : List Frame} {meth : Method} {c : Code} {hh : Nat} {D : va_G} {b : Nat} {aC : Nat → ClassId} {H0 : Heap} {N T : Nat} (X : fa_GX p s m args meth c prog_1_method_18_code 5 ((Option.some Jvm.ClassFile.FieldType.int)) y_Face_group.cls D b aC) (hle : 7 ≤ hh) (hnx : ∀ x ∈ c.exceptionTable.toList, False) (hfl : l.stackTraces = false) (hN : fa_NX ≤ N) (hT : fa_TX ≤ T) (a1 : Int) (a2 : Int) (a3 : Bool) {rv : Int} {rw : fa_W} {kk : Int} (hk : kk ≠ 0)  : ∀ (w : fa_W) (_ : fm_Face_group_j24 a1 a2 a3 w = some (kk, rv, rw)), fa_GJ p l e (fa_rmx hh) s m args below meth c 0 0 (fa_XQ D b aC H0 N T below args s kk rw) D b aC H0 N T 5 w 24 [] [] := by
  intro w hM
  unfold fm_Face_group_j24 at hM
  cases hM
  exact g_throwSW X hnx hfl (k := 2) (by decide) (names := ["java/lang/RuntimeException", "java/lang/Exception"]) dx_2_0 dx_2_1 dx_2_2 dx_2_5 (by decide +kernel) (by decide +kernel) wd_1213 wd_20 (List.mem_of_getElem? (i := 31) rfl) ax_2 ay_2 d_Face_group_24 d_Face_group_27 d_Face_group_28 d_Face_group_31 d_Face_group_34 (Nat.le_trans (Nat.le_of_ble_eq_true rfl) hle) (Nat.le_of_ble_eq_true rfl)
set_option maxHeartbeats 4000000 in
set_option maxRecDepth 100000 in
theorem cx_Face_group {l : Launch} {D : va_G} {b : Nat} {aC : Nat → ClassId} {H0 : Heap} {N T : Nat} (hN : fa_NX ≤ N) (hT : fa_TX ≤ T) (a1 : Int) (a2 : Int) (a3 : Bool) (hfl : l.stackTraces = false) (w : fa_W) (rv : Int) (rw : fa_W) (kk : Int) (hk : kk ≠ 0) (hM : fm_Face_group a1 a2 a3 w = some (kk, rv, rw)) : fa_MX l D b aC H0 N T y_Face_group prog_1_method_18_code 5 ((Option.some Jvm.ClassFile.FieldType.int)) (7) [.ref (b + 0), .int (fa_I a1), .int (fa_I a2), .int (fa_I (fa_bi a3))] w kk rw := by
  refine fa_xenter (lv := [(0, .ref (b + 0)), (1, .int (fa_I a1)), (2, .int (fa_I a2)), (3, .int (fa_I (fa_bi a3)))]) (by decide +kernel) (Nat.le_of_ble_eq_true rfl) rfl (fun hh hle hnx X => ?_)
  unfold fm_Face_group at hM
  refine g_aload_n X 0 rfl d_Face_group_0 ?_
  refine g_iload_n X 1 rfl d_Face_group_1 ?_
  obtain ⟨k2, w3, e1, hM⟩ := fa_obd hM
  by_cases hk4 : k2 = 0
  · replace hM := fa_if_t hM hk4
    subst hk4
    refine g_callV_v X ck_0 fo_0 (fa_xn fo_0 (by decide) hN) rfl mi_Face_needSplit (c_Face_needSplit hN hT a1 w _ e1) wd_1279 rfl (Nat.le_trans (Nat.le_of_ble_eq_true rfl) hle) (st := []) (Nat.le_of_ble_eq_true rfl) rfl d_Face_group_2 ?_
    refine g_iload_n X 2 rfl d_Face_group_5 ?_
    refine g_if_lt X 24 d_Face_group_6 (by decide) (fun hc5 => ?_) (fun hc5 => ?_)
    · have hM := fa_if_t hM hc5
      exact g_lv [] rfl (cx_Face_group_j24 X hle hnx hfl hN hT a1 a2 a3 hk    _ hM)
    · have hM := fa_if_f hM hc5
      refine g_iload_n X 2 rfl d_Face_group_9 ?_
      refine g_aload_n X 0 rfl d_Face_group_10 ?_
      refine g_get X ck_0 fo_0 (fa_xn fo_0 (by decide) hN) 6 (by decide) wd_633 rfl (fr_0_6 rfl hT) d_Face_group_11 ?_
      refine g_getN X ck_7 (fa_scs _) (fa_xn (fa_scs _) (by decide) hN) 3 (by decide) wd_398 rfl (fa_fvR rfl (fa_xt (fa_scs _) (by decide) hT 3)) d_Face_group_14 ?_
      refine g_iload_n X 1 rfl d_Face_group_17 ?_
      refine g_callV_i X ck_2 (fa_r7_3 _ (fa_scs _)) (fa_xn (fa_r7_3 _ (fa_scs _)) (by decide) hN) rfl mi_Groups_many (c_Groups_many hN hT (fa_rf (fa_sc (w3 0 6)) 3) a1 (fa_r7_3 _ (fa_scs _)) w3 _ rfl) wd_1284 rfl (Nat.le_trans (Nat.le_of_ble_eq_true rfl) hle) (st := [.int (fa_I a2)]) (Nat.le_of_ble_eq_true rfl) rfl d_Face_group_18 ?_
      refine g_icmp_lt X 35 d_Face_group_21 (by decide) (fun hc7 => ?_) (fun hc7 => ?_)
      · have hM := fa_if_t hM hc7
        refine g_aload_n X 0 rfl d_Face_group_35 ?_
        refine g_get X ck_0 fo_0 (fa_xn fo_0 (by decide) hN) 6 (by decide) wd_633 rfl (fr_0_6 rfl hT) d_Face_group_36 ?_
        refine g_getN X ck_7 (fa_scs _) (fa_xn (fa_scs _) (by decide) hN) 3 (by decide) wd_398 rfl (fa_fvR rfl (fa_xt (fa_scs _) (by decide) hT 3)) d_Face_group_39 ?_
        refine g_iload_n X 1 rfl d_Face_group_42 ?_
        refine g_iload_n X 2 rfl d_Face_group_43 ?_
        refine g_callV_i X ck_2 (fa_r7_3 _ (fa_scs _)) (fa_xn (fa_r7_3 _ (fa_scs _)) (by decide) hN) rfl mi_Groups_members (c_Groups_members hN hT (fa_rf (fa_sc (w3 0 6)) 3) a1 a2 (fa_r7_3 _ (fa_scs _)) w3 _ rfl) wd_1308 rfl (Nat.le_trans (Nat.le_of_ble_eq_true rfl) hle) (st := []) (Nat.le_of_ble_eq_true rfl) rfl d_Face_group_44 ?_
        refine g_istore X (fun x4_9 => [(4, .int (fa_I x4_9)), (0, .ref (b + 0)), (1, .int (fa_I a1)), (2, .int (fa_I a2)), (3, .int (fa_I (fa_bi a3)))]) d_Face_group_47 (by decide) (fun _ => rfl) (fun x4_9 ex4_9 => ?_)
        have hM := fa_let_to hM ex4_9
        refine g_iload_n X 4 rfl d_Face_group_49 ?_
        refine g_ifb_eq X 69 d_Face_group_50 (by decide) (fun hc10 => ?_) (fun hc10 => ?_)
        · have hM := fa_ifb_f hM hc10
          refine g_iload X 0 rfl d_Face_group_69 ?_
          exact absurd (fa_c3 hM).symm hk
        · have hM := fa_ifb_t hM hc10
          refine g_iload X 0 rfl d_Face_group_53 ?_
          refine g_aload_n X 1 rfl d_Face_group_55 ?_
          refine g_get X ck_0 fo_0 (fa_xn fo_0 (by decide) hN) 6 (by decide) wd_633 rfl (fr_0_6 rfl hT) d_Face_group_56 ?_
          refine g_getN X ck_7 (fa_scs _) (fa_xn (fa_scs _) (by decide) hN) 2 (by decide) wd_394 rfl (fa_fvR rfl (fa_xt (fa_scs _) (by decide) hT 2)) d_Face_group_59 ?_
          refine g_getN X ck_1 (fa_r7_2 _ (fa_scs _)) (fa_xn (fa_r7_2 _ (fa_scs _)) (by decide) hN) 6 (by decide) wd_347 rfl (fa_fvI rfl) d_Face_group_62 ?_
          refine g_iand X d_Face_group_65 ?_
          refine g_goto X 71 d_Face_group_66 (by decide) ?_
          exact absurd (fa_c3 hM).symm hk
      · have hM := fa_if_f hM hc7
        exact g_lv [] rfl (cx_Face_group_j24 X hle hnx hfl hN hT a1 a2 a3 hk    _ hM)
  · have hM := fa_if_f hM hk4
    cases hM
    exact g_xcallV X hnx ck_0 fo_0 (fa_xn fo_0 (by decide) hN) rfl mi_Face_needSplit (cx_Face_needSplit hN hT a1 hfl w _ _ hk4 e1) wd_1279 rfl (Nat.le_trans (Nat.le_of_ble_eq_true rfl) hle) (st := []) (Nat.le_of_ble_eq_true rfl) rfl d_Face_group_2
theorem d_Face_needHow_0 : decode prog_1_method_20_code 0 = .ok (.iload_n 1, 1) := by decide +kernel
theorem d_Face_needHow_1 : decode prog_1_method_20_code 1 = .ok (.ifCond .lt 8, 3) := by decide +kernel
theorem d_Face_needHow_4 : decode prog_1_method_20_code 4 = .ok (.iload_n 1, 1) := by decide +kernel
theorem d_Face_needHow_5 : decode prog_1_method_20_code 5 = .ok (.iconst 3, 1) := by decide +kernel
theorem d_Face_needHow_6 : decode prog_1_method_20_code 6 = .ok (.if_icmp .le 14, 3) := by decide +kernel
theorem d_Face_needHow_9 : decode prog_1_method_20_code 9 = .ok (.new 93, 3) := by decide +kernel
theorem d_Face_needHow_12 : decode prog_1_method_20_code 12 = .ok (.dup, 1) := by decide +kernel
theorem d_Face_needHow_13 : decode prog_1_method_20_code 13 = .ok (.ldc_w 316, 3) := by decide +kernel
theorem d_Face_needHow_16 : decode prog_1_method_20_code 16 = .ok (.invokespecial 97, 3) := by decide +kernel
theorem d_Face_needHow_19 : decode prog_1_method_20_code 19 = .ok (.athrow, 1) := by decide +kernel
theorem d_Face_needHow_20 : decode prog_1_method_20_code 20 = .ok (.return_, 1) := by decide +kernel
def fm_Face_needHow_j9 (a1 : Int) (w : fa_W) : Option (Int × fa_W) :=
  some (3, w)
set_option maxHeartbeats 4000000 in
set_option maxRecDepth 100000 in
theorem c_Face_needHow_j9 {p : Program} {l : Launch} {e : Env} {s : State} {m : MethodId} {args : Array Value} {below : List Frame} {meth : Method} {c : Code} {hh : Nat} {D : va_G} {b : Nat} {aC : Nat → ClassId} {H0 : Heap} {N T : Nat} (X : fa_GX p s m args meth c prog_1_method_20_code 2 ((Option.none : Option Jvm.ClassFile.FieldType)) y_Face_needHow.cls D b aC) (hle : 6 ≤ hh) (hN : fa_NX ≤ N) (hT : fa_TX ≤ T) (a1 : Int) {rw : fa_W}  : ∀ (w : fa_W) (_ : fm_Face_needHow_j9 a1 w = some (0, rw)), fa_GJ p l e (fa_rm hh) s m args below meth c 0 0 (MQ below (fa_Qc D b aC H0 N T (none) rw) args s 0 0 (fun q => b ≤ q)) D b aC H0 N T 2 w 9 [] [] := by
  intro w hM
  unfold fm_Face_needHow_j9 at hM
  exact absurd (fa_c3 hM) (by decide)
def fm_Face_needHow (a1 : Int) (w : fa_W) : Option (Int × fa_W) :=
  if fa_wr a1 < 0 then
  fm_Face_needHow_j9 a1 w
  else
  (if fa_wr a1 ≤ 3 then
  some (0, w)
  else
  fm_Face_needHow_j9 a1 w)
set_option maxHeartbeats 4000000 in
set_option maxRecDepth 100000 in
theorem c_Face_needHow {l : Launch} {D : va_G} {b : Nat} {aC : Nat → ClassId} {H0 : Heap} {N T : Nat} (hN : fa_NX ≤ N) (hT : fa_TX ≤ T) (a1 : Int)  (w : fa_W) (rw : fa_W) (hM : fm_Face_needHow a1 w = some (0, rw)) : fa_MC l D b aC H0 N T y_Face_needHow prog_1_method_20_code 2 ((Option.none : Option Jvm.ClassFile.FieldType)) (6) [.ref (b + 0), .int (fa_I a1)] w (none) rw := by
  refine fa_enter (lv := [(0, .ref (b + 0)), (1, .int (fa_I a1))]) (by decide +kernel) (Nat.le_of_ble_eq_true rfl) rfl (fun hh hle hnm X => ?_)
  unfold fm_Face_needHow at hM
  refine g_iload_n X 1 rfl d_Face_needHow_0 ?_
  refine g_if_lt X 9 d_Face_needHow_1 (by decide) (fun hc1 => ?_) (fun hc1 => ?_)
  · have hM := fa_if_t hM hc1
    exact g_lv [] rfl (c_Face_needHow_j9 X hle hN hT a1    _ hM)
  · have hM := fa_if_f hM hc1
    refine g_iload_n X 1 rfl d_Face_needHow_4 ?_
    refine g_iconst X d_Face_needHow_5 ?_
    refine g_icmp_le X 20 d_Face_needHow_6 (by decide) (fun hc2 => ?_) (fun hc2 => ?_)
    · have hM := fa_if_t hM hc2
      cases hM
      exact g_vret X d_Face_needHow_20
    · have hM := fa_if_f hM hc2
      exact g_lv [] rfl (c_Face_needHow_j9 X hle hN hT a1    _ hM)
set_option maxHeartbeats 4000000 in
set_option maxRecDepth 100000 in
theorem cx_Face_needHow_j9 {p : Program} {l : Launch} {e : Env} {s : State} {m : MethodId} {args : Array Value} {below : List Frame} {meth : Method} {c : Code} {hh : Nat} {D : va_G} {b : Nat} {aC : Nat → ClassId} {H0 : Heap} {N T : Nat} (X : fa_GX p s m args meth c prog_1_method_20_code 2 ((Option.none : Option Jvm.ClassFile.FieldType)) y_Face_needHow.cls D b aC) (hle : 6 ≤ hh) (hnx : ∀ x ∈ c.exceptionTable.toList, False) (hfl : l.stackTraces = false) (hN : fa_NX ≤ N) (hT : fa_TX ≤ T) (a1 : Int) {rw : fa_W} {kk : Int} (hk : kk ≠ 0)  : ∀ (w : fa_W) (_ : fm_Face_needHow_j9 a1 w = some (kk, rw)), fa_GJ p l e (fa_rmx hh) s m args below meth c 0 0 (fa_XQ D b aC H0 N T below args s kk rw) D b aC H0 N T 2 w 9 [] [] := by
  intro w hM
  unfold fm_Face_needHow_j9 at hM
  cases hM
  exact g_throwSW X hnx hfl (k := 3) (by decide) (names := ["java/lang/RuntimeException", "java/lang/Exception"]) dx_3_0 dx_3_1 dx_3_2 dx_3_5 (by decide +kernel) (by decide +kernel) wd_1083 wd_17 (List.mem_of_getElem? (i := 33) rfl) ax_3 ay_3 d_Face_needHow_9 d_Face_needHow_12 d_Face_needHow_13 d_Face_needHow_16 d_Face_needHow_19 (Nat.le_trans (Nat.le_of_ble_eq_true rfl) hle) (Nat.le_of_ble_eq_true rfl)
set_option maxHeartbeats 4000000 in
set_option maxRecDepth 100000 in
theorem cx_Face_needHow {l : Launch} {D : va_G} {b : Nat} {aC : Nat → ClassId} {H0 : Heap} {N T : Nat} (hN : fa_NX ≤ N) (hT : fa_TX ≤ T) (a1 : Int) (hfl : l.stackTraces = false) (w : fa_W) (rw : fa_W) (kk : Int) (hk : kk ≠ 0) (hM : fm_Face_needHow a1 w = some (kk, rw)) : fa_MX l D b aC H0 N T y_Face_needHow prog_1_method_20_code 2 ((Option.none : Option Jvm.ClassFile.FieldType)) (6) [.ref (b + 0), .int (fa_I a1)] w kk rw := by
  refine fa_xenter (lv := [(0, .ref (b + 0)), (1, .int (fa_I a1))]) (by decide +kernel) (Nat.le_of_ble_eq_true rfl) rfl (fun hh hle hnx X => ?_)
  unfold fm_Face_needHow at hM
  refine g_iload_n X 1 rfl d_Face_needHow_0 ?_
  refine g_if_lt X 9 d_Face_needHow_1 (by decide) (fun hc1 => ?_) (fun hc1 => ?_)
  · have hM := fa_if_t hM hc1
    exact g_lv [] rfl (cx_Face_needHow_j9 X hle hnx hfl hN hT a1 hk    _ hM)
  · have hM := fa_if_f hM hc1
    refine g_iload_n X 1 rfl d_Face_needHow_4 ?_
    refine g_iconst X d_Face_needHow_5 ?_
    refine g_icmp_le X 20 d_Face_needHow_6 (by decide) (fun hc2 => ?_) (fun hc2 => ?_)
    · have hM := fa_if_t hM hc2
      exact absurd (fa_c3 hM).symm hk
    · have hM := fa_if_f hM hc2
      exact g_lv [] rfl (cx_Face_needHow_j9 X hle hnx hfl hN hT a1 hk    _ hM)
theorem d_Face_run_0 : decode prog_1_method_19_code 0 = .ok (.aload_n 0, 1) := by decide +kernel
theorem d_Face_run_1 : decode prog_1_method_19_code 1 = .ok (.iload_n 1, 1) := by decide +kernel
theorem d_Face_run_2 : decode prog_1_method_19_code 2 = .ok (.invokevirtual 292, 3) := by decide +kernel
theorem d_Face_run_5 : decode prog_1_method_19_code 5 = .ok (.iload_n 2, 1) := by decide +kernel
theorem d_Face_run_6 : decode prog_1_method_19_code 6 = .ok (.ifCond .lt 8, 3) := by decide +kernel
theorem d_Face_run_9 : decode prog_1_method_19_code 9 = .ok (.iload_n 2, 1) := by decide +kernel
theorem d_Face_run_10 : decode prog_1_method_19_code 10 = .ok (.iconst 4, 1) := by decide +kernel
theorem d_Face_run_11 : decode prog_1_method_19_code 11 = .ok (.if_icmp .le 14, 3) := by decide +kernel
theorem d_Face_run_14 : decode prog_1_method_19_code 14 = .ok (.new 190, 3) := by decide +kernel
theorem d_Face_run_17 : decode prog_1_method_19_code 17 = .ok (.dup, 1) := by decide +kernel
theorem d_Face_run_18 : decode prog_1_method_19_code 18 = .ok (.ldc_w 295, 3) := by decide +kernel
theorem d_Face_run_21 : decode prog_1_method_19_code 21 = .ok (.invokespecial 194, 3) := by decide +kernel
theorem d_Face_run_24 : decode prog_1_method_19_code 24 = .ok (.athrow, 1) := by decide +kernel
theorem d_Face_run_25 : decode prog_1_method_19_code 25 = .ok (.aload_n 0, 1) := by decide +kernel
theorem d_Face_run_26 : decode prog_1_method_19_code 26 = .ok (.getfield 43, 3) := by decide +kernel
theorem d_Face_run_29 : decode prog_1_method_19_code 29 = .ok (.aload_n 0, 1) := by decide +kernel
theorem d_Face_run_30 : decode prog_1_method_19_code 30 = .ok (.getfield 50, 3) := by decide +kernel
theorem d_Face_run_33 : decode prog_1_method_19_code 33 = .ok (.iload_n 1, 1) := by decide +kernel
theorem d_Face_run_34 : decode prog_1_method_19_code 34 = .ok (.invokevirtual 297, 3) := by decide +kernel
theorem d_Face_run_37 : decode prog_1_method_19_code 37 = .ok (.iload_n 2, 1) := by decide +kernel
theorem d_Face_run_38 : decode prog_1_method_19_code 38 = .ok (.tableswitch 62 0 3 #[30, 38, 46, 54], 30) := by decide +kernel
theorem d_Face_run_68 : decode prog_1_method_19_code 68 = .ok (.aload_n 0, 1) := by decide +kernel
theorem d_Face_run_69 : decode prog_1_method_19_code 69 = .ok (.getfield 43, 3) := by decide +kernel
theorem d_Face_run_72 : decode prog_1_method_19_code 72 = .ok (.getfield 301, 3) := by decide +kernel
theorem d_Face_run_75 : decode prog_1_method_19_code 75 = .ok (.ireturn, 1) := by decide +kernel
theorem d_Face_run_76 : decode prog_1_method_19_code 76 = .ok (.aload_n 0, 1) := by decide +kernel
theorem d_Face_run_77 : decode prog_1_method_19_code 77 = .ok (.getfield 43, 3) := by decide +kernel
theorem d_Face_run_80 : decode prog_1_method_19_code 80 = .ok (.getfield 304, 3) := by decide +kernel
theorem d_Face_run_83 : decode prog_1_method_19_code 83 = .ok (.ireturn, 1) := by decide +kernel
theorem d_Face_run_84 : decode prog_1_method_19_code 84 = .ok (.aload_n 0, 1) := by decide +kernel
theorem d_Face_run_85 : decode prog_1_method_19_code 85 = .ok (.getfield 43, 3) := by decide +kernel
theorem d_Face_run_88 : decode prog_1_method_19_code 88 = .ok (.getfield 307, 3) := by decide +kernel
theorem d_Face_run_91 : decode prog_1_method_19_code 91 = .ok (.ireturn, 1) := by decide +kernel
theorem d_Face_run_92 : decode prog_1_method_19_code 92 = .ok (.aload_n 0, 1) := by decide +kernel
theorem d_Face_run_93 : decode prog_1_method_19_code 93 = .ok (.getfield 43, 3) := by decide +kernel
theorem d_Face_run_96 : decode prog_1_method_19_code 96 = .ok (.getfield 310, 3) := by decide +kernel
theorem d_Face_run_99 : decode prog_1_method_19_code 99 = .ok (.ireturn, 1) := by decide +kernel
theorem d_Face_run_100 : decode prog_1_method_19_code 100 = .ok (.aload_n 0, 1) := by decide +kernel
theorem d_Face_run_101 : decode prog_1_method_19_code 101 = .ok (.getfield 43, 3) := by decide +kernel
theorem d_Face_run_104 : decode prog_1_method_19_code 104 = .ok (.getfield 313, 3) := by decide +kernel
theorem d_Face_run_107 : decode prog_1_method_19_code 107 = .ok (.ireturn, 1) := by decide +kernel
def fm_Face_run_j14 (a1 : Int) (a2 : Int) (w : fa_W) : Option (Int × Int × fa_W) :=
  some (2, 0, w)
set_option maxHeartbeats 4000000 in
set_option maxRecDepth 100000 in
theorem c_Face_run_j14 {p : Program} {l : Launch} {e : Env} {s : State} {m : MethodId} {args : Array Value} {below : List Frame} {meth : Method} {c : Code} {hh : Nat} {D : va_G} {b : Nat} {aC : Nat → ClassId} {H0 : Heap} {N T : Nat} (X : fa_GX p s m args meth c prog_1_method_19_code 3 ((Option.some Jvm.ClassFile.FieldType.int)) y_Face_run.cls D b aC) (hle : 7 ≤ hh) (hN : fa_NX ≤ N) (hT : fa_TX ≤ T) (a1 : Int) (a2 : Int) {rv : Int} {rw : fa_W}  : ∀ (w : fa_W) (_ : fm_Face_run_j14 a1 a2 w = some (0, rv, rw)), fa_GJ p l e (fa_rm hh) s m args below meth c 0 0 (MQ below (fa_Qc D b aC H0 N T (some (.int (fa_I rv))) rw) args s 0 0 (fun q => b ≤ q)) D b aC H0 N T 3 w 14 [] [] := by
  intro w hM
  unfold fm_Face_run_j14 at hM
  exact absurd (fa_c3 hM) (by decide)
def fm_Face_run (a1 : Int) (a2 : Int) (w : fa_W) : Option (Int × Int × fa_W) :=
  fa_bd (fm_Face_needHow a1 w) fun k2 w3 =>
  if k2 = 0 then
  (if fa_wr a2 < 0 then
  fm_Face_run_j14 a1 a2 w3
  else
  (if fa_wr a2 ≤ 4 then
  ((fm_Machine_perform (fa_sc (w3 0 6)) a1 w3).bind fun w8 =>
  if fa_wr a2 = 0 then
  some (0, w8 44 7, w8)
  else
  if fa_wr a2 = 1 then
  some (0, w8 44 8, w8)
  else
  if fa_wr a2 = 2 then
  some (0, w8 44 9, w8)
  else
  if fa_wr a2 = 3 then
  some (0, w8 44 10, w8)
  else
  some (0, w8 44 11, w8))
  else
  fm_Face_run_j14 a1 a2 w3))
  else
  some (k2, 0, w3)
set_option maxHeartbeats 4000000 in
set_option maxRecDepth 100000 in
theorem c_Face_run {l : Launch} {D : va_G} {b : Nat} {aC : Nat → ClassId} {H0 : Heap} {N T : Nat} (hN : fa_NX ≤ N) (hT : fa_TX ≤ T) (a1 : Int) (a2 : Int)  (w : fa_W) (rv : Int) (rw : fa_W) (hM : fm_Face_run a1 a2 w = some (0, rv, rw)) : fa_MC l D b aC H0 N T y_Face_run prog_1_method_19_code 3 ((Option.some Jvm.ClassFile.FieldType.int)) (7) [.ref (b + 0), .int (fa_I a1), .int (fa_I a2)] w (some (.int (fa_I rv))) rw := by
  refine fa_enter (lv := [(0, .ref (b + 0)), (1, .int (fa_I a1)), (2, .int (fa_I a2))]) (by decide +kernel) (Nat.le_of_ble_eq_true rfl) rfl (fun hh hle hnm X => ?_)
  unfold fm_Face_run at hM
  refine g_aload_n X 0 rfl d_Face_run_0 ?_
  refine g_iload_n X 1 rfl d_Face_run_1 ?_
  obtain ⟨k2, w3, e1, hM⟩ := fa_obd hM
  by_cases hk4 : k2 = 0
  · replace hM := fa_if_t hM hk4
    subst hk4
    refine g_callV_v X ck_0 fo_0 (fa_xn fo_0 (by decide) hN) rfl mi_Face_needHow (c_Face_needHow hN hT a1 w _ e1) wd_1316 rfl (Nat.le_trans (Nat.le_of_ble_eq_true rfl) hle) (st := []) (Nat.le_of_ble_eq_true rfl) rfl d_Face_run_2 ?_
    refine g_iload_n X 2 rfl d_Face_run_5 ?_
    refine g_if_lt X 14 d_Face_run_6 (by decide) (fun hc5 => ?_) (fun hc5 => ?_)
    · have hM := fa_if_t hM hc5
      exact g_lv [] rfl (c_Face_run_j14 X hle hN hT a1 a2    _ hM)
    · have hM := fa_if_f hM hc5
      refine g_iload_n X 2 rfl d_Face_run_9 ?_
      refine g_iconst X d_Face_run_10 ?_
      refine g_icmp_le X 25 d_Face_run_11 (by decide) (fun hc6 => ?_) (fun hc6 => ?_)
      · have hM := fa_if_t hM hc6
        refine g_aload_n X 0 rfl d_Face_run_25 ?_
        refine g_get X ck_0 fo_0 (fa_xn fo_0 (by decide) hN) 5 (by decide) wd_632 rfl (fr_0_5 rfl hT) d_Face_run_26 ?_
        refine g_aload_n X 0 rfl d_Face_run_29 ?_
        refine g_get X ck_0 fo_0 (fa_xn fo_0 (by decide) hN) 6 (by decide) wd_633 rfl (fr_0_6 rfl hT) d_Face_run_30 ?_
        refine g_iload_n X 1 rfl d_Face_run_33 ?_
        obtain ⟨w8, e7, hM⟩ := fa_ob hM
        refine g_callV_v X ck_3 fo_44 (fa_xn fo_44 (by decide) hN) rfl mi_Machine_perform (c_Machine_perform hN hT (fa_sc (w3 0 6)) a1 (fa_scs _) w3 _ e7) wd_1322 rfl (Nat.le_trans (Nat.le_of_ble_eq_true rfl) hle) (st := []) (Nat.le_of_ble_eq_true rfl) rfl d_Face_run_34 ?_
        refine g_iload_n X 2 rfl d_Face_run_37 ?_
        by_cases hc9 : fa_wr a2 = 0
        · have hM := fa_if_t hM hc9
          refine g_tableIn X 0 68 d_Face_run_38 hc9 (by decide) (by decide) rfl (by decide) ?_
          refine g_aload_n X 0 rfl d_Face_run_68 ?_
          refine g_get X ck_0 fo_0 (fa_xn fo_0 (by decide) hN) 5 (by decide) wd_632 rfl (fr_0_5 rfl hT) d_Face_run_69 ?_
          refine g_getN X ck_3 fo_44 (fa_xn fo_44 (by decide) hN) 7 (by decide) wd_243 rfl (fa_fvI rfl) d_Face_run_72 ?_
          cases hM
          exact g_iret X d_Face_run_75
        have hM := fa_if_f hM hc9
        by_cases hc10 : fa_wr a2 = 1
        · have hM := fa_if_t hM hc10
          refine g_tableIn X 1 76 d_Face_run_38 hc10 (by decide) (by decide) rfl (by decide) ?_
          refine g_aload_n X 0 rfl d_Face_run_76 ?_
          refine g_get X ck_0 fo_0 (fa_xn fo_0 (by decide) hN) 5 (by decide) wd_632 rfl (fr_0_5 rfl hT) d_Face_run_77 ?_
          refine g_getN X ck_3 fo_44 (fa_xn fo_44 (by decide) hN) 8 (by decide) wd_245 rfl (fa_fvI rfl) d_Face_run_80 ?_
          cases hM
          exact g_iret X d_Face_run_83
        have hM := fa_if_f hM hc10
        by_cases hc11 : fa_wr a2 = 2
        · have hM := fa_if_t hM hc11
          refine g_tableIn X 2 84 d_Face_run_38 hc11 (by decide) (by decide) rfl (by decide) ?_
          refine g_aload_n X 0 rfl d_Face_run_84 ?_
          refine g_get X ck_0 fo_0 (fa_xn fo_0 (by decide) hN) 5 (by decide) wd_632 rfl (fr_0_5 rfl hT) d_Face_run_85 ?_
          refine g_getN X ck_3 fo_44 (fa_xn fo_44 (by decide) hN) 9 (by decide) wd_247 rfl (fa_fvI rfl) d_Face_run_88 ?_
          cases hM
          exact g_iret X d_Face_run_91
        have hM := fa_if_f hM hc11
        by_cases hc12 : fa_wr a2 = 3
        · have hM := fa_if_t hM hc12
          refine g_tableIn X 3 92 d_Face_run_38 hc12 (by decide) (by decide) rfl (by decide) ?_
          refine g_aload_n X 0 rfl d_Face_run_92 ?_
          refine g_get X ck_0 fo_0 (fa_xn fo_0 (by decide) hN) 5 (by decide) wd_632 rfl (fr_0_5 rfl hT) d_Face_run_93 ?_
          refine g_getN X ck_3 fo_44 (fa_xn fo_44 (by decide) hN) 10 (by decide) wd_249 rfl (fa_fvI rfl) d_Face_run_96 ?_
          cases hM
          exact g_iret X d_Face_run_99
        have hM := fa_if_f hM hc12
        refine g_tableDef X 100 d_Face_run_38 (by
    exact Or.inl (by omega)) (by decide) ?_
        refine g_aload_n X 0 rfl d_Face_run_100 ?_
        refine g_get X ck_0 fo_0 (fa_xn fo_0 (by decide) hN) 5 (by decide) wd_632 rfl (fr_0_5 rfl hT) d_Face_run_101 ?_
        refine g_getN X ck_3 fo_44 (fa_xn fo_44 (by decide) hN) 11 (by decide) wd_251 rfl (fa_fvI rfl) d_Face_run_104 ?_
        cases hM
        exact g_iret X d_Face_run_107
      · have hM := fa_if_f hM hc6
        exact g_lv [] rfl (c_Face_run_j14 X hle hN hT a1 a2    _ hM)
  · have hM := fa_if_f hM hk4
    exact absurd (fa_c3 hM) hk4
set_option maxHeartbeats 4000000 in
set_option maxRecDepth 100000 in
theorem cx_Face_run_j14 {p : Program} {l : Launch} {e : Env} {s : State} {m : MethodId} {args : Array Value} {below : List Frame} {meth : Method} {c : Code} {hh : Nat} {D : va_G} {b : Nat} {aC : Nat → ClassId} {H0 : Heap} {N T : Nat} (X : fa_GX p s m args meth c prog_1_method_19_code 3 ((Option.some Jvm.ClassFile.FieldType.int)) y_Face_run.cls D b aC) (hle : 7 ≤ hh) (hnx : ∀ x ∈ c.exceptionTable.toList, False) (hfl : l.stackTraces = false) (hN : fa_NX ≤ N) (hT : fa_TX ≤ T) (a1 : Int) (a2 : Int) {rv : Int} {rw : fa_W} {kk : Int} (hk : kk ≠ 0)  : ∀ (w : fa_W) (_ : fm_Face_run_j14 a1 a2 w = some (kk, rv, rw)), fa_GJ p l e (fa_rmx hh) s m args below meth c 0 0 (fa_XQ D b aC H0 N T below args s kk rw) D b aC H0 N T 3 w 14 [] [] := by
  intro w hM
  unfold fm_Face_run_j14 at hM
  cases hM
  exact g_throwSW X hnx hfl (k := 2) (by decide) (names := ["java/lang/RuntimeException", "java/lang/Exception"]) dx_2_0 dx_2_1 dx_2_2 dx_2_5 (by decide +kernel) (by decide +kernel) wd_1213 wd_20 (List.mem_of_getElem? (i := 32) rfl) ax_2 ay_2 d_Face_run_14 d_Face_run_17 d_Face_run_18 d_Face_run_21 d_Face_run_24 (Nat.le_trans (Nat.le_of_ble_eq_true rfl) hle) (Nat.le_of_ble_eq_true rfl)
set_option maxHeartbeats 4000000 in
set_option maxRecDepth 100000 in
theorem cx_Face_run {l : Launch} {D : va_G} {b : Nat} {aC : Nat → ClassId} {H0 : Heap} {N T : Nat} (hN : fa_NX ≤ N) (hT : fa_TX ≤ T) (a1 : Int) (a2 : Int) (hfl : l.stackTraces = false) (w : fa_W) (rv : Int) (rw : fa_W) (kk : Int) (hk : kk ≠ 0) (hM : fm_Face_run a1 a2 w = some (kk, rv, rw)) : fa_MX l D b aC H0 N T y_Face_run prog_1_method_19_code 3 ((Option.some Jvm.ClassFile.FieldType.int)) (7) [.ref (b + 0), .int (fa_I a1), .int (fa_I a2)] w kk rw := by
  refine fa_xenter (lv := [(0, .ref (b + 0)), (1, .int (fa_I a1)), (2, .int (fa_I a2))]) (by decide +kernel) (Nat.le_of_ble_eq_true rfl) rfl (fun hh hle hnx X => ?_)
  unfold fm_Face_run at hM
  refine g_aload_n X 0 rfl d_Face_run_0 ?_
  refine g_iload_n X 1 rfl d_Face_run_1 ?_
  obtain ⟨k2, w3, e1, hM⟩ := fa_obd hM
  by_cases hk4 : k2 = 0
  · replace hM := fa_if_t hM hk4
    subst hk4
    refine g_callV_v X ck_0 fo_0 (fa_xn fo_0 (by decide) hN) rfl mi_Face_needHow (c_Face_needHow hN hT a1 w _ e1) wd_1316 rfl (Nat.le_trans (Nat.le_of_ble_eq_true rfl) hle) (st := []) (Nat.le_of_ble_eq_true rfl) rfl d_Face_run_2 ?_
    refine g_iload_n X 2 rfl d_Face_run_5 ?_
    refine g_if_lt X 14 d_Face_run_6 (by decide) (fun hc5 => ?_) (fun hc5 => ?_)
    · have hM := fa_if_t hM hc5
      exact g_lv [] rfl (cx_Face_run_j14 X hle hnx hfl hN hT a1 a2 hk    _ hM)
    · have hM := fa_if_f hM hc5
      refine g_iload_n X 2 rfl d_Face_run_9 ?_
      refine g_iconst X d_Face_run_10 ?_
      refine g_icmp_le X 25 d_Face_run_11 (by decide) (fun hc6 => ?_) (fun hc6 => ?_)
      · have hM := fa_if_t hM hc6
        refine g_aload_n X 0 rfl d_Face_run_25 ?_
        refine g_get X ck_0 fo_0 (fa_xn fo_0 (by decide) hN) 5 (by decide) wd_632 rfl (fr_0_5 rfl hT) d_Face_run_26 ?_
        refine g_aload_n X 0 rfl d_Face_run_29 ?_
        refine g_get X ck_0 fo_0 (fa_xn fo_0 (by decide) hN) 6 (by decide) wd_633 rfl (fr_0_6 rfl hT) d_Face_run_30 ?_
        refine g_iload_n X 1 rfl d_Face_run_33 ?_
        obtain ⟨w8, e7, hM⟩ := fa_ob hM
        refine g_callV_v X ck_3 fo_44 (fa_xn fo_44 (by decide) hN) rfl mi_Machine_perform (c_Machine_perform hN hT (fa_sc (w3 0 6)) a1 (fa_scs _) w3 _ e7) wd_1322 rfl (Nat.le_trans (Nat.le_of_ble_eq_true rfl) hle) (st := []) (Nat.le_of_ble_eq_true rfl) rfl d_Face_run_34 ?_
        refine g_iload_n X 2 rfl d_Face_run_37 ?_
        by_cases hc9 : fa_wr a2 = 0
        · have hM := fa_if_t hM hc9
          refine g_tableIn X 0 68 d_Face_run_38 hc9 (by decide) (by decide) rfl (by decide) ?_
          refine g_aload_n X 0 rfl d_Face_run_68 ?_
          refine g_get X ck_0 fo_0 (fa_xn fo_0 (by decide) hN) 5 (by decide) wd_632 rfl (fr_0_5 rfl hT) d_Face_run_69 ?_
          refine g_getN X ck_3 fo_44 (fa_xn fo_44 (by decide) hN) 7 (by decide) wd_243 rfl (fa_fvI rfl) d_Face_run_72 ?_
          exact absurd (fa_c3 hM).symm hk
        have hM := fa_if_f hM hc9
        by_cases hc10 : fa_wr a2 = 1
        · have hM := fa_if_t hM hc10
          refine g_tableIn X 1 76 d_Face_run_38 hc10 (by decide) (by decide) rfl (by decide) ?_
          refine g_aload_n X 0 rfl d_Face_run_76 ?_
          refine g_get X ck_0 fo_0 (fa_xn fo_0 (by decide) hN) 5 (by decide) wd_632 rfl (fr_0_5 rfl hT) d_Face_run_77 ?_
          refine g_getN X ck_3 fo_44 (fa_xn fo_44 (by decide) hN) 8 (by decide) wd_245 rfl (fa_fvI rfl) d_Face_run_80 ?_
          exact absurd (fa_c3 hM).symm hk
        have hM := fa_if_f hM hc10
        by_cases hc11 : fa_wr a2 = 2
        · have hM := fa_if_t hM hc11
          refine g_tableIn X 2 84 d_Face_run_38 hc11 (by decide) (by decide) rfl (by decide) ?_
          refine g_aload_n X 0 rfl d_Face_run_84 ?_
          refine g_get X ck_0 fo_0 (fa_xn fo_0 (by decide) hN) 5 (by decide) wd_632 rfl (fr_0_5 rfl hT) d_Face_run_85 ?_
          refine g_getN X ck_3 fo_44 (fa_xn fo_44 (by decide) hN) 9 (by decide) wd_247 rfl (fa_fvI rfl) d_Face_run_88 ?_
          exact absurd (fa_c3 hM).symm hk
        have hM := fa_if_f hM hc11
        by_cases hc12 : fa_wr a2 = 3
        · have hM := fa_if_t hM hc12
          refine g_tableIn X 3 92 d_Face_run_38 hc12 (by decide) (by decide) rfl (by decide) ?_
          refine g_aload_n X 0 rfl d_Face_run_92 ?_
          refine g_get X ck_0 fo_0 (fa_xn fo_0 (by decide) hN) 5 (by decide) wd_632 rfl (fr_0_5 rfl hT) d_Face_run_93 ?_
          refine g_getN X ck_3 fo_44 (fa_xn fo_44 (by decide) hN) 10 (by decide) wd_249 rfl (fa_fvI rfl) d_Face_run_96 ?_
          exact absurd (fa_c3 hM).symm hk
        have hM := fa_if_f hM hc12
        refine g_tableDef X 100 d_Face_run_38 (by
    exact Or.inl (by omega)) (by decide) ?_
        refine g_aload_n X 0 rfl d_Face_run_100 ?_
        refine g_get X ck_0 fo_0 (fa_xn fo_0 (by decide) hN) 5 (by decide) wd_632 rfl (fr_0_5 rfl hT) d_Face_run_101 ?_
        refine g_getN X ck_3 fo_44 (fa_xn fo_44 (by decide) hN) 11 (by decide) wd_251 rfl (fa_fvI rfl) d_Face_run_104 ?_
        exact absurd (fa_c3 hM).symm hk
      · have hM := fa_if_f hM hc6
        exact g_lv [] rfl (cx_Face_run_j14 X hle hnx hfl hN hT a1 a2 hk    _ hM)
  · have hM := fa_if_f hM hk4
    cases hM
    exact g_xcallV X hnx ck_0 fo_0 (fa_xn fo_0 (by decide) hN) rfl mi_Face_needHow (cx_Face_needHow hN hT a1 hfl w _ _ hk4 e1) wd_1316 rfl (Nat.le_trans (Nat.le_of_ble_eq_true rfl) hle) (st := []) (Nat.le_of_ble_eq_true rfl) rfl d_Face_run_2
theorem d_Face_blame_0 : decode prog_1_method_21_code 0 = .ok (.aload_n 0, 1) := by decide +kernel
theorem d_Face_blame_1 : decode prog_1_method_21_code 1 = .ok (.iload_n 1, 1) := by decide +kernel
theorem d_Face_blame_2 : decode prog_1_method_21_code 2 = .ok (.invokevirtual 292, 3) := by decide +kernel
theorem d_Face_blame_5 : decode prog_1_method_21_code 5 = .ok (.aload_n 0, 1) := by decide +kernel
theorem d_Face_blame_6 : decode prog_1_method_21_code 6 = .ok (.getfield 43, 3) := by decide +kernel
theorem d_Face_blame_9 : decode prog_1_method_21_code 9 = .ok (.aload_n 0, 1) := by decide +kernel
theorem d_Face_blame_10 : decode prog_1_method_21_code 10 = .ok (.getfield 50, 3) := by decide +kernel
theorem d_Face_blame_13 : decode prog_1_method_21_code 13 = .ok (.iload_n 1, 1) := by decide +kernel
theorem d_Face_blame_14 : decode prog_1_method_21_code 14 = .ok (.invokevirtual 297, 3) := by decide +kernel
theorem d_Face_blame_17 : decode prog_1_method_21_code 17 = .ok (.aload_n 0, 1) := by decide +kernel
theorem d_Face_blame_18 : decode prog_1_method_21_code 18 = .ok (.getfield 43, 3) := by decide +kernel
theorem d_Face_blame_21 : decode prog_1_method_21_code 21 = .ok (.iload_n 2, 1) := by decide +kernel
theorem d_Face_blame_22 : decode prog_1_method_21_code 22 = .ok (.invokevirtual 318, 3) := by decide +kernel
theorem d_Face_blame_25 : decode prog_1_method_21_code 25 = .ok (.ireturn, 1) := by decide +kernel
def fm_Face_blame (a1 : Int) (a2 : Int) (w : fa_W) : Option (Int × Int × fa_W) :=
  fa_bd (fm_Face_needHow a1 w) fun k2 w3 =>
  if k2 = 0 then
  ((fm_Machine_perform (fa_sc (w3 0 6)) a1 w3).bind fun w6 =>
  some (0, fm_Machine_blamed a2 w6, w6))
  else
  some (k2, 0, w3)
set_option maxHeartbeats 4000000 in
set_option maxRecDepth 100000 in
theorem c_Face_blame {l : Launch} {D : va_G} {b : Nat} {aC : Nat → ClassId} {H0 : Heap} {N T : Nat} (hN : fa_NX ≤ N) (hT : fa_TX ≤ T) (a1 : Int) (a2 : Int)  (w : fa_W) (rv : Int) (rw : fa_W) (hM : fm_Face_blame a1 a2 w = some (0, rv, rw)) : fa_MC l D b aC H0 N T y_Face_blame prog_1_method_21_code 3 ((Option.some Jvm.ClassFile.FieldType.int)) (7) [.ref (b + 0), .int (fa_I a1), .int (fa_I a2)] w (some (.int (fa_I rv))) rw := by
  refine fa_enter (lv := [(0, .ref (b + 0)), (1, .int (fa_I a1)), (2, .int (fa_I a2))]) (by decide +kernel) (Nat.le_of_ble_eq_true rfl) rfl (fun hh hle hnm X => ?_)
  unfold fm_Face_blame at hM
  refine g_aload_n X 0 rfl d_Face_blame_0 ?_
  refine g_iload_n X 1 rfl d_Face_blame_1 ?_
  obtain ⟨k2, w3, e1, hM⟩ := fa_obd hM
  by_cases hk4 : k2 = 0
  · replace hM := fa_if_t hM hk4
    subst hk4
    refine g_callV_v X ck_0 fo_0 (fa_xn fo_0 (by decide) hN) rfl mi_Face_needHow (c_Face_needHow hN hT a1 w _ e1) wd_1316 rfl (Nat.le_trans (Nat.le_of_ble_eq_true rfl) hle) (st := []) (Nat.le_of_ble_eq_true rfl) rfl d_Face_blame_2 ?_
    refine g_aload_n X 0 rfl d_Face_blame_5 ?_
    refine g_get X ck_0 fo_0 (fa_xn fo_0 (by decide) hN) 5 (by decide) wd_632 rfl (fr_0_5 rfl hT) d_Face_blame_6 ?_
    refine g_aload_n X 0 rfl d_Face_blame_9 ?_
    refine g_get X ck_0 fo_0 (fa_xn fo_0 (by decide) hN) 6 (by decide) wd_633 rfl (fr_0_6 rfl hT) d_Face_blame_10 ?_
    refine g_iload_n X 1 rfl d_Face_blame_13 ?_
    obtain ⟨w6, e5, hM⟩ := fa_ob hM
    refine g_callV_v X ck_3 fo_44 (fa_xn fo_44 (by decide) hN) rfl mi_Machine_perform (c_Machine_perform hN hT (fa_sc (w3 0 6)) a1 (fa_scs _) w3 _ e5) wd_1322 rfl (Nat.le_trans (Nat.le_of_ble_eq_true rfl) hle) (st := []) (Nat.le_of_ble_eq_true rfl) rfl d_Face_blame_14 ?_
    refine g_aload_n X 0 rfl d_Face_blame_17 ?_
    refine g_get X ck_0 fo_0 (fa_xn fo_0 (by decide) hN) 5 (by decide) wd_632 rfl (fr_0_5 rfl hT) d_Face_blame_18 ?_
    refine g_iload_n X 2 rfl d_Face_blame_21 ?_
    refine g_callV_i X ck_3 fo_44 (fa_xn fo_44 (by decide) hN) rfl mi_Machine_blamed (c_Machine_blamed hN hT a2 w6 _ rfl) wd_1418 rfl (Nat.le_trans (Nat.le_of_ble_eq_true rfl) hle) (st := []) (Nat.le_of_ble_eq_true rfl) rfl d_Face_blame_22 ?_
    cases hM
    exact g_iret X d_Face_blame_25
  · have hM := fa_if_f hM hk4
    exact absurd (fa_c3 hM) hk4
set_option maxHeartbeats 4000000 in
set_option maxRecDepth 100000 in
theorem cx_Face_blame {l : Launch} {D : va_G} {b : Nat} {aC : Nat → ClassId} {H0 : Heap} {N T : Nat} (hN : fa_NX ≤ N) (hT : fa_TX ≤ T) (a1 : Int) (a2 : Int) (hfl : l.stackTraces = false) (w : fa_W) (rv : Int) (rw : fa_W) (kk : Int) (hk : kk ≠ 0) (hM : fm_Face_blame a1 a2 w = some (kk, rv, rw)) : fa_MX l D b aC H0 N T y_Face_blame prog_1_method_21_code 3 ((Option.some Jvm.ClassFile.FieldType.int)) (7) [.ref (b + 0), .int (fa_I a1), .int (fa_I a2)] w kk rw := by
  refine fa_xenter (lv := [(0, .ref (b + 0)), (1, .int (fa_I a1)), (2, .int (fa_I a2))]) (by decide +kernel) (Nat.le_of_ble_eq_true rfl) rfl (fun hh hle hnx X => ?_)
  unfold fm_Face_blame at hM
  refine g_aload_n X 0 rfl d_Face_blame_0 ?_
  refine g_iload_n X 1 rfl d_Face_blame_1 ?_
  obtain ⟨k2, w3, e1, hM⟩ := fa_obd hM
  by_cases hk4 : k2 = 0
  · replace hM := fa_if_t hM hk4
    subst hk4
    refine g_callV_v X ck_0 fo_0 (fa_xn fo_0 (by decide) hN) rfl mi_Face_needHow (c_Face_needHow hN hT a1 w _ e1) wd_1316 rfl (Nat.le_trans (Nat.le_of_ble_eq_true rfl) hle) (st := []) (Nat.le_of_ble_eq_true rfl) rfl d_Face_blame_2 ?_
    refine g_aload_n X 0 rfl d_Face_blame_5 ?_
    refine g_get X ck_0 fo_0 (fa_xn fo_0 (by decide) hN) 5 (by decide) wd_632 rfl (fr_0_5 rfl hT) d_Face_blame_6 ?_
    refine g_aload_n X 0 rfl d_Face_blame_9 ?_
    refine g_get X ck_0 fo_0 (fa_xn fo_0 (by decide) hN) 6 (by decide) wd_633 rfl (fr_0_6 rfl hT) d_Face_blame_10 ?_
    refine g_iload_n X 1 rfl d_Face_blame_13 ?_
    obtain ⟨w6, e5, hM⟩ := fa_ob hM
    refine g_callV_v X ck_3 fo_44 (fa_xn fo_44 (by decide) hN) rfl mi_Machine_perform (c_Machine_perform hN hT (fa_sc (w3 0 6)) a1 (fa_scs _) w3 _ e5) wd_1322 rfl (Nat.le_trans (Nat.le_of_ble_eq_true rfl) hle) (st := []) (Nat.le_of_ble_eq_true rfl) rfl d_Face_blame_14 ?_
    refine g_aload_n X 0 rfl d_Face_blame_17 ?_
    refine g_get X ck_0 fo_0 (fa_xn fo_0 (by decide) hN) 5 (by decide) wd_632 rfl (fr_0_5 rfl hT) d_Face_blame_18 ?_
    refine g_iload_n X 2 rfl d_Face_blame_21 ?_
    refine g_callV_i X ck_3 fo_44 (fa_xn fo_44 (by decide) hN) rfl mi_Machine_blamed (c_Machine_blamed hN hT a2 w6 _ rfl) wd_1418 rfl (Nat.le_trans (Nat.le_of_ble_eq_true rfl) hle) (st := []) (Nat.le_of_ble_eq_true rfl) rfl d_Face_blame_22 ?_
    exact absurd (fa_c3 hM).symm hk
  · have hM := fa_if_f hM hk4
    cases hM
    exact g_xcallV X hnx ck_0 fo_0 (fa_xn fo_0 (by decide) hN) rfl mi_Face_needHow (cx_Face_needHow hN hT a1 hfl w _ _ hk4 e1) wd_1316 rfl (Nat.le_trans (Nat.le_of_ble_eq_true rfl) hle) (st := []) (Nat.le_of_ble_eq_true rfl) rfl d_Face_blame_2
theorem d_Face_form_0 : decode prog_1_method_22_code 0 = .ok (.aload_n 0, 1) := by decide +kernel
theorem d_Face_form_1 : decode prog_1_method_22_code 1 = .ok (.iload_n 1, 1) := by decide +kernel
theorem d_Face_form_2 : decode prog_1_method_22_code 2 = .ok (.invokevirtual 273, 3) := by decide +kernel
theorem d_Face_form_5 : decode prog_1_method_22_code 5 = .ok (.aload_n 0, 1) := by decide +kernel
theorem d_Face_form_6 : decode prog_1_method_22_code 6 = .ok (.getfield 36, 3) := by decide +kernel
theorem d_Face_form_9 : decode prog_1_method_22_code 9 = .ok (.aload_n 0, 1) := by decide +kernel
theorem d_Face_form_10 : decode prog_1_method_22_code 10 = .ok (.getfield 50, 3) := by decide +kernel
theorem d_Face_form_13 : decode prog_1_method_22_code 13 = .ok (.iload_n 1, 1) := by decide +kernel
theorem d_Face_form_14 : decode prog_1_method_22_code 14 = .ok (.invokevirtual 321, 3) := by decide +kernel
theorem d_Face_form_17 : decode prog_1_method_22_code 17 = .ok (.ireturn, 1) := by decide +kernel
def fm_Face_form (a1 : Int) (w : fa_W) : Option (Int × Int × fa_W) :=
  fa_bd (fm_Face_needSplit a1 w) fun k2 w3 =>
  if k2 = 0 then
  (fa_bd (fm_Writer_showForm (fa_sc (w3 0 6)) a1 w3) fun v6 w7 =>
  some (0, v6, w7))
  else
  some (k2, 0, w3)
set_option maxHeartbeats 4000000 in
set_option maxRecDepth 100000 in
theorem c_Face_form {l : Launch} {D : va_G} {b : Nat} {aC : Nat → ClassId} {H0 : Heap} {N T : Nat} (hN : fa_NX ≤ N) (hT : fa_TX ≤ T) (a1 : Int)  (w : fa_W) (rv : Int) (rw : fa_W) (hM : fm_Face_form a1 w = some (0, rv, rw)) : fa_MC l D b aC H0 N T y_Face_form prog_1_method_22_code 2 ((Option.some Jvm.ClassFile.FieldType.int)) (9) [.ref (b + 0), .int (fa_I a1)] w (some (.int (fa_I rv))) rw := by
  refine fa_enter (lv := [(0, .ref (b + 0)), (1, .int (fa_I a1))]) (by decide +kernel) (Nat.le_of_ble_eq_true rfl) rfl (fun hh hle hnm X => ?_)
  unfold fm_Face_form at hM
  refine g_aload_n X 0 rfl d_Face_form_0 ?_
  refine g_iload_n X 1 rfl d_Face_form_1 ?_
  obtain ⟨k2, w3, e1, hM⟩ := fa_obd hM
  by_cases hk4 : k2 = 0
  · replace hM := fa_if_t hM hk4
    subst hk4
    refine g_callV_v X ck_0 fo_0 (fa_xn fo_0 (by decide) hN) rfl mi_Face_needSplit (c_Face_needSplit hN hT a1 w _ e1) wd_1279 rfl (Nat.le_trans (Nat.le_of_ble_eq_true rfl) hle) (st := []) (Nat.le_of_ble_eq_true rfl) rfl d_Face_form_2 ?_
    refine g_aload_n X 0 rfl d_Face_form_5 ?_
    refine g_get X ck_0 fo_0 (fa_xn fo_0 (by decide) hN) 4 (by decide) wd_631 rfl (fr_0_4 rfl hT) d_Face_form_6 ?_
    refine g_aload_n X 0 rfl d_Face_form_9 ?_
    refine g_get X ck_0 fo_0 (fa_xn fo_0 (by decide) hN) 6 (by decide) wd_633 rfl (fr_0_6 rfl hT) d_Face_form_10 ?_
    refine g_iload_n X 1 rfl d_Face_form_13 ?_
    obtain ⟨v6, w7, e5, hM⟩ := fa_obd hM
    refine g_callV_i X ck_9 fo_37 (fa_xn fo_37 (by decide) hN) rfl mi_Writer_showForm (c_Writer_showForm hN hT (fa_sc (w3 0 6)) a1 (fa_scs _) w3 _ e5) wd_1429 rfl (Nat.le_trans (Nat.le_of_ble_eq_true rfl) hle) (st := []) (Nat.le_of_ble_eq_true rfl) rfl d_Face_form_14 ?_
    cases hM
    exact g_iret X d_Face_form_17
  · have hM := fa_if_f hM hk4
    exact absurd (fa_c3 hM) hk4
set_option maxHeartbeats 4000000 in
set_option maxRecDepth 100000 in
theorem cx_Face_form {l : Launch} {D : va_G} {b : Nat} {aC : Nat → ClassId} {H0 : Heap} {N T : Nat} (hN : fa_NX ≤ N) (hT : fa_TX ≤ T) (a1 : Int) (hfl : l.stackTraces = false) (w : fa_W) (rv : Int) (rw : fa_W) (kk : Int) (hk : kk ≠ 0) (hM : fm_Face_form a1 w = some (kk, rv, rw)) : fa_MX l D b aC H0 N T y_Face_form prog_1_method_22_code 2 ((Option.some Jvm.ClassFile.FieldType.int)) (9) [.ref (b + 0), .int (fa_I a1)] w kk rw := by
  refine fa_xenter (lv := [(0, .ref (b + 0)), (1, .int (fa_I a1))]) (by decide +kernel) (Nat.le_of_ble_eq_true rfl) rfl (fun hh hle hnx X => ?_)
  unfold fm_Face_form at hM
  refine g_aload_n X 0 rfl d_Face_form_0 ?_
  refine g_iload_n X 1 rfl d_Face_form_1 ?_
  obtain ⟨k2, w3, e1, hM⟩ := fa_obd hM
  by_cases hk4 : k2 = 0
  · replace hM := fa_if_t hM hk4
    subst hk4
    refine g_callV_v X ck_0 fo_0 (fa_xn fo_0 (by decide) hN) rfl mi_Face_needSplit (c_Face_needSplit hN hT a1 w _ e1) wd_1279 rfl (Nat.le_trans (Nat.le_of_ble_eq_true rfl) hle) (st := []) (Nat.le_of_ble_eq_true rfl) rfl d_Face_form_2 ?_
    refine g_aload_n X 0 rfl d_Face_form_5 ?_
    refine g_get X ck_0 fo_0 (fa_xn fo_0 (by decide) hN) 4 (by decide) wd_631 rfl (fr_0_4 rfl hT) d_Face_form_6 ?_
    refine g_aload_n X 0 rfl d_Face_form_9 ?_
    refine g_get X ck_0 fo_0 (fa_xn fo_0 (by decide) hN) 6 (by decide) wd_633 rfl (fr_0_6 rfl hT) d_Face_form_10 ?_
    refine g_iload_n X 1 rfl d_Face_form_13 ?_
    obtain ⟨v6, w7, e5, hM⟩ := fa_obd hM
    refine g_callV_i X ck_9 fo_37 (fa_xn fo_37 (by decide) hN) rfl mi_Writer_showForm (c_Writer_showForm hN hT (fa_sc (w3 0 6)) a1 (fa_scs _) w3 _ e5) wd_1429 rfl (Nat.le_trans (Nat.le_of_ble_eq_true rfl) hle) (st := []) (Nat.le_of_ble_eq_true rfl) rfl d_Face_form_14 ?_
    exact absurd (fa_c3 hM).symm hk
  · have hM := fa_if_f hM hk4
    cases hM
    exact g_xcallV X hnx ck_0 fo_0 (fa_xn fo_0 (by decide) hN) rfl mi_Face_needSplit (cx_Face_needSplit hN hT a1 hfl w _ _ hk4 e1) wd_1279 rfl (Nat.le_trans (Nat.le_of_ble_eq_true rfl) hle) (st := []) (Nat.le_of_ble_eq_true rfl) rfl d_Face_form_2
theorem d_Face_makeBack_0 : decode prog_1_method_24_code 0 = .ok (.aload_n 0, 1) := by decide +kernel
theorem d_Face_makeBack_1 : decode prog_1_method_24_code 1 = .ok (.getfield 54, 3) := by decide +kernel
theorem d_Face_makeBack_4 : decode prog_1_method_24_code 4 = .ok (.getfield 61, 3) := by decide +kernel
theorem d_Face_makeBack_7 : decode prog_1_method_24_code 7 = .ok (.aload_n 0, 1) := by decide +kernel
theorem d_Face_makeBack_8 : decode prog_1_method_24_code 8 = .ok (.getfield 50, 3) := by decide +kernel
theorem d_Face_makeBack_11 : decode prog_1_method_24_code 11 = .ok (.getfield 61, 3) := by decide +kernel
theorem d_Face_makeBack_14 : decode prog_1_method_24_code 14 = .ok (.aload_n 0, 1) := by decide +kernel
theorem d_Face_makeBack_15 : decode prog_1_method_24_code 15 = .ok (.getfield 50, 3) := by decide +kernel
theorem d_Face_makeBack_18 : decode prog_1_method_24_code 18 = .ok (.getfield 134, 3) := by decide +kernel
theorem d_Face_makeBack_21 : decode prog_1_method_24_code 21 = .ok (.getfield 138, 3) := by decide +kernel
theorem d_Face_makeBack_24 : decode prog_1_method_24_code 24 = .ok (.aload_n 0, 1) := by decide +kernel
theorem d_Face_makeBack_25 : decode prog_1_method_24_code 25 = .ok (.getfield 50, 3) := by decide +kernel
theorem d_Face_makeBack_28 : decode prog_1_method_24_code 28 = .ok (.getfield 134, 3) := by decide +kernel
theorem d_Face_makeBack_31 : decode prog_1_method_24_code 31 = .ok (.getfield 151, 3) := by decide +kernel
theorem d_Face_makeBack_34 : decode prog_1_method_24_code 34 = .ok (.invokevirtual 106, 3) := by decide +kernel
theorem d_Face_makeBack_37 : decode prog_1_method_24_code 37 = .ok (.return_, 1) := by decide +kernel
def fm_Face_makeBack (w : fa_W) : Option fa_W :=
  (fm_Program_copy (fa_rf (fa_sc (w 0 7)) 0) (fa_rf (fa_sc (w 0 6)) 0) (w (fa_rf (fa_sc (w 0 6)) 2) 5) (w (fa_rf (fa_sc (w 0 6)) 2) 6) w).bind fun w2 =>
  some w2
set_option maxHeartbeats 4000000 in
set_option maxRecDepth 100000 in
theorem c_Face_makeBack {l : Launch} {D : va_G} {b : Nat} {aC : Nat → ClassId} {H0 : Heap} {N T : Nat} (hN : fa_NX ≤ N) (hT : fa_TX ≤ T)   (w : fa_W) (r : fa_W) (hM : fm_Face_makeBack w = some r) : fa_MC l D b aC H0 N T y_Face_makeBack prog_1_method_24_code 1 ((Option.none : Option Jvm.ClassFile.FieldType)) (4) [.ref (b + 0)] w (none) r := by
  refine fa_enter (lv := [(0, .ref (b + 0))]) (by decide +kernel) (Nat.le_of_ble_eq_true rfl) rfl (fun hh hle hnm X => ?_)
  unfold fm_Face_makeBack at hM
  refine g_aload_n X 0 rfl d_Face_makeBack_0 ?_
  refine g_get X ck_0 fo_0 (fa_xn fo_0 (by decide) hN) 7 (by decide) wd_634 rfl (fr_0_7 rfl hT) d_Face_makeBack_1 ?_
  refine g_getN X ck_7 (fa_scs _) (fa_xn (fa_scs _) (by decide) hN) 0 (by decide) wd_385 rfl (fa_fvR rfl (fa_xt (fa_scs _) (by decide) hT 0)) d_Face_makeBack_4 ?_
  refine g_aload_n X 0 rfl d_Face_makeBack_7 ?_
  refine g_get X ck_0 fo_0 (fa_xn fo_0 (by decide) hN) 6 (by decide) wd_633 rfl (fr_0_6 rfl hT) d_Face_makeBack_8 ?_
  refine g_getN X ck_7 (fa_scs _) (fa_xn (fa_scs _) (by decide) hN) 0 (by decide) wd_385 rfl (fa_fvR rfl (fa_xt (fa_scs _) (by decide) hT 0)) d_Face_makeBack_11 ?_
  refine g_aload_n X 0 rfl d_Face_makeBack_14 ?_
  refine g_get X ck_0 fo_0 (fa_xn fo_0 (by decide) hN) 6 (by decide) wd_633 rfl (fr_0_6 rfl hT) d_Face_makeBack_15 ?_
  refine g_getN X ck_7 (fa_scs _) (fa_xn (fa_scs _) (by decide) hN) 2 (by decide) wd_394 rfl (fa_fvR rfl (fa_xt (fa_scs _) (by decide) hT 2)) d_Face_makeBack_18 ?_
  refine g_getN X ck_1 (fa_r7_2 _ (fa_scs _)) (fa_xn (fa_r7_2 _ (fa_scs _)) (by decide) hN) 5 (by decide) wd_343 rfl (fa_fvI rfl) d_Face_makeBack_21 ?_
  refine g_aload_n X 0 rfl d_Face_makeBack_24 ?_
  refine g_get X ck_0 fo_0 (fa_xn fo_0 (by decide) hN) 6 (by decide) wd_633 rfl (fr_0_6 rfl hT) d_Face_makeBack_25 ?_
  refine g_getN X ck_7 (fa_scs _) (fa_xn (fa_scs _) (by decide) hN) 2 (by decide) wd_394 rfl (fa_fvR rfl (fa_xt (fa_scs _) (by decide) hT 2)) d_Face_makeBack_28 ?_
  refine g_getN X ck_1 (fa_r7_2 _ (fa_scs _)) (fa_xn (fa_r7_2 _ (fa_scs _)) (by decide) hN) 6 (by decide) wd_347 rfl (fa_fvI rfl) d_Face_makeBack_31 ?_
  obtain ⟨w2, e1, hM⟩ := fa_ob hM
  refine g_callV_v X ck_4 (fa_r7_0 _ (fa_scs _)) (fa_xn (fa_r7_0 _ (fa_scs _)) (by decide) hN) rfl mi_Program_copy (c_Program_copy hN hT (fa_rf (fa_sc (w 0 7)) 0) (fa_rf (fa_sc (w 0 6)) 0) (w (fa_rf (fa_sc (w 0 6)) 2) 5) (w (fa_rf (fa_sc (w 0 6)) 2) 6) (fa_r7_0 _ (fa_scs _)) (fa_r7_0 _ (fa_scs _)) w _ e1) wd_721 rfl (Nat.le_trans (Nat.le_of_ble_eq_true rfl) hle) (st := []) (Nat.le_of_ble_eq_true rfl) rfl d_Face_makeBack_34 ?_
  cases hM
  exact g_vret X d_Face_makeBack_37
theorem d_Face_back_0 : decode prog_1_method_23_code 0 = .ok (.aload_n 0, 1) := by decide +kernel
theorem d_Face_back_1 : decode prog_1_method_23_code 1 = .ok (.invokevirtual 325, 3) := by decide +kernel
theorem d_Face_back_4 : decode prog_1_method_23_code 4 = .ok (.aload_n 0, 1) := by decide +kernel
theorem d_Face_back_5 : decode prog_1_method_23_code 5 = .ok (.getfield 36, 3) := by decide +kernel
theorem d_Face_back_8 : decode prog_1_method_23_code 8 = .ok (.aload_n 0, 1) := by decide +kernel
theorem d_Face_back_9 : decode prog_1_method_23_code 9 = .ok (.getfield 54, 3) := by decide +kernel
theorem d_Face_back_12 : decode prog_1_method_23_code 12 = .ok (.invokevirtual 328, 3) := by decide +kernel
theorem d_Face_back_15 : decode prog_1_method_23_code 15 = .ok (.ireturn, 1) := by decide +kernel
def fm_Face_back (w : fa_W) : Option (Int × fa_W) :=
  (fm_Face_makeBack w).bind fun w2 =>
  fa_bd (fm_Writer_showProgram (fa_sc (w2 0 7)) w2) fun v4 w5 =>
  some (v4, w5)
set_option maxHeartbeats 4000000 in
set_option maxRecDepth 100000 in
theorem c_Face_back {l : Launch} {D : va_G} {b : Nat} {aC : Nat → ClassId} {H0 : Heap} {N T : Nat} (hN : fa_NX ≤ N) (hT : fa_TX ≤ T)   (w : fa_W) (r : Int × fa_W) (hM : fm_Face_back w = some r) : fa_MC l D b aC H0 N T y_Face_back prog_1_method_23_code 1 ((Option.some Jvm.ClassFile.FieldType.int)) (9) [.ref (b + 0)] w (some (.int (fa_I r.1))) r.2 := by
  refine fa_enter (lv := [(0, .ref (b + 0))]) (by decide +kernel) (Nat.le_of_ble_eq_true rfl) rfl (fun hh hle hnm X => ?_)
  unfold fm_Face_back at hM
  refine g_aload_n X 0 rfl d_Face_back_0 ?_
  obtain ⟨w2, e1, hM⟩ := fa_ob hM
  refine g_callV_v X ck_0 fo_0 (fa_xn fo_0 (by decide) hN) rfl mi_Face_makeBack (c_Face_makeBack hN hT w _ e1) wd_717 rfl (Nat.le_trans (Nat.le_of_ble_eq_true rfl) hle) (st := []) (Nat.le_of_ble_eq_true rfl) rfl d_Face_back_1 ?_
  refine g_aload_n X 0 rfl d_Face_back_4 ?_
  refine g_get X ck_0 fo_0 (fa_xn fo_0 (by decide) hN) 4 (by decide) wd_631 rfl (fr_0_4 rfl hT) d_Face_back_5 ?_
  refine g_aload_n X 0 rfl d_Face_back_8 ?_
  refine g_get X ck_0 fo_0 (fa_xn fo_0 (by decide) hN) 7 (by decide) wd_634 rfl (fr_0_7 rfl hT) d_Face_back_9 ?_
  obtain ⟨v4, w5, e3, hM⟩ := fa_obd hM
  refine g_callV_i X ck_9 fo_37 (fa_xn fo_37 (by decide) hN) rfl mi_Writer_showProgram (c_Writer_showProgram hN hT (fa_sc (w2 0 7)) (fa_scs _) w2 _ e3) wd_758 rfl (Nat.le_trans (Nat.le_of_ble_eq_true rfl) hle) (st := []) (Nat.le_of_ble_eq_true rfl) rfl d_Face_back_12 ?_
  cases hM
  exact g_iret X d_Face_back_15
theorem d_Face_show_0 : decode prog_1_method_25_code 0 = .ok (.aload_n 0, 1) := by decide +kernel
theorem d_Face_show_1 : decode prog_1_method_25_code 1 = .ok (.getfield 36, 3) := by decide +kernel
theorem d_Face_show_4 : decode prog_1_method_25_code 4 = .ok (.aload_n 0, 1) := by decide +kernel
theorem d_Face_show_5 : decode prog_1_method_25_code 5 = .ok (.getfield 50, 3) := by decide +kernel
theorem d_Face_show_8 : decode prog_1_method_25_code 8 = .ok (.invokevirtual 328, 3) := by decide +kernel
theorem d_Face_show_11 : decode prog_1_method_25_code 11 = .ok (.ireturn, 1) := by decide +kernel
def fm_Face_show (w : fa_W) : Option (Int × fa_W) :=
  fa_bd (fm_Writer_showProgram (fa_sc (w 0 6)) w) fun v2 w3 =>
  some (v2, w3)
set_option maxHeartbeats 4000000 in
set_option maxRecDepth 100000 in
theorem c_Face_show {l : Launch} {D : va_G} {b : Nat} {aC : Nat → ClassId} {H0 : Heap} {N T : Nat} (hN : fa_NX ≤ N) (hT : fa_TX ≤ T)   (w : fa_W) (r : Int × fa_W) (hM : fm_Face_show w = some r) : fa_MC l D b aC H0 N T y_Face_show prog_1_method_25_code 1 ((Option.some Jvm.ClassFile.FieldType.int)) (9) [.ref (b + 0)] w (some (.int (fa_I r.1))) r.2 := by
  refine fa_enter (lv := [(0, .ref (b + 0))]) (by decide +kernel) (Nat.le_of_ble_eq_true rfl) rfl (fun hh hle hnm X => ?_)
  unfold fm_Face_show at hM
  refine g_aload_n X 0 rfl d_Face_show_0 ?_
  refine g_get X ck_0 fo_0 (fa_xn fo_0 (by decide) hN) 4 (by decide) wd_631 rfl (fr_0_4 rfl hT) d_Face_show_1 ?_
  refine g_aload_n X 0 rfl d_Face_show_4 ?_
  refine g_get X ck_0 fo_0 (fa_xn fo_0 (by decide) hN) 6 (by decide) wd_633 rfl (fr_0_6 rfl hT) d_Face_show_5 ?_
  obtain ⟨v2, w3, e1, hM⟩ := fa_obd hM
  refine g_callV_i X ck_9 fo_37 (fa_xn fo_37 (by decide) hN) rfl mi_Writer_showProgram (c_Writer_showProgram hN hT (fa_sc (w 0 6)) (fa_scs _) w _ e1) wd_758 rfl (Nat.le_trans (Nat.le_of_ble_eq_true rfl) hle) (st := []) (Nat.le_of_ble_eq_true rfl) rfl d_Face_show_8 ?_
  cases hM
  exact g_iret X d_Face_show_11
theorem d_Face_take_0 : decode prog_1_method_26_code 0 = .ok (.aload_n 0, 1) := by decide +kernel
theorem d_Face_take_1 : decode prog_1_method_26_code 1 = .ok (.invokevirtual 325, 3) := by decide +kernel
theorem d_Face_take_4 : decode prog_1_method_26_code 4 = .ok (.aload_n 0, 1) := by decide +kernel
theorem d_Face_take_5 : decode prog_1_method_26_code 5 = .ok (.getfield 54, 3) := by decide +kernel
theorem d_Face_take_8 : decode prog_1_method_26_code 8 = .ok (.invokevirtual 70, 3) := by decide +kernel
theorem d_Face_take_11 : decode prog_1_method_26_code 11 = .ok (.pop, 1) := by decide +kernel
theorem d_Face_take_12 : decode prog_1_method_26_code 12 = .ok (.aload_n 0, 1) := by decide +kernel
theorem d_Face_take_13 : decode prog_1_method_26_code 13 = .ok (.invokevirtual 115, 3) := by decide +kernel
theorem d_Face_take_16 : decode prog_1_method_26_code 16 = .ok (.ireturn, 1) := by decide +kernel
def fm_Face_take (w : fa_W) : Option (Int × fa_W) :=
  (fm_Face_makeBack w).bind fun w2 =>
  fa_bd (fm_Scene_settle (fa_sc (w2 0 7)) w2) fun v4 w5 =>
  fa_l2 (fm_Face_adopt w5) fun v7 w8 =>
  some (v7, w8)
set_option maxHeartbeats 4000000 in
set_option maxRecDepth 100000 in
theorem c_Face_take {l : Launch} {D : va_G} {b : Nat} {aC : Nat → ClassId} {H0 : Heap} {N T : Nat} (hN : fa_NX ≤ N) (hT : fa_TX ≤ T)   (w : fa_W) (r : Int × fa_W) (hM : fm_Face_take w = some r) : fa_MC l D b aC H0 N T y_Face_take prog_1_method_26_code 1 ((Option.some Jvm.ClassFile.FieldType.int)) (6) [.ref (b + 0)] w (some (.int (fa_I r.1))) r.2 := by
  refine fa_enter (lv := [(0, .ref (b + 0))]) (by decide +kernel) (Nat.le_of_ble_eq_true rfl) rfl (fun hh hle hnm X => ?_)
  unfold fm_Face_take at hM
  refine g_aload_n X 0 rfl d_Face_take_0 ?_
  obtain ⟨w2, e1, hM⟩ := fa_ob hM
  refine g_callV_v X ck_0 fo_0 (fa_xn fo_0 (by decide) hN) rfl mi_Face_makeBack (c_Face_makeBack hN hT w _ e1) wd_717 rfl (Nat.le_trans (Nat.le_of_ble_eq_true rfl) hle) (st := []) (Nat.le_of_ble_eq_true rfl) rfl d_Face_take_1 ?_
  refine g_aload_n X 0 rfl d_Face_take_4 ?_
  refine g_get X ck_0 fo_0 (fa_xn fo_0 (by decide) hN) 7 (by decide) wd_634 rfl (fr_0_7 rfl hT) d_Face_take_5 ?_
  obtain ⟨v4, w5, e3, hM⟩ := fa_obd hM
  refine g_callV_i X ck_7 (fa_scs _) (fa_xn (fa_scs _) (by decide) hN) rfl mi_Scene_settle (c_Scene_settle hN hT (fa_sc (w2 0 7)) (fa_scs _) w2 _ e3) wd_435 rfl (Nat.le_trans (Nat.le_of_ble_eq_true rfl) hle) (st := []) (Nat.le_of_ble_eq_true rfl) rfl d_Face_take_8 ?_
  refine g_pop X rfl d_Face_take_11 ?_
  refine g_aload_n X 0 rfl d_Face_take_12 ?_
  obtain ⟨⟨v7, w8⟩, e6⟩ : ∃ q, fm_Face_adopt w5 = q := ⟨_, rfl⟩
  have hM := fa_l2_e hM e6
  refine g_callV_i X ck_0 fo_0 (fa_xn fo_0 (by decide) hN) rfl mi_Face_adopt (c_Face_adopt hN hT w5 _ e6) wd_901 rfl (Nat.le_trans (Nat.le_of_ble_eq_true rfl) hle) (st := []) (Nat.le_of_ble_eq_true rfl) rfl d_Face_take_13 ?_
  cases hM
  exact g_iret X d_Face_take_16
theorem d_Face_ring_0 : decode prog_1_method_27_code 0 = .ok (.iload_n 1, 1) := by decide +kernel
theorem d_Face_ring_1 : decode prog_1_method_27_code 1 = .ok (.ifCond .lt 20, 3) := by decide +kernel
theorem d_Face_ring_4 : decode prog_1_method_27_code 4 = .ok (.iload_n 1, 1) := by decide +kernel
theorem d_Face_ring_5 : decode prog_1_method_27_code 5 = .ok (.aload_n 0, 1) := by decide +kernel
theorem d_Face_ring_6 : decode prog_1_method_27_code 6 = .ok (.getfield 50, 3) := by decide +kernel
theorem d_Face_ring_9 : decode prog_1_method_27_code 9 = .ok (.getfield 134, 3) := by decide +kernel
theorem d_Face_ring_12 : decode prog_1_method_27_code 12 = .ok (.getfield 332, 3) := by decide +kernel
theorem d_Face_ring_15 : decode prog_1_method_27_code 15 = .ok (.invokevirtual 74, 3) := by decide +kernel
theorem d_Face_ring_18 : decode prog_1_method_27_code 18 = .ok (.if_icmp .lt 14, 3) := by decide +kernel
theorem d_Face_ring_21 : decode prog_1_method_27_code 21 = .ok (.new 195, 3) := by decide +kernel
theorem d_Face_ring_24 : decode prog_1_method_27_code 24 = .ok (.dup, 1) := by decide +kernel
theorem d_Face_ring_25 : decode prog_1_method_27_code 25 = .ok (.ldc_w 335, 3) := by decide +kernel
theorem d_Face_ring_28 : decode prog_1_method_27_code 28 = .ok (.invokespecial 199, 3) := by decide +kernel
theorem d_Face_ring_31 : decode prog_1_method_27_code 31 = .ok (.athrow, 1) := by decide +kernel
theorem d_Face_ring_32 : decode prog_1_method_27_code 32 = .ok (.aload_n 0, 1) := by decide +kernel
theorem d_Face_ring_33 : decode prog_1_method_27_code 33 = .ok (.getfield 50, 3) := by decide +kernel
theorem d_Face_ring_36 : decode prog_1_method_27_code 36 = .ok (.getfield 134, 3) := by decide +kernel
theorem d_Face_ring_39 : decode prog_1_method_27_code 39 = .ok (.getfield 332, 3) := by decide +kernel
theorem d_Face_ring_42 : decode prog_1_method_27_code 42 = .ok (.iload_n 1, 1) := by decide +kernel
theorem d_Face_ring_43 : decode prog_1_method_27_code 43 = .ok (.invokevirtual 157, 3) := by decide +kernel
theorem d_Face_ring_46 : decode prog_1_method_27_code 46 = .ok (.ireturn, 1) := by decide +kernel
def fm_Face_ring_j21 (a1 : Int) (w : fa_W) : Option (Int × Int × fa_W) :=
  some (1, 0, w)
set_option maxHeartbeats 4000000 in
set_option maxRecDepth 100000 in
theorem c_Face_ring_j21 {p : Program} {l : Launch} {e : Env} {s : State} {m : MethodId} {args : Array Value} {below : List Frame} {meth : Method} {c : Code} {hh : Nat} {D : va_G} {b : Nat} {aC : Nat → ClassId} {H0 : Heap} {N T : Nat} (X : fa_GX p s m args meth c prog_1_method_27_code 2 ((Option.some Jvm.ClassFile.FieldType.int)) y_Face_ring.cls D b aC) (hle : 6 ≤ hh) (hN : fa_NX ≤ N) (hT : fa_TX ≤ T) (a1 : Int) {rv : Int} {rw : fa_W}  : ∀ (w : fa_W) (_ : fm_Face_ring_j21 a1 w = some (0, rv, rw)), fa_GJ p l e (fa_rm hh) s m args below meth c 0 0 (MQ below (fa_Qc D b aC H0 N T (some (.int (fa_I rv))) rw) args s 0 0 (fun q => b ≤ q)) D b aC H0 N T 2 w 21 [] [] := by
  intro w hM
  unfold fm_Face_ring_j21 at hM
  exact absurd (fa_c3 hM) (by decide)
def fm_Face_ring (a1 : Int) (w : fa_W) : Option (Int × Int × fa_W) :=
  if fa_wr a1 < 0 then
  fm_Face_ring_j21 a1 w
  else
  (if fa_wr a1 < fa_wr (fm_Row_size (fa_rf (fa_rf (fa_sc (w 0 6)) 2) 4) w) then
  some (0, fr_bits (fa_rf (fa_rf (fa_sc (w 0 6)) 2) 4) a1 w, w)
  else
  fm_Face_ring_j21 a1 w)
set_option maxHeartbeats 4000000 in
set_option maxRecDepth 100000 in
theorem c_Face_ring {l : Launch} {D : va_G} {b : Nat} {aC : Nat → ClassId} {H0 : Heap} {N T : Nat} (hN : fa_NX ≤ N) (hT : fa_TX ≤ T) (a1 : Int)  (w : fa_W) (rv : Int) (rw : fa_W) (hM : fm_Face_ring a1 w = some (0, rv, rw)) : fa_MC l D b aC H0 N T y_Face_ring prog_1_method_27_code 2 ((Option.some Jvm.ClassFile.FieldType.int)) (6) [.ref (b + 0), .int (fa_I a1)] w (some (.int (fa_I rv))) rw := by
  refine fa_enter (lv := [(0, .ref (b + 0)), (1, .int (fa_I a1))]) (by decide +kernel) (Nat.le_of_ble_eq_true rfl) rfl (fun hh hle hnm X => ?_)
  unfold fm_Face_ring at hM
  refine g_iload_n X 1 rfl d_Face_ring_0 ?_
  refine g_if_lt X 21 d_Face_ring_1 (by decide) (fun hc1 => ?_) (fun hc1 => ?_)
  · have hM := fa_if_t hM hc1
    exact g_lv [] rfl (c_Face_ring_j21 X hle hN hT a1    _ hM)
  · have hM := fa_if_f hM hc1
    refine g_iload_n X 1 rfl d_Face_ring_4 ?_
    refine g_aload_n X 0 rfl d_Face_ring_5 ?_
    refine g_get X ck_0 fo_0 (fa_xn fo_0 (by decide) hN) 6 (by decide) wd_633 rfl (fr_0_6 rfl hT) d_Face_ring_6 ?_
    refine g_getN X ck_7 (fa_scs _) (fa_xn (fa_scs _) (by decide) hN) 2 (by decide) wd_394 rfl (fa_fvR rfl (fa_xt (fa_scs _) (by decide) hT 2)) d_Face_ring_9 ?_
    refine g_getN X ck_1 (fa_r7_2 _ (fa_scs _)) (fa_xn (fa_r7_2 _ (fa_scs _)) (by decide) hN) 4 (by decide) wd_340 rfl (fa_fvR rfl (fa_xt (fa_r7_2 _ (fa_scs _)) (by decide) hT 4)) d_Face_ring_12 ?_
    refine g_callV_i X ck_6 (fa_r1_4 _ (fa_r7_2 _ (fa_scs _))) (fa_xn (fa_r1_4 _ (fa_r7_2 _ (fa_scs _))) (by decide) hN) rfl mi_Row_size (c_Row_size (fa_rf (fa_rf (fa_sc (w 0 6)) 2) 4) (fa_ro (fa_r1_4 _ (fa_r7_2 _ (fa_scs _))) hN hT) w _ rfl) wd_659 rfl (Nat.le_trans (Nat.le_of_ble_eq_true rfl) hle) (st := [.int (fa_I a1)]) (Nat.le_of_ble_eq_true rfl) rfl d_Face_ring_15 ?_
    refine g_icmp_lt X 32 d_Face_ring_18 (by decide) (fun hc3 => ?_) (fun hc3 => ?_)
    · have hM := fa_if_t hM hc3
      refine g_aload_n X 0 rfl d_Face_ring_32 ?_
      refine g_get X ck_0 fo_0 (fa_xn fo_0 (by decide) hN) 6 (by decide) wd_633 rfl (fr_0_6 rfl hT) d_Face_ring_33 ?_
      refine g_getN X ck_7 (fa_scs _) (fa_xn (fa_scs _) (by decide) hN) 2 (by decide) wd_394 rfl (fa_fvR rfl (fa_xt (fa_scs _) (by decide) hT 2)) d_Face_ring_36 ?_
      refine g_getN X ck_1 (fa_r7_2 _ (fa_scs _)) (fa_xn (fa_r7_2 _ (fa_scs _)) (by decide) hN) 4 (by decide) wd_340 rfl (fa_fvR rfl (fa_xt (fa_r7_2 _ (fa_scs _)) (by decide) hT 4)) d_Face_ring_39 ?_
      refine g_iload_n X 1 rfl d_Face_ring_42 ?_
      refine g_callV_i X ck_6 (fa_r1_4 _ (fa_r7_2 _ (fa_scs _))) (fa_xn (fa_r1_4 _ (fa_r7_2 _ (fa_scs _))) (by decide) hN) rfl mi_Row_bits (ct_Row_bits (fa_rf (fa_rf (fa_sc (w 0 6)) 2) 4) a1 (fa_ro (fa_r1_4 _ (fa_r7_2 _ (fa_scs _))) hN hT) w _ rfl) wd_1205 rfl (Nat.le_trans (Nat.le_of_ble_eq_true rfl) hle) (st := []) (Nat.le_of_ble_eq_true rfl) rfl d_Face_ring_43 ?_
      cases hM
      exact g_iret X d_Face_ring_46
    · have hM := fa_if_f hM hc3
      exact g_lv [] rfl (c_Face_ring_j21 X hle hN hT a1    _ hM)
set_option maxHeartbeats 4000000 in
set_option maxRecDepth 100000 in
theorem cx_Face_ring_j21 {p : Program} {l : Launch} {e : Env} {s : State} {m : MethodId} {args : Array Value} {below : List Frame} {meth : Method} {c : Code} {hh : Nat} {D : va_G} {b : Nat} {aC : Nat → ClassId} {H0 : Heap} {N T : Nat} (X : fa_GX p s m args meth c prog_1_method_27_code 2 ((Option.some Jvm.ClassFile.FieldType.int)) y_Face_ring.cls D b aC) (hle : 6 ≤ hh) (hnx : ∀ x ∈ c.exceptionTable.toList, False) (hfl : l.stackTraces = false) (hN : fa_NX ≤ N) (hT : fa_TX ≤ T) (a1 : Int) {rv : Int} {rw : fa_W} {kk : Int} (hk : kk ≠ 0)  : ∀ (w : fa_W) (_ : fm_Face_ring_j21 a1 w = some (kk, rv, rw)), fa_GJ p l e (fa_rmx hh) s m args below meth c 0 0 (fa_XQ D b aC H0 N T below args s kk rw) D b aC H0 N T 2 w 21 [] [] := by
  intro w hM
  unfold fm_Face_ring_j21 at hM
  cases hM
  exact g_throwSW X hnx hfl (k := 1) (by decide) (names := ["java/lang/RuntimeException", "java/lang/Exception"]) dx_1_0 dx_1_1 dx_1_2 dx_1_5 (by decide +kernel) (by decide +kernel) wd_1184 wd_19 (List.mem_of_getElem? (i := 34) rfl) ax_1 ay_1 d_Face_ring_21 d_Face_ring_24 d_Face_ring_25 d_Face_ring_28 d_Face_ring_31 (Nat.le_trans (Nat.le_of_ble_eq_true rfl) hle) (Nat.le_of_ble_eq_true rfl)
set_option maxHeartbeats 4000000 in
set_option maxRecDepth 100000 in
theorem cx_Face_ring {l : Launch} {D : va_G} {b : Nat} {aC : Nat → ClassId} {H0 : Heap} {N T : Nat} (hN : fa_NX ≤ N) (hT : fa_TX ≤ T) (a1 : Int) (hfl : l.stackTraces = false) (w : fa_W) (rv : Int) (rw : fa_W) (kk : Int) (hk : kk ≠ 0) (hM : fm_Face_ring a1 w = some (kk, rv, rw)) : fa_MX l D b aC H0 N T y_Face_ring prog_1_method_27_code 2 ((Option.some Jvm.ClassFile.FieldType.int)) (6) [.ref (b + 0), .int (fa_I a1)] w kk rw := by
  refine fa_xenter (lv := [(0, .ref (b + 0)), (1, .int (fa_I a1))]) (by decide +kernel) (Nat.le_of_ble_eq_true rfl) rfl (fun hh hle hnx X => ?_)
  unfold fm_Face_ring at hM
  refine g_iload_n X 1 rfl d_Face_ring_0 ?_
  refine g_if_lt X 21 d_Face_ring_1 (by decide) (fun hc1 => ?_) (fun hc1 => ?_)
  · have hM := fa_if_t hM hc1
    exact g_lv [] rfl (cx_Face_ring_j21 X hle hnx hfl hN hT a1 hk    _ hM)
  · have hM := fa_if_f hM hc1
    refine g_iload_n X 1 rfl d_Face_ring_4 ?_
    refine g_aload_n X 0 rfl d_Face_ring_5 ?_
    refine g_get X ck_0 fo_0 (fa_xn fo_0 (by decide) hN) 6 (by decide) wd_633 rfl (fr_0_6 rfl hT) d_Face_ring_6 ?_
    refine g_getN X ck_7 (fa_scs _) (fa_xn (fa_scs _) (by decide) hN) 2 (by decide) wd_394 rfl (fa_fvR rfl (fa_xt (fa_scs _) (by decide) hT 2)) d_Face_ring_9 ?_
    refine g_getN X ck_1 (fa_r7_2 _ (fa_scs _)) (fa_xn (fa_r7_2 _ (fa_scs _)) (by decide) hN) 4 (by decide) wd_340 rfl (fa_fvR rfl (fa_xt (fa_r7_2 _ (fa_scs _)) (by decide) hT 4)) d_Face_ring_12 ?_
    refine g_callV_i X ck_6 (fa_r1_4 _ (fa_r7_2 _ (fa_scs _))) (fa_xn (fa_r1_4 _ (fa_r7_2 _ (fa_scs _))) (by decide) hN) rfl mi_Row_size (c_Row_size (fa_rf (fa_rf (fa_sc (w 0 6)) 2) 4) (fa_ro (fa_r1_4 _ (fa_r7_2 _ (fa_scs _))) hN hT) w _ rfl) wd_659 rfl (Nat.le_trans (Nat.le_of_ble_eq_true rfl) hle) (st := [.int (fa_I a1)]) (Nat.le_of_ble_eq_true rfl) rfl d_Face_ring_15 ?_
    refine g_icmp_lt X 32 d_Face_ring_18 (by decide) (fun hc3 => ?_) (fun hc3 => ?_)
    · have hM := fa_if_t hM hc3
      refine g_aload_n X 0 rfl d_Face_ring_32 ?_
      refine g_get X ck_0 fo_0 (fa_xn fo_0 (by decide) hN) 6 (by decide) wd_633 rfl (fr_0_6 rfl hT) d_Face_ring_33 ?_
      refine g_getN X ck_7 (fa_scs _) (fa_xn (fa_scs _) (by decide) hN) 2 (by decide) wd_394 rfl (fa_fvR rfl (fa_xt (fa_scs _) (by decide) hT 2)) d_Face_ring_36 ?_
      refine g_getN X ck_1 (fa_r7_2 _ (fa_scs _)) (fa_xn (fa_r7_2 _ (fa_scs _)) (by decide) hN) 4 (by decide) wd_340 rfl (fa_fvR rfl (fa_xt (fa_r7_2 _ (fa_scs _)) (by decide) hT 4)) d_Face_ring_39 ?_
      refine g_iload_n X 1 rfl d_Face_ring_42 ?_
      refine g_callV_i X ck_6 (fa_r1_4 _ (fa_r7_2 _ (fa_scs _))) (fa_xn (fa_r1_4 _ (fa_r7_2 _ (fa_scs _))) (by decide) hN) rfl mi_Row_bits (ct_Row_bits (fa_rf (fa_rf (fa_sc (w 0 6)) 2) 4) a1 (fa_ro (fa_r1_4 _ (fa_r7_2 _ (fa_scs _))) hN hT) w _ rfl) wd_1205 rfl (Nat.le_trans (Nat.le_of_ble_eq_true rfl) hle) (st := []) (Nat.le_of_ble_eq_true rfl) rfl d_Face_ring_43 ?_
      exact absurd (fa_c3 hM).symm hk
    · have hM := fa_if_f hM hc3
      exact g_lv [] rfl (cx_Face_ring_j21 X hle hnx hfl hN hT a1 hk    _ hM)
theorem d_Face_far_0 : decode prog_1_method_28_code 0 = .ok (.aload_n 0, 1) := by decide +kernel
theorem d_Face_far_1 : decode prog_1_method_28_code 1 = .ok (.iload_n 1, 1) := by decide +kernel
theorem d_Face_far_2 : decode prog_1_method_28_code 2 = .ok (.invokevirtual 124, 3) := by decide +kernel
theorem d_Face_far_5 : decode prog_1_method_28_code 5 = .ok (.aload_n 0, 1) := by decide +kernel
theorem d_Face_far_6 : decode prog_1_method_28_code 6 = .ok (.iload_n 2, 1) := by decide +kernel
theorem d_Face_far_7 : decode prog_1_method_28_code 7 = .ok (.invokevirtual 124, 3) := by decide +kernel
theorem d_Face_far_10 : decode prog_1_method_28_code 10 = .ok (.aload_n 0, 1) := by decide +kernel
theorem d_Face_far_11 : decode prog_1_method_28_code 11 = .ok (.getfield 50, 3) := by decide +kernel
theorem d_Face_far_14 : decode prog_1_method_28_code 14 = .ok (.getfield 134, 3) := by decide +kernel
theorem d_Face_far_17 : decode prog_1_method_28_code 17 = .ok (.iload_n 1, 1) := by decide +kernel
theorem d_Face_far_18 : decode prog_1_method_28_code 18 = .ok (.iload_n 2, 1) := by decide +kernel
theorem d_Face_far_19 : decode prog_1_method_28_code 19 = .ok (.invokevirtual 337, 3) := by decide +kernel
theorem d_Face_far_22 : decode prog_1_method_28_code 22 = .ok (.ireturn, 1) := by decide +kernel
def fm_Face_far (a1 : Int) (a2 : Int) (w : fa_W) : Option (Int × Int × fa_W) :=
  fa_bd (fm_Face_needFunction a1 w) fun k2 w3 =>
  if k2 = 0 then
  (fa_bd (fm_Face_needFunction a2 w3) fun k6 w7 =>
  if k6 = 0 then
  ((fm_Flow_distance (fa_rf (fa_sc (w7 0 6)) 2) a1 a2 w7).bind fun v10 =>
  some (0, v10, w7))
  else
  some (k6, 0, w7))
  else
  some (k2, 0, w3)
set_option maxHeartbeats 4000000 in
set_option maxRecDepth 100000 in
theorem c_Face_far {l : Launch} {D : va_G} {b : Nat} {aC : Nat → ClassId} {H0 : Heap} {N T : Nat} (hN : fa_NX ≤ N) (hT : fa_TX ≤ T) (a1 : Int) (a2 : Int)  (w : fa_W) (rv : Int) (rw : fa_W) (hM : fm_Face_far a1 a2 w = some (0, rv, rw)) : fa_MC l D b aC H0 N T y_Face_far prog_1_method_28_code 3 ((Option.some Jvm.ClassFile.FieldType.int)) (7) [.ref (b + 0), .int (fa_I a1), .int (fa_I a2)] w (some (.int (fa_I rv))) rw := by
  refine fa_enter (lv := [(0, .ref (b + 0)), (1, .int (fa_I a1)), (2, .int (fa_I a2))]) (by decide +kernel) (Nat.le_of_ble_eq_true rfl) rfl (fun hh hle hnm X => ?_)
  unfold fm_Face_far at hM
  refine g_aload_n X 0 rfl d_Face_far_0 ?_
  refine g_iload_n X 1 rfl d_Face_far_1 ?_
  obtain ⟨k2, w3, e1, hM⟩ := fa_obd hM
  by_cases hk4 : k2 = 0
  · replace hM := fa_if_t hM hk4
    subst hk4
    refine g_callV_v X ck_0 fo_0 (fa_xn fo_0 (by decide) hN) rfl mi_Face_needFunction (c_Face_needFunction hN hT a1 w _ e1) wd_1180 rfl (Nat.le_trans (Nat.le_of_ble_eq_true rfl) hle) (st := []) (Nat.le_of_ble_eq_true rfl) rfl d_Face_far_2 ?_
    refine g_aload_n X 0 rfl d_Face_far_5 ?_
    refine g_iload_n X 2 rfl d_Face_far_6 ?_
    obtain ⟨k6, w7, e5, hM⟩ := fa_obd hM
    by_cases hk8 : k6 = 0
    · replace hM := fa_if_t hM hk8
      subst hk8
      refine g_callV_v X ck_0 fo_0 (fa_xn fo_0 (by decide) hN) rfl mi_Face_needFunction (c_Face_needFunction hN hT a2 w3 _ e5) wd_1180 rfl (Nat.le_trans (Nat.le_of_ble_eq_true rfl) hle) (st := []) (Nat.le_of_ble_eq_true rfl) rfl d_Face_far_7 ?_
      refine g_aload_n X 0 rfl d_Face_far_10 ?_
      refine g_get X ck_0 fo_0 (fa_xn fo_0 (by decide) hN) 6 (by decide) wd_633 rfl (fr_0_6 rfl hT) d_Face_far_11 ?_
      refine g_getN X ck_7 (fa_scs _) (fa_xn (fa_scs _) (by decide) hN) 2 (by decide) wd_394 rfl (fa_fvR rfl (fa_xt (fa_scs _) (by decide) hT 2)) d_Face_far_14 ?_
      refine g_iload_n X 1 rfl d_Face_far_17 ?_
      refine g_iload_n X 2 rfl d_Face_far_18 ?_
      obtain ⟨v10, e9, hM⟩ := fa_ob hM
      refine g_callV_i X ck_1 (fa_r7_2 _ (fa_scs _)) (fa_xn (fa_r7_2 _ (fa_scs _)) (by decide) hN) rfl mi_Flow_distance (c_Flow_distance hN hT (fa_rf (fa_sc (w7 0 6)) 2) a1 a2 (fa_r7_2 _ (fa_scs _)) w7 _ e9) wd_1458 rfl (Nat.le_trans (Nat.le_of_ble_eq_true rfl) hle) (st := []) (Nat.le_of_ble_eq_true rfl) rfl d_Face_far_19 ?_
      cases hM
      exact g_iret X d_Face_far_22
    · have hM := fa_if_f hM hk8
      exact absurd (fa_c3 hM) hk8
  · have hM := fa_if_f hM hk4
    exact absurd (fa_c3 hM) hk4
set_option maxHeartbeats 4000000 in
set_option maxRecDepth 100000 in
theorem cx_Face_far {l : Launch} {D : va_G} {b : Nat} {aC : Nat → ClassId} {H0 : Heap} {N T : Nat} (hN : fa_NX ≤ N) (hT : fa_TX ≤ T) (a1 : Int) (a2 : Int) (hfl : l.stackTraces = false) (w : fa_W) (rv : Int) (rw : fa_W) (kk : Int) (hk : kk ≠ 0) (hM : fm_Face_far a1 a2 w = some (kk, rv, rw)) : fa_MX l D b aC H0 N T y_Face_far prog_1_method_28_code 3 ((Option.some Jvm.ClassFile.FieldType.int)) (7) [.ref (b + 0), .int (fa_I a1), .int (fa_I a2)] w kk rw := by
  refine fa_xenter (lv := [(0, .ref (b + 0)), (1, .int (fa_I a1)), (2, .int (fa_I a2))]) (by decide +kernel) (Nat.le_of_ble_eq_true rfl) rfl (fun hh hle hnx X => ?_)
  unfold fm_Face_far at hM
  refine g_aload_n X 0 rfl d_Face_far_0 ?_
  refine g_iload_n X 1 rfl d_Face_far_1 ?_
  obtain ⟨k2, w3, e1, hM⟩ := fa_obd hM
  by_cases hk4 : k2 = 0
  · replace hM := fa_if_t hM hk4
    subst hk4
    refine g_callV_v X ck_0 fo_0 (fa_xn fo_0 (by decide) hN) rfl mi_Face_needFunction (c_Face_needFunction hN hT a1 w _ e1) wd_1180 rfl (Nat.le_trans (Nat.le_of_ble_eq_true rfl) hle) (st := []) (Nat.le_of_ble_eq_true rfl) rfl d_Face_far_2 ?_
    refine g_aload_n X 0 rfl d_Face_far_5 ?_
    refine g_iload_n X 2 rfl d_Face_far_6 ?_
    obtain ⟨k6, w7, e5, hM⟩ := fa_obd hM
    by_cases hk8 : k6 = 0
    · replace hM := fa_if_t hM hk8
      subst hk8
      refine g_callV_v X ck_0 fo_0 (fa_xn fo_0 (by decide) hN) rfl mi_Face_needFunction (c_Face_needFunction hN hT a2 w3 _ e5) wd_1180 rfl (Nat.le_trans (Nat.le_of_ble_eq_true rfl) hle) (st := []) (Nat.le_of_ble_eq_true rfl) rfl d_Face_far_7 ?_
      refine g_aload_n X 0 rfl d_Face_far_10 ?_
      refine g_get X ck_0 fo_0 (fa_xn fo_0 (by decide) hN) 6 (by decide) wd_633 rfl (fr_0_6 rfl hT) d_Face_far_11 ?_
      refine g_getN X ck_7 (fa_scs _) (fa_xn (fa_scs _) (by decide) hN) 2 (by decide) wd_394 rfl (fa_fvR rfl (fa_xt (fa_scs _) (by decide) hT 2)) d_Face_far_14 ?_
      refine g_iload_n X 1 rfl d_Face_far_17 ?_
      refine g_iload_n X 2 rfl d_Face_far_18 ?_
      obtain ⟨v10, e9, hM⟩ := fa_ob hM
      refine g_callV_i X ck_1 (fa_r7_2 _ (fa_scs _)) (fa_xn (fa_r7_2 _ (fa_scs _)) (by decide) hN) rfl mi_Flow_distance (c_Flow_distance hN hT (fa_rf (fa_sc (w7 0 6)) 2) a1 a2 (fa_r7_2 _ (fa_scs _)) w7 _ e9) wd_1458 rfl (Nat.le_trans (Nat.le_of_ble_eq_true rfl) hle) (st := []) (Nat.le_of_ble_eq_true rfl) rfl d_Face_far_19 ?_
      exact absurd (fa_c3 hM).symm hk
    · have hM := fa_if_f hM hk8
      cases hM
      exact g_xcallV X hnx ck_0 fo_0 (fa_xn fo_0 (by decide) hN) rfl mi_Face_needFunction (cx_Face_needFunction hN hT a2 hfl w3 _ _ hk8 e5) wd_1180 rfl (Nat.le_trans (Nat.le_of_ble_eq_true rfl) hle) (st := []) (Nat.le_of_ble_eq_true rfl) rfl d_Face_far_7
  · have hM := fa_if_f hM hk4
    cases hM
    exact g_xcallV X hnx ck_0 fo_0 (fa_xn fo_0 (by decide) hN) rfl mi_Face_needFunction (cx_Face_needFunction hN hT a1 hfl w _ _ hk4 e1) wd_1180 rfl (Nat.le_trans (Nat.le_of_ble_eq_true rfl) hle) (st := []) (Nat.le_of_ble_eq_true rfl) rfl d_Face_far_2
theorem d_Face_octet_0 : decode prog_1_method_29_code 0 = .ok (.aload_n 0, 1) := by decide +kernel
theorem d_Face_octet_1 : decode prog_1_method_29_code 1 = .ok (.getfield 18, 3) := by decide +kernel
theorem d_Face_octet_4 : decode prog_1_method_29_code 4 = .ok (.iload_n 1, 1) := by decide +kernel
theorem d_Face_octet_5 : decode prog_1_method_29_code 5 = .ok (.invokevirtual 209, 3) := by decide +kernel
theorem d_Face_octet_8 : decode prog_1_method_29_code 8 = .ok (.ireturn, 1) := by decide +kernel
def fm_Face_octet (a1 : Int) (w : fa_W) : Int :=
  fr_at 3 a1 w
set_option maxHeartbeats 4000000 in
set_option maxRecDepth 100000 in
theorem c_Face_octet {l : Launch} {D : va_G} {b : Nat} {aC : Nat → ClassId} {H0 : Heap} {N T : Nat} (hN : fa_NX ≤ N) (hT : fa_TX ≤ T) (a1 : Int)  (w : fa_W) (r : Int) (hM : fm_Face_octet a1 w = r) : fa_MC l D b aC H0 N T y_Face_octet prog_1_method_29_code 2 ((Option.some Jvm.ClassFile.FieldType.int)) (1) [.ref (b + 0), .int (fa_I a1)] w (some (.int (fa_I r))) w := by
  refine fa_enter (lv := [(0, .ref (b + 0)), (1, .int (fa_I a1))]) (by decide +kernel) (Nat.le_of_ble_eq_true rfl) rfl (fun hh hle hnm X => ?_)
  unfold fm_Face_octet at hM
  refine g_aload_n X 0 rfl d_Face_octet_0 ?_
  refine g_get X ck_0 fo_0 (fa_xn fo_0 (by decide) hN) 1 (by decide) wd_628 rfl (fr_0_1 rfl hT) d_Face_octet_1 ?_
  refine g_iload_n X 1 rfl d_Face_octet_4 ?_
  refine g_callV_i X ck_6 fo_3 (fa_xn fo_3 (by decide) hN) rfl mi_Row_at (ct_Row_at 3 a1 (fa_ro fo_3 hN hT) w _ rfl) wd_678 rfl (Nat.le_trans (Nat.le_of_ble_eq_true rfl) hle) (st := []) (Nat.le_of_ble_eq_true rfl) rfl d_Face_octet_5 ?_
  subst hM
  exact g_iret X d_Face_octet_8
theorem d_Face_countMadeFields_0 : decode prog_1_method_31_code 0 = .ok (.iconst 0, 1) := by decide +kernel
theorem d_Face_countMadeFields_1 : decode prog_1_method_31_code 1 = .ok (.istore_n 1, 1) := by decide +kernel
theorem d_Face_countMadeFields_2 : decode prog_1_method_31_code 2 = .ok (.iconst 0, 1) := by decide +kernel
theorem d_Face_countMadeFields_3 : decode prog_1_method_31_code 3 = .ok (.istore_n 2, 1) := by decide +kernel
theorem d_Face_countMadeFields_4 : decode prog_1_method_31_code 4 = .ok (.iload_n 2, 1) := by decide +kernel
theorem d_Face_countMadeFields_5 : decode prog_1_method_31_code 5 = .ok (.aload_n 0, 1) := by decide +kernel
theorem d_Face_countMadeFields_6 : decode prog_1_method_31_code 6 = .ok (.getfield 50, 3) := by decide +kernel
theorem d_Face_countMadeFields_9 : decode prog_1_method_31_code 9 = .ok (.getfield 61, 3) := by decide +kernel
theorem d_Face_countMadeFields_12 : decode prog_1_method_31_code 12 = .ok (.getfield 121, 3) := by decide +kernel
theorem d_Face_countMadeFields_15 : decode prog_1_method_31_code 15 = .ok (.if_icmp .ge 41, 3) := by decide +kernel
theorem d_Face_countMadeFields_18 : decode prog_1_method_31_code 18 = .ok (.aload_n 0, 1) := by decide +kernel
theorem d_Face_countMadeFields_19 : decode prog_1_method_31_code 19 = .ok (.getfield 50, 3) := by decide +kernel
theorem d_Face_countMadeFields_22 : decode prog_1_method_31_code 22 = .ok (.getfield 134, 3) := by decide +kernel
theorem d_Face_countMadeFields_25 : decode prog_1_method_31_code 25 = .ok (.getfield 138, 3) := by decide +kernel
theorem d_Face_countMadeFields_28 : decode prog_1_method_31_code 28 = .ok (.iload_n 2, 1) := by decide +kernel
theorem d_Face_countMadeFields_29 : decode prog_1_method_31_code 29 = .ok (.invokestatic 143, 3) := by decide +kernel
theorem d_Face_countMadeFields_32 : decode prog_1_method_31_code 32 = .ok (.ifCond .eq 18, 3) := by decide +kernel
theorem d_Face_countMadeFields_35 : decode prog_1_method_31_code 35 = .ok (.iload_n 1, 1) := by decide +kernel
theorem d_Face_countMadeFields_36 : decode prog_1_method_31_code 36 = .ok (.aload_n 0, 1) := by decide +kernel
theorem d_Face_countMadeFields_37 : decode prog_1_method_31_code 37 = .ok (.aload_n 0, 1) := by decide +kernel
theorem d_Face_countMadeFields_38 : decode prog_1_method_31_code 38 = .ok (.getfield 50, 3) := by decide +kernel
theorem d_Face_countMadeFields_41 : decode prog_1_method_31_code 41 = .ok (.getfield 61, 3) := by decide +kernel
theorem d_Face_countMadeFields_44 : decode prog_1_method_31_code 44 = .ok (.iload_n 2, 1) := by decide +kernel
theorem d_Face_countMadeFields_45 : decode prog_1_method_31_code 45 = .ok (.invokevirtual 164, 3) := by decide +kernel
theorem d_Face_countMadeFields_48 : decode prog_1_method_31_code 48 = .ok (.iadd, 1) := by decide +kernel
theorem d_Face_countMadeFields_49 : decode prog_1_method_31_code 49 = .ok (.istore_n 1, 1) := by decide +kernel
theorem d_Face_countMadeFields_50 : decode prog_1_method_31_code 50 = .ok (.iinc 2 1, 3) := by decide +kernel
theorem d_Face_countMadeFields_53 : decode prog_1_method_31_code 53 = .ok (.goto (-49), 3) := by decide +kernel
theorem d_Face_countMadeFields_56 : decode prog_1_method_31_code 56 = .ok (.iload_n 1, 1) := by decide +kernel
theorem d_Face_countMadeFields_57 : decode prog_1_method_31_code 57 = .ok (.ireturn, 1) := by decide +kernel
def fm_Face_countMadeFields_l4  : Nat → Int → Int → fa_W → Option (Int × fa_W)
  | 0, _, _, _ => none
  | n + 1, x1, x2, w => if fa_wr (w (fa_rf (fa_sc (w 0 6)) 0) 14) ≤ fa_wr x2 then
  some (x1, w)
  else
  (if fm_Face_hasBit (w (fa_rf (fa_sc (w 0 6)) 2) 5) x2 w = true then
  (fa_bd (fm_Face_countFields (fa_rf (fa_sc (w 0 6)) 0) x2 w) fun v6 w7 =>
  fa_let (x1 + v6) fun x1_8 =>
  fa_let (x2 + 1) fun x2_9 =>
  fm_Face_countMadeFields_l4 n x1_8 x2_9 w7)
  else
  (fa_let (x2 + 1) fun x2_4 =>
  fm_Face_countMadeFields_l4 n x1 x2_4 w))
set_option maxHeartbeats 4000000 in
set_option maxRecDepth 100000 in
theorem c_Face_countMadeFields_l4 {p : Program} {l : Launch} {e : Env} {s : State} {m : MethodId} {args : Array Value} {below : List Frame} {meth : Method} {c : Code} {hh : Nat} {D : va_G} {b : Nat} {aC : Nat → ClassId} {H0 : Heap} {N T : Nat} (X : fa_GX p s m args meth c prog_1_method_31_code 3 ((Option.some Jvm.ClassFile.FieldType.int)) y_Face_countMadeFields.cls D b aC) (hle : 3 ≤ hh) (hN : fa_NX ≤ N) (hT : fa_TX ≤ T) {r : Int × fa_W}  : ∀ (n : Nat) (x1 : Int) (x2 : Int) (w : fa_W), fm_Face_countMadeFields_l4 n x1 x2 w = some r → fa_GJ p l e (fa_rm hh) s m args below meth c 0 0 (MQ below (fa_Qc D b aC H0 N T (some (.int (fa_I r.1))) r.2) args s 0 0 (fun q => b ≤ q)) D b aC H0 N T 3 w 4 [(0, .ref (b + 0)), (1, .int (fa_I x1)), (2, .int (fa_I x2))] [] := by
  intro n
  induction n with
  | zero => intro x1 x2 w hM; exact fa_no hM
  | succ n ih =>
    intro x1 x2 w hM
    rw [fm_Face_countMadeFields_l4] at hM
    refine g_iload_n X 2 rfl d_Face_countMadeFields_4 ?_
    refine g_aload_n X 0 rfl d_Face_countMadeFields_5 ?_
    refine g_get X ck_0 fo_0 (fa_xn fo_0 (by decide) hN) 6 (by decide) wd_633 rfl (fr_0_6 rfl hT) d_Face_countMadeFields_6 ?_
    refine g_getN X ck_7 (fa_scs _) (fa_xn (fa_scs _) (by decide) hN) 0 (by decide) wd_385 rfl (fa_fvR rfl (fa_xt (fa_scs _) (by decide) hT 0)) d_Face_countMadeFields_9 ?_
    refine g_getN X ck_4 (fa_r7_0 _ (fa_scs _)) (fa_xn (fa_r7_0 _ (fa_scs _)) (by decide) hN) 14 (by decide) wd_101 rfl (fa_fvI rfl) d_Face_countMadeFields_12 ?_
    refine g_icmp_ge X 56 d_Face_countMadeFields_15 (by decide) (fun hc1 => ?_) (fun hc1 => ?_)
    · have hM := fa_if_t hM hc1
      refine g_iload_n X 1 rfl d_Face_countMadeFields_56 ?_
      cases hM
      exact g_iret X d_Face_countMadeFields_57
    · have hM := fa_if_f hM hc1
      refine g_aload_n X 0 rfl d_Face_countMadeFields_18 ?_
      refine g_get X ck_0 fo_0 (fa_xn fo_0 (by decide) hN) 6 (by decide) wd_633 rfl (fr_0_6 rfl hT) d_Face_countMadeFields_19 ?_
      refine g_getN X ck_7 (fa_scs _) (fa_xn (fa_scs _) (by decide) hN) 2 (by decide) wd_394 rfl (fa_fvR rfl (fa_xt (fa_scs _) (by decide) hT 2)) d_Face_countMadeFields_22 ?_
      refine g_getN X ck_1 (fa_r7_2 _ (fa_scs _)) (fa_xn (fa_r7_2 _ (fa_scs _)) (by decide) hN) 5 (by decide) wd_343 rfl (fa_fvI rfl) d_Face_countMadeFields_25 ?_
      refine g_iload_n X 2 rfl d_Face_countMadeFields_28 ?_
      refine g_callS_i X mi_Face_hasBit (c_Face_hasBit hN hT (w (fa_rf (fa_sc (w 0 6)) 2) 5) x2 w _ rfl) wd_944 rfl (Nat.le_trans (Nat.le_of_ble_eq_true rfl) hle) (st := []) (Nat.le_of_ble_eq_true rfl) rfl d_Face_countMadeFields_29 ?_
      refine g_ifb_eq X 50 d_Face_countMadeFields_32 (by decide) (fun hc3 => ?_) (fun hc3 => ?_)
      · have hM := fa_ifb_f hM hc3
        refine g_iinc X 2 (fun x2_4 => [(2, .int (fa_I x2_4)), (0, .ref (b + 0)), (1, .int (fa_I x1))]) d_Face_countMadeFields_50 rfl (by decide) (fun _ => rfl) (fun x2_4 ex2_4 => ?_)
        have hM := fa_let_to hM ex2_4
        refine g_goto X 4 d_Face_countMadeFields_53 (by decide) ?_
        exact g_lv [1, 2, 0] rfl (ih _ _ _ hM)
      · have hM := fa_ifb_t hM hc3
        refine g_iload_n X 1 rfl d_Face_countMadeFields_35 ?_
        refine g_aload_n X 0 rfl d_Face_countMadeFields_36 ?_
        refine g_aload_n X 0 rfl d_Face_countMadeFields_37 ?_
        refine g_get X ck_0 fo_0 (fa_xn fo_0 (by decide) hN) 6 (by decide) wd_633 rfl (fr_0_6 rfl hT) d_Face_countMadeFields_38 ?_
        refine g_getN X ck_7 (fa_scs _) (fa_xn (fa_scs _) (by decide) hN) 0 (by decide) wd_385 rfl (fa_fvR rfl (fa_xt (fa_scs _) (by decide) hT 0)) d_Face_countMadeFields_41 ?_
        refine g_iload_n X 2 rfl d_Face_countMadeFields_44 ?_
        obtain ⟨v6, w7, e5, hM⟩ := fa_obd hM
        refine g_callV_i X ck_0 fo_0 (fa_xn fo_0 (by decide) hN) rfl mi_Face_countFields (c_Face_countFields hN hT (fa_rf (fa_sc (w 0 6)) 0) x2 (fa_r7_0 _ (fa_scs _)) w _ e5) wd_945 rfl (Nat.le_trans (Nat.le_of_ble_eq_true rfl) hle) (st := [.int (fa_I x1)]) (Nat.le_of_ble_eq_true rfl) rfl d_Face_countMadeFields_45 ?_
        refine g_iadd X d_Face_countMadeFields_48 ?_
        refine g_istore_n X (fun x1_8 => [(1, .int (fa_I x1_8)), (0, .ref (b + 0)), (2, .int (fa_I x2))]) d_Face_countMadeFields_49 (by decide) (fun _ => rfl) (fun x1_8 ex1_8 => ?_)
        have hM := fa_let_to hM ex1_8
        refine g_iinc X 2 (fun x2_9 => [(2, .int (fa_I x2_9)), (1, .int (fa_I x1_8)), (0, .ref (b + 0))]) d_Face_countMadeFields_50 rfl (by decide) (fun _ => rfl) (fun x2_9 ex2_9 => ?_)
        have hM := fa_let_to hM ex2_9
        refine g_goto X 4 d_Face_countMadeFields_53 (by decide) ?_
        exact g_lv [2, 1, 0] rfl (ih _ _ _ hM)
def fm_Face_countMadeFields (w : fa_W) : Option (Int × fa_W) :=
  fm_Face_countMadeFields_l4 fa_FU 0 0 w
set_option maxHeartbeats 4000000 in
set_option maxRecDepth 100000 in
theorem c_Face_countMadeFields {l : Launch} {D : va_G} {b : Nat} {aC : Nat → ClassId} {H0 : Heap} {N T : Nat} (hN : fa_NX ≤ N) (hT : fa_TX ≤ T)   (w : fa_W) (r : Int × fa_W) (hM : fm_Face_countMadeFields w = some r) : fa_MC l D b aC H0 N T y_Face_countMadeFields prog_1_method_31_code 3 ((Option.some Jvm.ClassFile.FieldType.int)) (3) [.ref (b + 0)] w (some (.int (fa_I r.1))) r.2 := by
  refine fa_enter (lv := [(0, .ref (b + 0))]) (by decide +kernel) (Nat.le_of_ble_eq_true rfl) rfl (fun hh hle hnm X => ?_)
  unfold fm_Face_countMadeFields at hM
  refine g_iconst X d_Face_countMadeFields_0 ?_
  refine g_istorec_n X [(1, .int (fa_I 0)), (0, .ref (b + 0))] d_Face_countMadeFields_1 (by decide) rfl ?_
  refine g_iconst X d_Face_countMadeFields_2 ?_
  refine g_istorec_n X [(2, .int (fa_I 0)), (1, .int (fa_I 0)), (0, .ref (b + 0))] d_Face_countMadeFields_3 (by decide) rfl ?_
  exact g_lv [2, 1, 0] rfl (c_Face_countMadeFields_l4 X hle hN hT   fa_FU _ _ _ hM)
theorem d_Face_countBackThings_0 : decode prog_1_method_32_code 0 = .ok (.aload_n 0, 1) := by decide +kernel
theorem d_Face_countBackThings_1 : decode prog_1_method_32_code 1 = .ok (.invokevirtual 325, 3) := by decide +kernel
theorem d_Face_countBackThings_4 : decode prog_1_method_32_code 4 = .ok (.aload_n 0, 1) := by decide +kernel
theorem d_Face_countBackThings_5 : decode prog_1_method_32_code 5 = .ok (.getfield 54, 3) := by decide +kernel
theorem d_Face_countBackThings_8 : decode prog_1_method_32_code 8 = .ok (.getfield 61, 3) := by decide +kernel
theorem d_Face_countBackThings_11 : decode prog_1_method_32_code 11 = .ok (.invokevirtual 340, 3) := by decide +kernel
theorem d_Face_countBackThings_14 : decode prog_1_method_32_code 14 = .ok (.ireturn, 1) := by decide +kernel
def fm_Face_countBackThings (w : fa_W) : Option (Int × fa_W) :=
  (fm_Face_makeBack w).bind fun w2 =>
  some (fm_Program_things (fa_rf (fa_sc (w2 0 7)) 0) w2, w2)
set_option maxHeartbeats 4000000 in
set_option maxRecDepth 100000 in
theorem c_Face_countBackThings {l : Launch} {D : va_G} {b : Nat} {aC : Nat → ClassId} {H0 : Heap} {N T : Nat} (hN : fa_NX ≤ N) (hT : fa_TX ≤ T)   (w : fa_W) (r : Int × fa_W) (hM : fm_Face_countBackThings w = some r) : fa_MC l D b aC H0 N T y_Face_countBackThings prog_1_method_32_code 1 ((Option.some Jvm.ClassFile.FieldType.int)) (5) [.ref (b + 0)] w (some (.int (fa_I r.1))) r.2 := by
  refine fa_enter (lv := [(0, .ref (b + 0))]) (by decide +kernel) (Nat.le_of_ble_eq_true rfl) rfl (fun hh hle hnm X => ?_)
  unfold fm_Face_countBackThings at hM
  refine g_aload_n X 0 rfl d_Face_countBackThings_0 ?_
  obtain ⟨w2, e1, hM⟩ := fa_ob hM
  refine g_callV_v X ck_0 fo_0 (fa_xn fo_0 (by decide) hN) rfl mi_Face_makeBack (c_Face_makeBack hN hT w _ e1) wd_717 rfl (Nat.le_trans (Nat.le_of_ble_eq_true rfl) hle) (st := []) (Nat.le_of_ble_eq_true rfl) rfl d_Face_countBackThings_1 ?_
  refine g_aload_n X 0 rfl d_Face_countBackThings_4 ?_
  refine g_get X ck_0 fo_0 (fa_xn fo_0 (by decide) hN) 7 (by decide) wd_634 rfl (fr_0_7 rfl hT) d_Face_countBackThings_5 ?_
  refine g_getN X ck_7 (fa_scs _) (fa_xn (fa_scs _) (by decide) hN) 0 (by decide) wd_385 rfl (fa_fvR rfl (fa_xt (fa_scs _) (by decide) hT 0)) d_Face_countBackThings_8 ?_
  refine g_callV_i X ck_4 (fa_r7_0 _ (fa_scs _)) (fa_xn (fa_r7_0 _ (fa_scs _)) (by decide) hN) rfl mi_Program_things (c_Program_things hN hT (fa_rf (fa_sc (w2 0 7)) 0) (fa_r7_0 _ (fa_scs _)) w2 _ rfl) wd_918 rfl (Nat.le_trans (Nat.le_of_ble_eq_true rfl) hle) (st := []) (Nat.le_of_ble_eq_true rfl) rfl d_Face_countBackThings_11 ?_
  cases hM
  exact g_iret X d_Face_countBackThings_14
theorem d_Face_count_0 : decode prog_1_method_30_code 0 = .ok (.iload_n 1, 1) := by decide +kernel
theorem d_Face_count_1 : decode prog_1_method_30_code 1 = .ok (.tableswitch 230 0 12 #[67, 78, 100, 111, 122, 140, 151, 162, 180, 198, 212, 220, 225], 67) := by decide +kernel
theorem d_Face_count_68 : decode prog_1_method_30_code 68 = .ok (.aload_n 0, 1) := by decide +kernel
theorem d_Face_count_69 : decode prog_1_method_30_code 69 = .ok (.getfield 50, 3) := by decide +kernel
theorem d_Face_count_72 : decode prog_1_method_30_code 72 = .ok (.getfield 61, 3) := by decide +kernel
theorem d_Face_count_75 : decode prog_1_method_30_code 75 = .ok (.getfield 131, 3) := by decide +kernel
theorem d_Face_count_78 : decode prog_1_method_30_code 78 = .ok (.ireturn, 1) := by decide +kernel
theorem d_Face_count_79 : decode prog_1_method_30_code 79 = .ok (.aload_n 0, 1) := by decide +kernel
theorem d_Face_count_80 : decode prog_1_method_30_code 80 = .ok (.getfield 50, 3) := by decide +kernel
theorem d_Face_count_83 : decode prog_1_method_30_code 83 = .ok (.getfield 61, 3) := by decide +kernel
theorem d_Face_count_86 : decode prog_1_method_30_code 86 = .ok (.getfield 121, 3) := by decide +kernel
theorem d_Face_count_89 : decode prog_1_method_30_code 89 = .ok (.aload_n 0, 1) := by decide +kernel
theorem d_Face_count_90 : decode prog_1_method_30_code 90 = .ok (.getfield 50, 3) := by decide +kernel
theorem d_Face_count_93 : decode prog_1_method_30_code 93 = .ok (.getfield 61, 3) := by decide +kernel
theorem d_Face_count_96 : decode prog_1_method_30_code 96 = .ok (.getfield 131, 3) := by decide +kernel
theorem d_Face_count_99 : decode prog_1_method_30_code 99 = .ok (.isub, 1) := by decide +kernel
theorem d_Face_count_100 : decode prog_1_method_30_code 100 = .ok (.ireturn, 1) := by decide +kernel
theorem d_Face_count_101 : decode prog_1_method_30_code 101 = .ok (.aload_n 0, 1) := by decide +kernel
theorem d_Face_count_102 : decode prog_1_method_30_code 102 = .ok (.getfield 50, 3) := by decide +kernel
theorem d_Face_count_105 : decode prog_1_method_30_code 105 = .ok (.getfield 61, 3) := by decide +kernel
theorem d_Face_count_108 : decode prog_1_method_30_code 108 = .ok (.getfield 237, 3) := by decide +kernel
theorem d_Face_count_111 : decode prog_1_method_30_code 111 = .ok (.ireturn, 1) := by decide +kernel
theorem d_Face_count_112 : decode prog_1_method_30_code 112 = .ok (.aload_n 0, 1) := by decide +kernel
theorem d_Face_count_113 : decode prog_1_method_30_code 113 = .ok (.getfield 50, 3) := by decide +kernel
theorem d_Face_count_116 : decode prog_1_method_30_code 116 = .ok (.getfield 61, 3) := by decide +kernel
theorem d_Face_count_119 : decode prog_1_method_30_code 119 = .ok (.invokevirtual 340, 3) := by decide +kernel
theorem d_Face_count_122 : decode prog_1_method_30_code 122 = .ok (.ireturn, 1) := by decide +kernel
theorem d_Face_count_123 : decode prog_1_method_30_code 123 = .ok (.aload_n 0, 1) := by decide +kernel
theorem d_Face_count_124 : decode prog_1_method_30_code 124 = .ok (.getfield 50, 3) := by decide +kernel
theorem d_Face_count_127 : decode prog_1_method_30_code 127 = .ok (.getfield 134, 3) := by decide +kernel
theorem d_Face_count_130 : decode prog_1_method_30_code 130 = .ok (.aload_n 0, 1) := by decide +kernel
theorem d_Face_count_131 : decode prog_1_method_30_code 131 = .ok (.getfield 50, 3) := by decide +kernel
theorem d_Face_count_134 : decode prog_1_method_30_code 134 = .ok (.getfield 61, 3) := by decide +kernel
theorem d_Face_count_137 : decode prog_1_method_30_code 137 = .ok (.invokevirtual 183, 3) := by decide +kernel
theorem d_Face_count_140 : decode prog_1_method_30_code 140 = .ok (.ireturn, 1) := by decide +kernel
theorem d_Face_count_141 : decode prog_1_method_30_code 141 = .ok (.aload_n 0, 1) := by decide +kernel
theorem d_Face_count_142 : decode prog_1_method_30_code 142 = .ok (.getfield 50, 3) := by decide +kernel
theorem d_Face_count_145 : decode prog_1_method_30_code 145 = .ok (.getfield 134, 3) := by decide +kernel
theorem d_Face_count_148 : decode prog_1_method_30_code 148 = .ok (.getfield 138, 3) := by decide +kernel
theorem d_Face_count_151 : decode prog_1_method_30_code 151 = .ok (.ireturn, 1) := by decide +kernel
theorem d_Face_count_152 : decode prog_1_method_30_code 152 = .ok (.aload_n 0, 1) := by decide +kernel
theorem d_Face_count_153 : decode prog_1_method_30_code 153 = .ok (.getfield 50, 3) := by decide +kernel
theorem d_Face_count_156 : decode prog_1_method_30_code 156 = .ok (.getfield 134, 3) := by decide +kernel
theorem d_Face_count_159 : decode prog_1_method_30_code 159 = .ok (.getfield 151, 3) := by decide +kernel
theorem d_Face_count_162 : decode prog_1_method_30_code 162 = .ok (.ireturn, 1) := by decide +kernel
theorem d_Face_count_163 : decode prog_1_method_30_code 163 = .ok (.aload_n 0, 1) := by decide +kernel
theorem d_Face_count_164 : decode prog_1_method_30_code 164 = .ok (.getfield 50, 3) := by decide +kernel
theorem d_Face_count_167 : decode prog_1_method_30_code 167 = .ok (.getfield 134, 3) := by decide +kernel
theorem d_Face_count_170 : decode prog_1_method_30_code 170 = .ok (.aload_n 0, 1) := by decide +kernel
theorem d_Face_count_171 : decode prog_1_method_30_code 171 = .ok (.getfield 50, 3) := by decide +kernel
theorem d_Face_count_174 : decode prog_1_method_30_code 174 = .ok (.getfield 61, 3) := by decide +kernel
theorem d_Face_count_177 : decode prog_1_method_30_code 177 = .ok (.invokevirtual 343, 3) := by decide +kernel
theorem d_Face_count_180 : decode prog_1_method_30_code 180 = .ok (.ireturn, 1) := by decide +kernel
theorem d_Face_count_181 : decode prog_1_method_30_code 181 = .ok (.aload_n 0, 1) := by decide +kernel
theorem d_Face_count_182 : decode prog_1_method_30_code 182 = .ok (.getfield 50, 3) := by decide +kernel
theorem d_Face_count_185 : decode prog_1_method_30_code 185 = .ok (.getfield 134, 3) := by decide +kernel
theorem d_Face_count_188 : decode prog_1_method_30_code 188 = .ok (.aload_n 0, 1) := by decide +kernel
theorem d_Face_count_189 : decode prog_1_method_30_code 189 = .ok (.getfield 50, 3) := by decide +kernel
theorem d_Face_count_192 : decode prog_1_method_30_code 192 = .ok (.getfield 61, 3) := by decide +kernel
theorem d_Face_count_195 : decode prog_1_method_30_code 195 = .ok (.invokevirtual 346, 3) := by decide +kernel
theorem d_Face_count_198 : decode prog_1_method_30_code 198 = .ok (.ireturn, 1) := by decide +kernel
theorem d_Face_count_199 : decode prog_1_method_30_code 199 = .ok (.aload_n 0, 1) := by decide +kernel
theorem d_Face_count_200 : decode prog_1_method_30_code 200 = .ok (.getfield 50, 3) := by decide +kernel
theorem d_Face_count_203 : decode prog_1_method_30_code 203 = .ok (.getfield 134, 3) := by decide +kernel
theorem d_Face_count_206 : decode prog_1_method_30_code 206 = .ok (.getfield 332, 3) := by decide +kernel
theorem d_Face_count_209 : decode prog_1_method_30_code 209 = .ok (.invokevirtual 74, 3) := by decide +kernel
theorem d_Face_count_212 : decode prog_1_method_30_code 212 = .ok (.ireturn, 1) := by decide +kernel
theorem d_Face_count_213 : decode prog_1_method_30_code 213 = .ok (.aload_n 0, 1) := by decide +kernel
theorem d_Face_count_214 : decode prog_1_method_30_code 214 = .ok (.getfield 18, 3) := by decide +kernel
theorem d_Face_count_217 : decode prog_1_method_30_code 217 = .ok (.invokevirtual 74, 3) := by decide +kernel
theorem d_Face_count_220 : decode prog_1_method_30_code 220 = .ok (.ireturn, 1) := by decide +kernel
theorem d_Face_count_221 : decode prog_1_method_30_code 221 = .ok (.aload_n 0, 1) := by decide +kernel
theorem d_Face_count_222 : decode prog_1_method_30_code 222 = .ok (.invokevirtual 349, 3) := by decide +kernel
theorem d_Face_count_225 : decode prog_1_method_30_code 225 = .ok (.ireturn, 1) := by decide +kernel
theorem d_Face_count_226 : decode prog_1_method_30_code 226 = .ok (.aload_n 0, 1) := by decide +kernel
theorem d_Face_count_227 : decode prog_1_method_30_code 227 = .ok (.invokevirtual 352, 3) := by decide +kernel
theorem d_Face_count_230 : decode prog_1_method_30_code 230 = .ok (.ireturn, 1) := by decide +kernel
theorem d_Face_count_231 : decode prog_1_method_30_code 231 = .ok (.iconst (-1), 1) := by decide +kernel
theorem d_Face_count_232 : decode prog_1_method_30_code 232 = .ok (.ireturn, 1) := by decide +kernel
def fm_Face_count (a1 : Int) (w : fa_W) : Option (Int × fa_W) :=
  if fa_wr a1 = 0 then
  some (w (fa_rf (fa_sc (w 0 6)) 0) 13, w)
  else
  if fa_wr a1 = 1 then
  some ((w (fa_rf (fa_sc (w 0 6)) 0) 14) - (w (fa_rf (fa_sc (w 0 6)) 0) 13), w)
  else
  if fa_wr a1 = 2 then
  some (w (fa_rf (fa_sc (w 0 6)) 0) 15, w)
  else
  if fa_wr a1 = 3 then
  some (fm_Program_things (fa_rf (fa_sc (w 0 6)) 0) w, w)
  else
  if fa_wr a1 = 4 then
  some (fm_Flow_escapes (fa_rf (fa_sc (w 0 6)) 2) (fa_rf (fa_sc (w 0 6)) 0) w, w)
  else
  if fa_wr a1 = 5 then
  some (w (fa_rf (fa_sc (w 0 6)) 2) 5, w)
  else
  if fa_wr a1 = 6 then
  some (w (fa_rf (fa_sc (w 0 6)) 2) 6, w)
  else
  if fa_wr a1 = 7 then
  ((fm_Flow_countLooked (fa_rf (fa_sc (w 0 6)) 2) (fa_rf (fa_sc (w 0 6)) 0) w).bind fun v12 =>
  some (v12, w))
  else
  if fa_wr a1 = 8 then
  ((fm_Flow_countKnown (fa_rf (fa_sc (w 0 6)) 2) (fa_rf (fa_sc (w 0 6)) 0) w).bind fun v15 =>
  some (v15, w))
  else
  if fa_wr a1 = 9 then
  some (fm_Row_size (fa_rf (fa_rf (fa_sc (w 0 6)) 2) 4) w, w)
  else
  if fa_wr a1 = 10 then
  some (fm_Row_size 3 w, w)
  else
  if fa_wr a1 = 11 then
  (fa_bd (fm_Face_countMadeFields w) fun v22 w23 =>
  some (v22, w23))
  else
  if fa_wr a1 = 12 then
  (fa_bd (fm_Face_countBackThings w) fun v26 w27 =>
  some (v26, w27))
  else
  some ((-1), w)
set_option maxHeartbeats 4000000 in
set_option maxRecDepth 100000 in
theorem c_Face_count {l : Launch} {D : va_G} {b : Nat} {aC : Nat → ClassId} {H0 : Heap} {N T : Nat} (hN : fa_NX ≤ N) (hT : fa_TX ≤ T) (a1 : Int)  (w : fa_W) (r : Int × fa_W) (hM : fm_Face_count a1 w = some r) : fa_MC l D b aC H0 N T y_Face_count prog_1_method_30_code 2 ((Option.some Jvm.ClassFile.FieldType.int)) (6) [.ref (b + 0), .int (fa_I a1)] w (some (.int (fa_I r.1))) r.2 := by
  refine fa_enter (lv := [(0, .ref (b + 0)), (1, .int (fa_I a1))]) (by decide +kernel) (Nat.le_of_ble_eq_true rfl) rfl (fun hh hle hnm X => ?_)
  unfold fm_Face_count at hM
  refine g_iload_n X 1 rfl d_Face_count_0 ?_
  by_cases hc1 : fa_wr a1 = 0
  · have hM := fa_if_t hM hc1
    refine g_tableIn X 0 68 d_Face_count_1 hc1 (by decide) (by decide) rfl (by decide) ?_
    refine g_aload_n X 0 rfl d_Face_count_68 ?_
    refine g_get X ck_0 fo_0 (fa_xn fo_0 (by decide) hN) 6 (by decide) wd_633 rfl (fr_0_6 rfl hT) d_Face_count_69 ?_
    refine g_getN X ck_7 (fa_scs _) (fa_xn (fa_scs _) (by decide) hN) 0 (by decide) wd_385 rfl (fa_fvR rfl (fa_xt (fa_scs _) (by decide) hT 0)) d_Face_count_72 ?_
    refine g_getN X ck_4 (fa_r7_0 _ (fa_scs _)) (fa_xn (fa_r7_0 _ (fa_scs _)) (by decide) hN) 13 (by decide) wd_95 rfl (fa_fvI rfl) d_Face_count_75 ?_
    cases hM
    exact g_iret X d_Face_count_78
  have hM := fa_if_f hM hc1
  by_cases hc2 : fa_wr a1 = 1
  · have hM := fa_if_t hM hc2
    refine g_tableIn X 1 79 d_Face_count_1 hc2 (by decide) (by decide) rfl (by decide) ?_
    refine g_aload_n X 0 rfl d_Face_count_79 ?_
    refine g_get X ck_0 fo_0 (fa_xn fo_0 (by decide) hN) 6 (by decide) wd_633 rfl (fr_0_6 rfl hT) d_Face_count_80 ?_
    refine g_getN X ck_7 (fa_scs _) (fa_xn (fa_scs _) (by decide) hN) 0 (by decide) wd_385 rfl (fa_fvR rfl (fa_xt (fa_scs _) (by decide) hT 0)) d_Face_count_83 ?_
    refine g_getN X ck_4 (fa_r7_0 _ (fa_scs _)) (fa_xn (fa_r7_0 _ (fa_scs _)) (by decide) hN) 14 (by decide) wd_101 rfl (fa_fvI rfl) d_Face_count_86 ?_
    refine g_aload_n X 0 rfl d_Face_count_89 ?_
    refine g_get X ck_0 fo_0 (fa_xn fo_0 (by decide) hN) 6 (by decide) wd_633 rfl (fr_0_6 rfl hT) d_Face_count_90 ?_
    refine g_getN X ck_7 (fa_scs _) (fa_xn (fa_scs _) (by decide) hN) 0 (by decide) wd_385 rfl (fa_fvR rfl (fa_xt (fa_scs _) (by decide) hT 0)) d_Face_count_93 ?_
    refine g_getN X ck_4 (fa_r7_0 _ (fa_scs _)) (fa_xn (fa_r7_0 _ (fa_scs _)) (by decide) hN) 13 (by decide) wd_95 rfl (fa_fvI rfl) d_Face_count_96 ?_
    refine g_isub X d_Face_count_99 ?_
    cases hM
    exact g_iret X d_Face_count_100
  have hM := fa_if_f hM hc2
  by_cases hc3 : fa_wr a1 = 2
  · have hM := fa_if_t hM hc3
    refine g_tableIn X 2 101 d_Face_count_1 hc3 (by decide) (by decide) rfl (by decide) ?_
    refine g_aload_n X 0 rfl d_Face_count_101 ?_
    refine g_get X ck_0 fo_0 (fa_xn fo_0 (by decide) hN) 6 (by decide) wd_633 rfl (fr_0_6 rfl hT) d_Face_count_102 ?_
    refine g_getN X ck_7 (fa_scs _) (fa_xn (fa_scs _) (by decide) hN) 0 (by decide) wd_385 rfl (fa_fvR rfl (fa_xt (fa_scs _) (by decide) hT 0)) d_Face_count_105 ?_
    refine g_getN X ck_4 (fa_r7_0 _ (fa_scs _)) (fa_xn (fa_r7_0 _ (fa_scs _)) (by decide) hN) 15 (by decide) wd_105 rfl (fa_fvI rfl) d_Face_count_108 ?_
    cases hM
    exact g_iret X d_Face_count_111
  have hM := fa_if_f hM hc3
  by_cases hc4 : fa_wr a1 = 3
  · have hM := fa_if_t hM hc4
    refine g_tableIn X 3 112 d_Face_count_1 hc4 (by decide) (by decide) rfl (by decide) ?_
    refine g_aload_n X 0 rfl d_Face_count_112 ?_
    refine g_get X ck_0 fo_0 (fa_xn fo_0 (by decide) hN) 6 (by decide) wd_633 rfl (fr_0_6 rfl hT) d_Face_count_113 ?_
    refine g_getN X ck_7 (fa_scs _) (fa_xn (fa_scs _) (by decide) hN) 0 (by decide) wd_385 rfl (fa_fvR rfl (fa_xt (fa_scs _) (by decide) hT 0)) d_Face_count_116 ?_
    refine g_callV_i X ck_4 (fa_r7_0 _ (fa_scs _)) (fa_xn (fa_r7_0 _ (fa_scs _)) (by decide) hN) rfl mi_Program_things (c_Program_things hN hT (fa_rf (fa_sc (w 0 6)) 0) (fa_r7_0 _ (fa_scs _)) w _ rfl) wd_918 rfl (Nat.le_trans (Nat.le_of_ble_eq_true rfl) hle) (st := []) (Nat.le_of_ble_eq_true rfl) rfl d_Face_count_119 ?_
    cases hM
    exact g_iret X d_Face_count_122
  have hM := fa_if_f hM hc4
  by_cases hc6 : fa_wr a1 = 4
  · have hM := fa_if_t hM hc6
    refine g_tableIn X 4 123 d_Face_count_1 hc6 (by decide) (by decide) rfl (by decide) ?_
    refine g_aload_n X 0 rfl d_Face_count_123 ?_
    refine g_get X ck_0 fo_0 (fa_xn fo_0 (by decide) hN) 6 (by decide) wd_633 rfl (fr_0_6 rfl hT) d_Face_count_124 ?_
    refine g_getN X ck_7 (fa_scs _) (fa_xn (fa_scs _) (by decide) hN) 2 (by decide) wd_394 rfl (fa_fvR rfl (fa_xt (fa_scs _) (by decide) hT 2)) d_Face_count_127 ?_
    refine g_aload_n X 0 rfl d_Face_count_130 ?_
    refine g_get X ck_0 fo_0 (fa_xn fo_0 (by decide) hN) 6 (by decide) wd_633 rfl (fr_0_6 rfl hT) d_Face_count_131 ?_
    refine g_getN X ck_7 (fa_scs _) (fa_xn (fa_scs _) (by decide) hN) 0 (by decide) wd_385 rfl (fa_fvR rfl (fa_xt (fa_scs _) (by decide) hT 0)) d_Face_count_134 ?_
    refine g_callV_i X ck_1 (fa_r7_2 _ (fa_scs _)) (fa_xn (fa_r7_2 _ (fa_scs _)) (by decide) hN) rfl mi_Flow_escapes (c_Flow_escapes hN hT (fa_rf (fa_sc (w 0 6)) 2) (fa_rf (fa_sc (w 0 6)) 0) (fa_r7_2 _ (fa_scs _)) (fa_r7_0 _ (fa_scs _)) w _ rfl) wd_919 rfl (Nat.le_trans (Nat.le_of_ble_eq_true rfl) hle) (st := []) (Nat.le_of_ble_eq_true rfl) rfl d_Face_count_137 ?_
    cases hM
    exact g_iret X d_Face_count_140
  have hM := fa_if_f hM hc6
  by_cases hc8 : fa_wr a1 = 5
  · have hM := fa_if_t hM hc8
    refine g_tableIn X 5 141 d_Face_count_1 hc8 (by decide) (by decide) rfl (by decide) ?_
    refine g_aload_n X 0 rfl d_Face_count_141 ?_
    refine g_get X ck_0 fo_0 (fa_xn fo_0 (by decide) hN) 6 (by decide) wd_633 rfl (fr_0_6 rfl hT) d_Face_count_142 ?_
    refine g_getN X ck_7 (fa_scs _) (fa_xn (fa_scs _) (by decide) hN) 2 (by decide) wd_394 rfl (fa_fvR rfl (fa_xt (fa_scs _) (by decide) hT 2)) d_Face_count_145 ?_
    refine g_getN X ck_1 (fa_r7_2 _ (fa_scs _)) (fa_xn (fa_r7_2 _ (fa_scs _)) (by decide) hN) 5 (by decide) wd_343 rfl (fa_fvI rfl) d_Face_count_148 ?_
    cases hM
    exact g_iret X d_Face_count_151
  have hM := fa_if_f hM hc8
  by_cases hc9 : fa_wr a1 = 6
  · have hM := fa_if_t hM hc9
    refine g_tableIn X 6 152 d_Face_count_1 hc9 (by decide) (by decide) rfl (by decide) ?_
    refine g_aload_n X 0 rfl d_Face_count_152 ?_
    refine g_get X ck_0 fo_0 (fa_xn fo_0 (by decide) hN) 6 (by decide) wd_633 rfl (fr_0_6 rfl hT) d_Face_count_153 ?_
    refine g_getN X ck_7 (fa_scs _) (fa_xn (fa_scs _) (by decide) hN) 2 (by decide) wd_394 rfl (fa_fvR rfl (fa_xt (fa_scs _) (by decide) hT 2)) d_Face_count_156 ?_
    refine g_getN X ck_1 (fa_r7_2 _ (fa_scs _)) (fa_xn (fa_r7_2 _ (fa_scs _)) (by decide) hN) 6 (by decide) wd_347 rfl (fa_fvI rfl) d_Face_count_159 ?_
    cases hM
    exact g_iret X d_Face_count_162
  have hM := fa_if_f hM hc9
  by_cases hc10 : fa_wr a1 = 7
  · have hM := fa_if_t hM hc10
    refine g_tableIn X 7 163 d_Face_count_1 hc10 (by decide) (by decide) rfl (by decide) ?_
    refine g_aload_n X 0 rfl d_Face_count_163 ?_
    refine g_get X ck_0 fo_0 (fa_xn fo_0 (by decide) hN) 6 (by decide) wd_633 rfl (fr_0_6 rfl hT) d_Face_count_164 ?_
    refine g_getN X ck_7 (fa_scs _) (fa_xn (fa_scs _) (by decide) hN) 2 (by decide) wd_394 rfl (fa_fvR rfl (fa_xt (fa_scs _) (by decide) hT 2)) d_Face_count_167 ?_
    refine g_aload_n X 0 rfl d_Face_count_170 ?_
    refine g_get X ck_0 fo_0 (fa_xn fo_0 (by decide) hN) 6 (by decide) wd_633 rfl (fr_0_6 rfl hT) d_Face_count_171 ?_
    refine g_getN X ck_7 (fa_scs _) (fa_xn (fa_scs _) (by decide) hN) 0 (by decide) wd_385 rfl (fa_fvR rfl (fa_xt (fa_scs _) (by decide) hT 0)) d_Face_count_174 ?_
    obtain ⟨v12, e11, hM⟩ := fa_ob hM
    refine g_callV_i X ck_1 (fa_r7_2 _ (fa_scs _)) (fa_xn (fa_r7_2 _ (fa_scs _)) (by decide) hN) rfl mi_Flow_countLooked (c_Flow_countLooked hN hT (fa_rf (fa_sc (w 0 6)) 2) (fa_rf (fa_sc (w 0 6)) 0) (fa_r7_2 _ (fa_scs _)) (fa_r7_0 _ (fa_scs _)) w _ e11) wd_923 rfl (Nat.le_trans (Nat.le_of_ble_eq_true rfl) hle) (st := []) (Nat.le_of_ble_eq_true rfl) rfl d_Face_count_177 ?_
    cases hM
    exact g_iret X d_Face_count_180
  have hM := fa_if_f hM hc10
  by_cases hc13 : fa_wr a1 = 8
  · have hM := fa_if_t hM hc13
    refine g_tableIn X 8 181 d_Face_count_1 hc13 (by decide) (by decide) rfl (by decide) ?_
    refine g_aload_n X 0 rfl d_Face_count_181 ?_
    refine g_get X ck_0 fo_0 (fa_xn fo_0 (by decide) hN) 6 (by decide) wd_633 rfl (fr_0_6 rfl hT) d_Face_count_182 ?_
    refine g_getN X ck_7 (fa_scs _) (fa_xn (fa_scs _) (by decide) hN) 2 (by decide) wd_394 rfl (fa_fvR rfl (fa_xt (fa_scs _) (by decide) hT 2)) d_Face_count_185 ?_
    refine g_aload_n X 0 rfl d_Face_count_188 ?_
    refine g_get X ck_0 fo_0 (fa_xn fo_0 (by decide) hN) 6 (by decide) wd_633 rfl (fr_0_6 rfl hT) d_Face_count_189 ?_
    refine g_getN X ck_7 (fa_scs _) (fa_xn (fa_scs _) (by decide) hN) 0 (by decide) wd_385 rfl (fa_fvR rfl (fa_xt (fa_scs _) (by decide) hT 0)) d_Face_count_192 ?_
    obtain ⟨v15, e14, hM⟩ := fa_ob hM
    refine g_callV_i X ck_1 (fa_r7_2 _ (fa_scs _)) (fa_xn (fa_r7_2 _ (fa_scs _)) (by decide) hN) rfl mi_Flow_countKnown (c_Flow_countKnown hN hT (fa_rf (fa_sc (w 0 6)) 2) (fa_rf (fa_sc (w 0 6)) 0) (fa_r7_2 _ (fa_scs _)) (fa_r7_0 _ (fa_scs _)) w _ e14) wd_930 rfl (Nat.le_trans (Nat.le_of_ble_eq_true rfl) hle) (st := []) (Nat.le_of_ble_eq_true rfl) rfl d_Face_count_195 ?_
    cases hM
    exact g_iret X d_Face_count_198
  have hM := fa_if_f hM hc13
  by_cases hc16 : fa_wr a1 = 9
  · have hM := fa_if_t hM hc16
    refine g_tableIn X 9 199 d_Face_count_1 hc16 (by decide) (by decide) rfl (by decide) ?_
    refine g_aload_n X 0 rfl d_Face_count_199 ?_
    refine g_get X ck_0 fo_0 (fa_xn fo_0 (by decide) hN) 6 (by decide) wd_633 rfl (fr_0_6 rfl hT) d_Face_count_200 ?_
    refine g_getN X ck_7 (fa_scs _) (fa_xn (fa_scs _) (by decide) hN) 2 (by decide) wd_394 rfl (fa_fvR rfl (fa_xt (fa_scs _) (by decide) hT 2)) d_Face_count_203 ?_
    refine g_getN X ck_1 (fa_r7_2 _ (fa_scs _)) (fa_xn (fa_r7_2 _ (fa_scs _)) (by decide) hN) 4 (by decide) wd_340 rfl (fa_fvR rfl (fa_xt (fa_r7_2 _ (fa_scs _)) (by decide) hT 4)) d_Face_count_206 ?_
    refine g_callV_i X ck_6 (fa_r1_4 _ (fa_r7_2 _ (fa_scs _))) (fa_xn (fa_r1_4 _ (fa_r7_2 _ (fa_scs _))) (by decide) hN) rfl mi_Row_size (c_Row_size (fa_rf (fa_rf (fa_sc (w 0 6)) 2) 4) (fa_ro (fa_r1_4 _ (fa_r7_2 _ (fa_scs _))) hN hT) w _ rfl) wd_659 rfl (Nat.le_trans (Nat.le_of_ble_eq_true rfl) hle) (st := []) (Nat.le_of_ble_eq_true rfl) rfl d_Face_count_209 ?_
    cases hM
    exact g_iret X d_Face_count_212
  have hM := fa_if_f hM hc16
  by_cases hc18 : fa_wr a1 = 10
  · have hM := fa_if_t hM hc18
    refine g_tableIn X 10 213 d_Face_count_1 hc18 (by decide) (by decide) rfl (by decide) ?_
    refine g_aload_n X 0 rfl d_Face_count_213 ?_
    refine g_get X ck_0 fo_0 (fa_xn fo_0 (by decide) hN) 1 (by decide) wd_628 rfl (fr_0_1 rfl hT) d_Face_count_214 ?_
    refine g_callV_i X ck_6 fo_3 (fa_xn fo_3 (by decide) hN) rfl mi_Row_size (c_Row_size 3 (fa_ro fo_3 hN hT) w _ rfl) wd_659 rfl (Nat.le_trans (Nat.le_of_ble_eq_true rfl) hle) (st := []) (Nat.le_of_ble_eq_true rfl) rfl d_Face_count_217 ?_
    cases hM
    exact g_iret X d_Face_count_220
  have hM := fa_if_f hM hc18
  by_cases hc20 : fa_wr a1 = 11
  · have hM := fa_if_t hM hc20
    refine g_tableIn X 11 221 d_Face_count_1 hc20 (by decide) (by decide) rfl (by decide) ?_
    refine g_aload_n X 0 rfl d_Face_count_221 ?_
    obtain ⟨v22, w23, e21, hM⟩ := fa_obd hM
    refine g_callV_i X ck_0 fo_0 (fa_xn fo_0 (by decide) hN) rfl mi_Face_countMadeFields (c_Face_countMadeFields hN hT w _ e21) wd_940 rfl (Nat.le_trans (Nat.le_of_ble_eq_true rfl) hle) (st := []) (Nat.le_of_ble_eq_true rfl) rfl d_Face_count_222 ?_
    cases hM
    exact g_iret X d_Face_count_225
  have hM := fa_if_f hM hc20
  by_cases hc24 : fa_wr a1 = 12
  · have hM := fa_if_t hM hc24
    refine g_tableIn X 12 226 d_Face_count_1 hc24 (by decide) (by decide) rfl (by decide) ?_
    refine g_aload_n X 0 rfl d_Face_count_226 ?_
    obtain ⟨v26, w27, e25, hM⟩ := fa_obd hM
    refine g_callV_i X ck_0 fo_0 (fa_xn fo_0 (by decide) hN) rfl mi_Face_countBackThings (c_Face_countBackThings hN hT w _ e25) wd_950 rfl (Nat.le_trans (Nat.le_of_ble_eq_true rfl) hle) (st := []) (Nat.le_of_ble_eq_true rfl) rfl d_Face_count_227 ?_
    cases hM
    exact g_iret X d_Face_count_230
  have hM := fa_if_f hM hc24
  refine g_tableDef X 231 d_Face_count_1 (by
    exact Or.inl (by omega)) (by decide) ?_
  refine g_iconst X d_Face_count_231 ?_
  cases hM
  exact g_iret X d_Face_count_232
