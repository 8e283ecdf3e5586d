theorem d_Scene_settle_0 : decode prog_8_method_2_code 0 = .ok (.aload_n 0, 1) := by decide +kernel
theorem d_Scene_settle_1 : decode prog_8_method_2_code 1 = .ok (.getfield 19, 3) := by decide +kernel
theorem d_Scene_settle_4 : decode prog_8_method_2_code 4 = .ok (.aload_n 0, 1) := by decide +kernel
theorem d_Scene_settle_5 : decode prog_8_method_2_code 5 = .ok (.getfield 10, 3) := by decide +kernel
theorem d_Scene_settle_8 : decode prog_8_method_2_code 8 = .ok (.invokevirtual 37, 3) := by decide +kernel
theorem d_Scene_settle_11 : decode prog_8_method_2_code 11 = .ok (.ifCond .ne 5, 3) := by decide +kernel
theorem d_Scene_settle_14 : decode prog_8_method_2_code 14 = .ok (.iconst 0, 1) := by decide +kernel
theorem d_Scene_settle_15 : decode prog_8_method_2_code 15 = .ok (.ireturn, 1) := by decide +kernel
theorem d_Scene_settle_16 : decode prog_8_method_2_code 16 = .ok (.aload_n 0, 1) := by decide +kernel
theorem d_Scene_settle_17 : decode prog_8_method_2_code 17 = .ok (.getfield 26, 3) := by decide +kernel
theorem d_Scene_settle_20 : decode prog_8_method_2_code 20 = .ok (.aload_n 0, 1) := by decide +kernel
theorem d_Scene_settle_21 : decode prog_8_method_2_code 21 = .ok (.getfield 10, 3) := by decide +kernel
theorem d_Scene_settle_24 : decode prog_8_method_2_code 24 = .ok (.invokevirtual 41, 3) := by decide +kernel
theorem d_Scene_settle_27 : decode prog_8_method_2_code 27 = .ok (.aload_n 0, 1) := by decide +kernel
theorem d_Scene_settle_28 : decode prog_8_method_2_code 28 = .ok (.getfield 33, 3) := by decide +kernel
theorem d_Scene_settle_31 : decode prog_8_method_2_code 31 = .ok (.aload_n 0, 1) := by decide +kernel
theorem d_Scene_settle_32 : decode prog_8_method_2_code 32 = .ok (.getfield 10, 3) := by decide +kernel
theorem d_Scene_settle_35 : decode prog_8_method_2_code 35 = .ok (.aload_n 0, 1) := by decide +kernel
theorem d_Scene_settle_36 : decode prog_8_method_2_code 36 = .ok (.getfield 19, 3) := by decide +kernel
theorem d_Scene_settle_39 : decode prog_8_method_2_code 39 = .ok (.aload_n 0, 1) := by decide +kernel
theorem d_Scene_settle_40 : decode prog_8_method_2_code 40 = .ok (.getfield 26, 3) := by decide +kernel
theorem d_Scene_settle_43 : decode prog_8_method_2_code 43 = .ok (.invokevirtual 45, 3) := by decide +kernel
theorem d_Scene_settle_46 : decode prog_8_method_2_code 46 = .ok (.iconst 1, 1) := by decide +kernel
theorem d_Scene_settle_47 : decode prog_8_method_2_code 47 = .ok (.ireturn, 1) := by decide +kernel
def fm_Scene_settle (o : Nat) (w : fa_W) : Option (Bool × fa_W) :=
  fa_bd (fm_Typing_infer (fa_rf o 1) (fa_rf o 0) w) fun v2 w3 =>
  if v2 = true then
  ((fm_Flow_solve (fa_rf o 2) (fa_rf o 0) w3).bind fun w6 =>
  (fm_Groups_sort (fa_rf o 3) (fa_rf o 0) (fa_rf o 1) (fa_rf o 2) w6).bind fun w8 =>
  some (true, w8))
  else
  some (false, w3)
set_option maxHeartbeats 4000000 in
set_option maxRecDepth 100000 in
theorem c_Scene_settle {l : Launch} {D : va_G} {b : Nat} {aC : Nat → ClassId} {H0 : Heap} {N T : Nat} (hN : fa_NX ≤ N) (hT : fa_TX ≤ T) (o : Nat) (ho : (fa_sh o).1 = 7)  (w : fa_W) (r : Bool × fa_W) (hM : fm_Scene_settle o w = some r) : fa_MC l D b aC H0 N T y_Scene_settle prog_8_method_2_code 1 ((Option.some Jvm.ClassFile.FieldType.boolean)) (5) [.ref (b + o)] w (some (.int (fa_I (fa_bi r.1)))) r.2 := by
  refine fa_enter (lv := [(0, .ref (b + o))]) (by decide +kernel) (Nat.le_of_ble_eq_true rfl) rfl (fun hh hle hnm X => ?_)
  unfold fm_Scene_settle at hM
  refine g_aload_n X 0 rfl d_Scene_settle_0 ?_
  refine g_get X ck_7 ho (fa_xn ho (by decide) hN) 1 (by decide) wd_388 rfl (fa_fvR rfl (fa_xt ho (by decide) hT 1)) d_Scene_settle_1 ?_
  refine g_aload_n X 0 rfl d_Scene_settle_4 ?_
  refine g_get X ck_7 ho (fa_xn ho (by decide) hN) 0 (by decide) wd_384 rfl (fa_fvR rfl (fa_xt ho (by decide) hT 0)) d_Scene_settle_5 ?_
  obtain ⟨v2, w3, e1, hM⟩ := fa_obd hM
  refine g_callV_i X ck_8 (fa_r7_1 _ ho) (fa_xn (fa_r7_1 _ ho) (by decide) hN) rfl mi_Typing_infer (c_Typing_infer hN hT (fa_rf o 1) (fa_rf o 0) (fa_r7_1 _ ho) (fa_r7_0 _ ho) w _ e1) wd_439 rfl (Nat.le_trans (Nat.le_of_ble_eq_true rfl) hle) (st := []) (Nat.le_of_ble_eq_true rfl) rfl d_Scene_settle_8 ?_
  refine g_ifb_ne X 16 d_Scene_settle_11 (by decide) (fun hc4 => ?_) (fun hc4 => ?_)
  · have hM := fa_ifb_t hM hc4
    refine g_aload_n X 0 rfl d_Scene_settle_16 ?_
    refine g_get X ck_7 ho (fa_xn ho (by decide) hN) 2 (by decide) wd_391 rfl (fa_fvR rfl (fa_xt ho (by decide) hT 2)) d_Scene_settle_17 ?_
    refine g_aload_n X 0 rfl d_Scene_settle_20 ?_
    refine g_get X ck_7 ho (fa_xn ho (by decide) hN) 0 (by decide) wd_384 rfl (fa_fvR rfl (fa_xt ho (by decide) hT 0)) d_Scene_settle_21 ?_
    obtain ⟨w6, e5, hM⟩ := fa_ob hM
    refine g_callV_v X ck_1 (fa_r7_2 _ ho) (fa_xn (fa_r7_2 _ ho) (by decide) hN) rfl mi_Flow_solve (c_Flow_solve hN hT (fa_rf o 2) (fa_rf o 0) (fa_r7_2 _ ho) (fa_r7_0 _ ho) w3 _ e5) wd_515 rfl (Nat.le_trans (Nat.le_of_ble_eq_true rfl) hle) (st := []) (Nat.le_of_ble_eq_true rfl) rfl d_Scene_settle_24 ?_
    refine g_aload_n X 0 rfl d_Scene_settle_27 ?_
    refine g_get X ck_7 ho (fa_xn ho (by decide) hN) 3 (by decide) wd_395 rfl (fa_fvR rfl (fa_xt ho (by decide) hT 3)) d_Scene_settle_28 ?_
    refine g_aload_n X 0 rfl d_Scene_settle_31 ?_
    refine g_get X ck_7 ho (fa_xn ho (by decide) hN) 0 (by decide) wd_384 rfl (fa_fvR rfl (fa_xt ho (by decide) hT 0)) d_Scene_settle_32 ?_
    refine g_aload_n X 0 rfl d_Scene_settle_35 ?_
    refine g_get X ck_7 ho (fa_xn ho (by decide) hN) 1 (by decide) wd_388 rfl (fa_fvR rfl (fa_xt ho (by decide) hT 1)) d_Scene_settle_36 ?_
    refine g_aload_n X 0 rfl d_Scene_settle_39 ?_
    refine g_get X ck_7 ho (fa_xn ho (by decide) hN) 2 (by decide) wd_391 rfl (fa_fvR rfl (fa_xt ho (by decide) hT 2)) d_Scene_settle_40 ?_
    obtain ⟨w8, e7, hM⟩ := fa_ob hM
    refine g_callV_v X ck_2 (fa_r7_3 _ ho) (fa_xn (fa_r7_3 _ ho) (by decide) hN) rfl mi_Groups_sort (c_Groups_sort hN hT (fa_rf o 3) (fa_rf o 0) (fa_rf o 1) (fa_rf o 2) (fa_r7_3 _ ho) (fa_r7_0 _ ho) (fa_r7_1 _ ho) (fa_r7_2 _ ho) w6 _ e7) wd_588 rfl (Nat.le_trans (Nat.le_of_ble_eq_true rfl) hle) (st := []) (Nat.le_of_ble_eq_true rfl) rfl d_Scene_settle_43 ?_
    refine g_iconst X d_Scene_settle_46 ?_
    cases hM
    exact g_zret X rfl d_Scene_settle_47
  · have hM := fa_ifb_f hM hc4
    refine g_iconst X d_Scene_settle_14 ?_
    cases hM
    exact g_zret X rfl d_Scene_settle_15
