theorem d_Program_clear_0 : decode prog_5_method_2_code 0 = .ok (.aload_n 0, 1) := by decide +kernel
theorem d_Program_clear_1 : decode prog_5_method_2_code 1 = .ok (.getfield 14, 3) := by decide +kernel
theorem d_Program_clear_4 : decode prog_5_method_2_code 4 = .ok (.invokevirtual 69, 3) := by decide +kernel
theorem d_Program_clear_7 : decode prog_5_method_2_code 7 = .ok (.aload_n 0, 1) := by decide +kernel
theorem d_Program_clear_8 : decode prog_5_method_2_code 8 = .ok (.getfield 20, 3) := by decide +kernel
theorem d_Program_clear_11 : decode prog_5_method_2_code 11 = .ok (.invokevirtual 69, 3) := by decide +kernel
theorem d_Program_clear_14 : decode prog_5_method_2_code 14 = .ok (.aload_n 0, 1) := by decide +kernel
theorem d_Program_clear_15 : decode prog_5_method_2_code 15 = .ok (.getfield 23, 3) := by decide +kernel
theorem d_Program_clear_18 : decode prog_5_method_2_code 18 = .ok (.invokevirtual 69, 3) := by decide +kernel
theorem d_Program_clear_21 : decode prog_5_method_2_code 21 = .ok (.aload_n 0, 1) := by decide +kernel
theorem d_Program_clear_22 : decode prog_5_method_2_code 22 = .ok (.getfield 26, 3) := by decide +kernel
theorem d_Program_clear_25 : decode prog_5_method_2_code 25 = .ok (.invokevirtual 69, 3) := by decide +kernel
theorem d_Program_clear_28 : decode prog_5_method_2_code 28 = .ok (.aload_n 0, 1) := by decide +kernel
theorem d_Program_clear_29 : decode prog_5_method_2_code 29 = .ok (.getfield 29, 3) := by decide +kernel
theorem d_Program_clear_32 : decode prog_5_method_2_code 32 = .ok (.invokevirtual 69, 3) := by decide +kernel
theorem d_Program_clear_35 : decode prog_5_method_2_code 35 = .ok (.aload_n 0, 1) := by decide +kernel
theorem d_Program_clear_36 : decode prog_5_method_2_code 36 = .ok (.getfield 32, 3) := by decide +kernel
theorem d_Program_clear_39 : decode prog_5_method_2_code 39 = .ok (.bipush 100, 2) := by decide +kernel
theorem d_Program_clear_41 : decode prog_5_method_2_code 41 = .ok (.iconst (-1), 1) := by decide +kernel
theorem d_Program_clear_42 : decode prog_5_method_2_code 42 = .ok (.invokevirtual 72, 3) := by decide +kernel
theorem d_Program_clear_45 : decode prog_5_method_2_code 45 = .ok (.aload_n 0, 1) := by decide +kernel
theorem d_Program_clear_46 : decode prog_5_method_2_code 46 = .ok (.getfield 35, 3) := by decide +kernel
theorem d_Program_clear_49 : decode prog_5_method_2_code 49 = .ok (.bipush 74, 2) := by decide +kernel
theorem d_Program_clear_51 : decode prog_5_method_2_code 51 = .ok (.iconst 0, 1) := by decide +kernel
theorem d_Program_clear_52 : decode prog_5_method_2_code 52 = .ok (.invokevirtual 72, 3) := by decide +kernel
theorem d_Program_clear_55 : decode prog_5_method_2_code 55 = .ok (.aload_n 0, 1) := by decide +kernel
theorem d_Program_clear_56 : decode prog_5_method_2_code 56 = .ok (.getfield 38, 3) := by decide +kernel
theorem d_Program_clear_59 : decode prog_5_method_2_code 59 = .ok (.bipush 74, 2) := by decide +kernel
theorem d_Program_clear_61 : decode prog_5_method_2_code 61 = .ok (.iconst (-1), 1) := by decide +kernel
theorem d_Program_clear_62 : decode prog_5_method_2_code 62 = .ok (.invokevirtual 72, 3) := by decide +kernel
theorem d_Program_clear_65 : decode prog_5_method_2_code 65 = .ok (.aload_n 0, 1) := by decide +kernel
theorem d_Program_clear_66 : decode prog_5_method_2_code 66 = .ok (.getfield 41, 3) := by decide +kernel
theorem d_Program_clear_69 : decode prog_5_method_2_code 69 = .ok (.invokevirtual 69, 3) := by decide +kernel
theorem d_Program_clear_72 : decode prog_5_method_2_code 72 = .ok (.aload_n 0, 1) := by decide +kernel
theorem d_Program_clear_73 : decode prog_5_method_2_code 73 = .ok (.getfield 44, 3) := by decide +kernel
theorem d_Program_clear_76 : decode prog_5_method_2_code 76 = .ok (.bipush 24, 2) := by decide +kernel
theorem d_Program_clear_78 : decode prog_5_method_2_code 78 = .ok (.iconst (-1), 1) := by decide +kernel
theorem d_Program_clear_79 : decode prog_5_method_2_code 79 = .ok (.invokevirtual 72, 3) := by decide +kernel
theorem d_Program_clear_82 : decode prog_5_method_2_code 82 = .ok (.aload_n 0, 1) := by decide +kernel
theorem d_Program_clear_83 : decode prog_5_method_2_code 83 = .ok (.iconst 0, 1) := by decide +kernel
theorem d_Program_clear_84 : decode prog_5_method_2_code 84 = .ok (.putfield 56, 3) := by decide +kernel
theorem d_Program_clear_87 : decode prog_5_method_2_code 87 = .ok (.aload_n 0, 1) := by decide +kernel
theorem d_Program_clear_88 : decode prog_5_method_2_code 88 = .ok (.iconst 0, 1) := by decide +kernel
theorem d_Program_clear_89 : decode prog_5_method_2_code 89 = .ok (.putfield 60, 3) := by decide +kernel
theorem d_Program_clear_92 : decode prog_5_method_2_code 92 = .ok (.aload_n 0, 1) := by decide +kernel
theorem d_Program_clear_93 : decode prog_5_method_2_code 93 = .ok (.iconst 0, 1) := by decide +kernel
theorem d_Program_clear_94 : decode prog_5_method_2_code 94 = .ok (.putfield 63, 3) := by decide +kernel
theorem d_Program_clear_97 : decode prog_5_method_2_code 97 = .ok (.aload_n 0, 1) := by decide +kernel
theorem d_Program_clear_98 : decode prog_5_method_2_code 98 = .ok (.iconst (-1), 1) := by decide +kernel
theorem d_Program_clear_99 : decode prog_5_method_2_code 99 = .ok (.putfield 66, 3) := by decide +kernel
theorem d_Program_clear_102 : decode prog_5_method_2_code 102 = .ok (.return_, 1) := by decide +kernel
def fm_Program_clear (o : Nat) (w : fa_W) : fa_W :=
  fa_let (fm_Row_clear (fa_rf o 0) w) fun w2 =>
  fa_let (fm_Row_clear (fa_rf o 1) w2) fun w4 =>
  fa_let (fm_Row_clear (fa_rf o 2) w4) fun w6 =>
  fa_let (fm_Row_clear (fa_rf o 3) w6) fun w8 =>
  fa_let (fm_Row_clear (fa_rf o 4) w8) fun w10 =>
  fa_let (fr_refill (fa_rf o 5) 100 (-1) w10) fun w12 =>
  fa_let (fr_refill (fa_rf o 6) 74 0 w12) fun w14 =>
  fa_let (fr_refill (fa_rf o 7) 74 (-1) w14) fun w16 =>
  fa_let (fm_Row_clear (fa_rf o 8) w16) fun w18 =>
  fa_let (fr_refill (fa_rf o 9) 24 (-1) w18) fun w20 =>
  fa_let (fa_st w20 o 13 0) fun w21 =>
  fa_let (fa_st w21 o 14 0) fun w22 =>
  fa_let (fa_st w22 o 15 0) fun w23 =>
  fa_let (fa_st w23 o 16 (-1)) fun w24 =>
  w24
set_option maxHeartbeats 4000000 in
set_option maxRecDepth 100000 in
theorem c_Program_clear {l : Launch} {D : va_G} {b : Nat} {aC : Nat → ClassId} {H0 : Heap} {N T : Nat} (hN : fa_NX ≤ N) (hT : fa_TX ≤ T) (o : Nat) (ho : (fa_sh o).1 = 4)  (w : fa_W) (r : fa_W) (hM : fm_Program_clear o w = r) : fa_MC l D b aC H0 N T y_Program_clear prog_5_method_2_code 1 ((Option.none : Option Jvm.ClassFile.FieldType)) (2) [.ref (b + o)] w (none) r := by
  refine fa_enter (lv := [(0, .ref (b + o))]) (by decide +kernel) (Nat.le_of_ble_eq_true rfl) rfl (fun hh hle hnm X => ?_)
  unfold fm_Program_clear at hM
  refine g_aload_n X 0 rfl d_Program_clear_0 ?_
  refine g_get X ck_4 ho (fa_xn ho (by decide) hN) 0 (by decide) wd_65 rfl (fa_fvR rfl (fa_xt ho (by decide) hT 0)) d_Program_clear_1 ?_
  obtain ⟨w2, e1⟩ : ∃ q, fm_Row_clear (fa_rf o 0) w = q := ⟨_, rfl⟩
  have hM := fa_let_to hM e1.symm
  refine g_callV_v X ck_6 (fa_r4_0 _ ho) (fa_xn (fa_r4_0 _ ho) (by decide) hN) rfl mi_Row_clear (c_Row_clear (fa_rf o 0) (fa_ro (fa_r4_0 _ ho) hN hT) w _ e1) wd_416 rfl (Nat.le_trans (Nat.le_of_ble_eq_true rfl) hle) (st := []) (Nat.le_of_ble_eq_true rfl) rfl d_Program_clear_4 ?_
  refine g_aload_n X 0 rfl d_Program_clear_7 ?_
  refine g_get X ck_4 ho (fa_xn ho (by decide) hN) 1 (by decide) wd_66 rfl (fa_fvR rfl (fa_xt ho (by decide) hT 1)) d_Program_clear_8 ?_
  obtain ⟨w4, e3⟩ : ∃ q, fm_Row_clear (fa_rf o 1) w2 = q := ⟨_, rfl⟩
  have hM := fa_let_to hM e3.symm
  refine g_callV_v X ck_6 (fa_r4_1 _ ho) (fa_xn (fa_r4_1 _ ho) (by decide) hN) rfl mi_Row_clear (c_Row_clear (fa_rf o 1) (fa_ro (fa_r4_1 _ ho) hN hT) w2 _ e3) wd_416 rfl (Nat.le_trans (Nat.le_of_ble_eq_true rfl) hle) (st := []) (Nat.le_of_ble_eq_true rfl) rfl d_Program_clear_11 ?_
  refine g_aload_n X 0 rfl d_Program_clear_14 ?_
  refine g_get X ck_4 ho (fa_xn ho (by decide) hN) 2 (by decide) wd_67 rfl (fa_fvR rfl (fa_xt ho (by decide) hT 2)) d_Program_clear_15 ?_
  obtain ⟨w6, e5⟩ : ∃ q, fm_Row_clear (fa_rf o 2) w4 = q := ⟨_, rfl⟩
  have hM := fa_let_to hM e5.symm
  refine g_callV_v X ck_6 (fa_r4_2 _ ho) (fa_xn (fa_r4_2 _ ho) (by decide) hN) rfl mi_Row_clear (c_Row_clear (fa_rf o 2) (fa_ro (fa_r4_2 _ ho) hN hT) w4 _ e5) wd_416 rfl (Nat.le_trans (Nat.le_of_ble_eq_true rfl) hle) (st := []) (Nat.le_of_ble_eq_true rfl) rfl d_Program_clear_18 ?_
  refine g_aload_n X 0 rfl d_Program_clear_21 ?_
  refine g_get X ck_4 ho (fa_xn ho (by decide) hN) 3 (by decide) wd_68 rfl (fa_fvR rfl (fa_xt ho (by decide) hT 3)) d_Program_clear_22 ?_
  obtain ⟨w8, e7⟩ : ∃ q, fm_Row_clear (fa_rf o 3) w6 = q := ⟨_, rfl⟩
  have hM := fa_let_to hM e7.symm
  refine g_callV_v X ck_6 (fa_r4_3 _ ho) (fa_xn (fa_r4_3 _ ho) (by decide) hN) rfl mi_Row_clear (c_Row_clear (fa_rf o 3) (fa_ro (fa_r4_3 _ ho) hN hT) w6 _ e7) wd_416 rfl (Nat.le_trans (Nat.le_of_ble_eq_true rfl) hle) (st := []) (Nat.le_of_ble_eq_true rfl) rfl d_Program_clear_25 ?_
  refine g_aload_n X 0 rfl d_Program_clear_28 ?_
  refine g_get X ck_4 ho (fa_xn ho (by decide) hN) 4 (by decide) wd_69 rfl (fa_fvR rfl (fa_xt ho (by decide) hT 4)) d_Program_clear_29 ?_
  obtain ⟨w10, e9⟩ : ∃ q, fm_Row_clear (fa_rf o 4) w8 = q := ⟨_, rfl⟩
  have hM := fa_let_to hM e9.symm
  refine g_callV_v X ck_6 (fa_r4_4 _ ho) (fa_xn (fa_r4_4 _ ho) (by decide) hN) rfl mi_Row_clear (c_Row_clear (fa_rf o 4) (fa_ro (fa_r4_4 _ ho) hN hT) w8 _ e9) wd_416 rfl (Nat.le_trans (Nat.le_of_ble_eq_true rfl) hle) (st := []) (Nat.le_of_ble_eq_true rfl) rfl d_Program_clear_32 ?_
  refine g_aload_n X 0 rfl d_Program_clear_35 ?_
  refine g_get X ck_4 ho (fa_xn ho (by decide) hN) 5 (by decide) wd_70 rfl (fa_fvR rfl (fa_xt ho (by decide) hT 5)) d_Program_clear_36 ?_
  refine g_bipush X (by decide) d_Program_clear_39 ?_
  refine g_iconst X d_Program_clear_41 ?_
  obtain ⟨w12, e11⟩ : ∃ q, fr_refill (fa_rf o 5) 100 (-1) w10 = q := ⟨_, rfl⟩
  have hM := fa_let_to hM e11.symm
  refine g_callV_v X ck_6 (fa_r4_5 _ ho) (fa_xn (fa_r4_5 _ ho) (by decide) hN) rfl mi_Row_refill (ct_Row_refill (fa_rf o 5) 100 (-1) (fa_ro (fa_r4_5 _ ho) hN hT) w10 _ e11) wd_417 rfl (Nat.le_trans (Nat.le_of_ble_eq_true rfl) hle) (st := []) (Nat.le_of_ble_eq_true rfl) rfl d_Program_clear_42 ?_
  refine g_aload_n X 0 rfl d_Program_clear_45 ?_
  refine g_get X ck_4 ho (fa_xn ho (by decide) hN) 6 (by decide) wd_74 rfl (fa_fvR rfl (fa_xt ho (by decide) hT 6)) d_Program_clear_46 ?_
  refine g_bipush X (by decide) d_Program_clear_49 ?_
  refine g_iconst X d_Program_clear_51 ?_
  obtain ⟨w14, e13⟩ : ∃ q, fr_refill (fa_rf o 6) 74 0 w12 = q := ⟨_, rfl⟩
  have hM := fa_let_to hM e13.symm
  refine g_callV_v X ck_6 (fa_r4_6 _ ho) (fa_xn (fa_r4_6 _ ho) (by decide) hN) rfl mi_Row_refill (ct_Row_refill (fa_rf o 6) 74 0 (fa_ro (fa_r4_6 _ ho) hN hT) w12 _ e13) wd_417 rfl (Nat.le_trans (Nat.le_of_ble_eq_true rfl) hle) (st := []) (Nat.le_of_ble_eq_true rfl) rfl d_Program_clear_52 ?_
  refine g_aload_n X 0 rfl d_Program_clear_55 ?_
  refine g_get X ck_4 ho (fa_xn ho (by decide) hN) 7 (by decide) wd_78 rfl (fa_fvR rfl (fa_xt ho (by decide) hT 7)) d_Program_clear_56 ?_
  refine g_bipush X (by decide) d_Program_clear_59 ?_
  refine g_iconst X d_Program_clear_61 ?_
  obtain ⟨w16, e15⟩ : ∃ q, fr_refill (fa_rf o 7) 74 (-1) w14 = q := ⟨_, rfl⟩
  have hM := fa_let_to hM e15.symm
  refine g_callV_v X ck_6 (fa_r4_7 _ ho) (fa_xn (fa_r4_7 _ ho) (by decide) hN) rfl mi_Row_refill (ct_Row_refill (fa_rf o 7) 74 (-1) (fa_ro (fa_r4_7 _ ho) hN hT) w14 _ e15) wd_417 rfl (Nat.le_trans (Nat.le_of_ble_eq_true rfl) hle) (st := []) (Nat.le_of_ble_eq_true rfl) rfl d_Program_clear_62 ?_
  refine g_aload_n X 0 rfl d_Program_clear_65 ?_
  refine g_get X ck_4 ho (fa_xn ho (by decide) hN) 8 (by decide) wd_79 rfl (fa_fvR rfl (fa_xt ho (by decide) hT 8)) d_Program_clear_66 ?_
  obtain ⟨w18, e17⟩ : ∃ q, fm_Row_clear (fa_rf o 8) w16 = q := ⟨_, rfl⟩
  have hM := fa_let_to hM e17.symm
  refine g_callV_v X ck_6 (fa_r4_8 _ ho) (fa_xn (fa_r4_8 _ ho) (by decide) hN) rfl mi_Row_clear (c_Row_clear (fa_rf o 8) (fa_ro (fa_r4_8 _ ho) hN hT) w16 _ e17) wd_416 rfl (Nat.le_trans (Nat.le_of_ble_eq_true rfl) hle) (st := []) (Nat.le_of_ble_eq_true rfl) rfl d_Program_clear_69 ?_
  refine g_aload_n X 0 rfl d_Program_clear_72 ?_
  refine g_get X ck_4 ho (fa_xn ho (by decide) hN) 9 (by decide) wd_82 rfl (fa_fvR rfl (fa_xt ho (by decide) hT 9)) d_Program_clear_73 ?_
  refine g_bipush X (by decide) d_Program_clear_76 ?_
  refine g_iconst X d_Program_clear_78 ?_
  obtain ⟨w20, e19⟩ : ∃ q, fr_refill (fa_rf o 9) 24 (-1) w18 = q := ⟨_, rfl⟩
  have hM := fa_let_to hM e19.symm
  refine g_callV_v X ck_6 (fa_r4_9 _ ho) (fa_xn (fa_r4_9 _ ho) (by decide) hN) rfl mi_Row_refill (ct_Row_refill (fa_rf o 9) 24 (-1) (fa_ro (fa_r4_9 _ ho) hN hT) w18 _ e19) wd_417 rfl (Nat.le_trans (Nat.le_of_ble_eq_true rfl) hle) (st := []) (Nat.le_of_ble_eq_true rfl) rfl d_Program_clear_79 ?_
  refine g_aload_n X 0 rfl d_Program_clear_82 ?_
  refine g_iconst X d_Program_clear_83 ?_
  refine g_put X ck_4 ho (fa_xn ho (by decide) hN) 13 (z := 0) (by decide) wd_91 rfl (fa_fvI' rfl) rfl rfl rfl d_Program_clear_84 (fun w21 ew21 => ?_)
  have hM := fa_let_to hM ew21
  refine g_aload_n X 0 rfl d_Program_clear_87 ?_
  refine g_iconst X d_Program_clear_88 ?_
  refine g_put X ck_4 ho (fa_xn ho (by decide) hN) 14 (z := 0) (by decide) wd_96 rfl (fa_fvI' rfl) rfl rfl rfl d_Program_clear_89 (fun w22 ew22 => ?_)
  have hM := fa_let_to hM ew22
  refine g_aload_n X 0 rfl d_Program_clear_92 ?_
  refine g_iconst X d_Program_clear_93 ?_
  refine g_put X ck_4 ho (fa_xn ho (by decide) hN) 15 (z := 0) (by decide) wd_102 rfl (fa_fvI' rfl) rfl rfl rfl d_Program_clear_94 (fun w23 ew23 => ?_)
  have hM := fa_let_to hM ew23
  refine g_aload_n X 0 rfl d_Program_clear_97 ?_
  refine g_iconst X d_Program_clear_98 ?_
  refine g_put X ck_4 ho (fa_xn ho (by decide) hN) 16 (z := (-1)) (by decide) wd_107 rfl (fa_fvI' rfl) rfl rfl rfl d_Program_clear_99 (fun w24 ew24 => ?_)
  have hM := fa_let_to hM ew24
  subst hM
  exact g_vret X d_Program_clear_102
theorem d_Program_add_0 : decode prog_5_method_10_code 0 = .ok (.aload_n 0, 1) := by decide +kernel
theorem d_Program_add_1 : decode prog_5_method_10_code 1 = .ok (.getfield 14, 3) := by decide +kernel
theorem d_Program_add_4 : decode prog_5_method_10_code 4 = .ok (.invokevirtual 81, 3) := by decide +kernel
theorem d_Program_add_7 : decode prog_5_method_10_code 7 = .ok (.istore 7, 2) := by decide +kernel
theorem d_Program_add_9 : decode prog_5_method_10_code 9 = .ok (.aload_n 0, 1) := by decide +kernel
theorem d_Program_add_10 : decode prog_5_method_10_code 10 = .ok (.getfield 14, 3) := by decide +kernel
theorem d_Program_add_13 : decode prog_5_method_10_code 13 = .ok (.iload_n 1, 1) := by decide +kernel
theorem d_Program_add_14 : decode prog_5_method_10_code 14 = .ok (.invokevirtual 92, 3) := by decide +kernel
theorem d_Program_add_17 : decode prog_5_method_10_code 17 = .ok (.aload_n 0, 1) := by decide +kernel
theorem d_Program_add_18 : decode prog_5_method_10_code 18 = .ok (.getfield 20, 3) := by decide +kernel
theorem d_Program_add_21 : decode prog_5_method_10_code 21 = .ok (.iload_n 2, 1) := by decide +kernel
theorem d_Program_add_22 : decode prog_5_method_10_code 22 = .ok (.invokevirtual 92, 3) := by decide +kernel
theorem d_Program_add_25 : decode prog_5_method_10_code 25 = .ok (.aload_n 0, 1) := by decide +kernel
theorem d_Program_add_26 : decode prog_5_method_10_code 26 = .ok (.getfield 23, 3) := by decide +kernel
theorem d_Program_add_29 : decode prog_5_method_10_code 29 = .ok (.iload_n 3, 1) := by decide +kernel
theorem d_Program_add_30 : decode prog_5_method_10_code 30 = .ok (.invokevirtual 92, 3) := by decide +kernel
theorem d_Program_add_33 : decode prog_5_method_10_code 33 = .ok (.aload_n 0, 1) := by decide +kernel
theorem d_Program_add_34 : decode prog_5_method_10_code 34 = .ok (.getfield 26, 3) := by decide +kernel
theorem d_Program_add_37 : decode prog_5_method_10_code 37 = .ok (.iload 4, 2) := by decide +kernel
theorem d_Program_add_39 : decode prog_5_method_10_code 39 = .ok (.iconst (-1), 1) := by decide +kernel
theorem d_Program_add_40 : decode prog_5_method_10_code 40 = .ok (.if_icmp .ne 8, 3) := by decide +kernel
theorem d_Program_add_43 : decode prog_5_method_10_code 43 = .ok (.iload 7, 2) := by decide +kernel
theorem d_Program_add_45 : decode prog_5_method_10_code 45 = .ok (.goto 12, 3) := by decide +kernel
theorem d_Program_add_48 : decode prog_5_method_10_code 48 = .ok (.aload_n 0, 1) := by decide +kernel
theorem d_Program_add_49 : decode prog_5_method_10_code 49 = .ok (.getfield 26, 3) := by decide +kernel
theorem d_Program_add_52 : decode prog_5_method_10_code 52 = .ok (.iload 4, 2) := by decide +kernel
theorem d_Program_add_54 : decode prog_5_method_10_code 54 = .ok (.invokevirtual 85, 3) := by decide +kernel
theorem d_Program_add_57 : decode prog_5_method_10_code 57 = .ok (.invokevirtual 92, 3) := by decide +kernel
theorem d_Program_add_60 : decode prog_5_method_10_code 60 = .ok (.aload_n 0, 1) := by decide +kernel
theorem d_Program_add_61 : decode prog_5_method_10_code 61 = .ok (.getfield 29, 3) := by decide +kernel
theorem d_Program_add_64 : decode prog_5_method_10_code 64 = .ok (.iload 4, 2) := by decide +kernel
theorem d_Program_add_66 : decode prog_5_method_10_code 66 = .ok (.invokevirtual 92, 3) := by decide +kernel
theorem d_Program_add_69 : decode prog_5_method_10_code 69 = .ok (.aload_n 0, 1) := by decide +kernel
theorem d_Program_add_70 : decode prog_5_method_10_code 70 = .ok (.getfield 29, 3) := by decide +kernel
theorem d_Program_add_73 : decode prog_5_method_10_code 73 = .ok (.iload 5, 2) := by decide +kernel
theorem d_Program_add_75 : decode prog_5_method_10_code 75 = .ok (.invokevirtual 92, 3) := by decide +kernel
theorem d_Program_add_78 : decode prog_5_method_10_code 78 = .ok (.aload_n 0, 1) := by decide +kernel
theorem d_Program_add_79 : decode prog_5_method_10_code 79 = .ok (.getfield 29, 3) := by decide +kernel
theorem d_Program_add_82 : decode prog_5_method_10_code 82 = .ok (.iload 6, 2) := by decide +kernel
theorem d_Program_add_84 : decode prog_5_method_10_code 84 = .ok (.invokevirtual 92, 3) := by decide +kernel
theorem d_Program_add_87 : decode prog_5_method_10_code 87 = .ok (.iload_n 1, 1) := by decide +kernel
theorem d_Program_add_88 : decode prog_5_method_10_code 88 = .ok (.bipush 9, 2) := by decide +kernel
theorem d_Program_add_90 : decode prog_5_method_10_code 90 = .ok (.if_icmp .ne 16, 3) := by decide +kernel
theorem d_Program_add_93 : decode prog_5_method_10_code 93 = .ok (.aload_n 0, 1) := by decide +kernel
theorem d_Program_add_94 : decode prog_5_method_10_code 94 = .ok (.getfield 32, 3) := by decide +kernel
theorem d_Program_add_97 : decode prog_5_method_10_code 97 = .ok (.iload_n 2, 1) := by decide +kernel
theorem d_Program_add_98 : decode prog_5_method_10_code 98 = .ok (.iload 7, 2) := by decide +kernel
theorem d_Program_add_100 : decode prog_5_method_10_code 100 = .ok (.invokevirtual 94, 3) := by decide +kernel
theorem d_Program_add_103 : decode prog_5_method_10_code 103 = .ok (.goto 47, 3) := by decide +kernel
theorem d_Program_add_106 : decode prog_5_method_10_code 106 = .ok (.iload_n 1, 1) := by decide +kernel
theorem d_Program_add_107 : decode prog_5_method_10_code 107 = .ok (.bipush 7, 2) := by decide +kernel
theorem d_Program_add_109 : decode prog_5_method_10_code 109 = .ok (.if_icmp .ne 16, 3) := by decide +kernel
theorem d_Program_add_112 : decode prog_5_method_10_code 112 = .ok (.aload_n 0, 1) := by decide +kernel
theorem d_Program_add_113 : decode prog_5_method_10_code 113 = .ok (.getfield 38, 3) := by decide +kernel
theorem d_Program_add_116 : decode prog_5_method_10_code 116 = .ok (.iload_n 2, 1) := by decide +kernel
theorem d_Program_add_117 : decode prog_5_method_10_code 117 = .ok (.iload 7, 2) := by decide +kernel
theorem d_Program_add_119 : decode prog_5_method_10_code 119 = .ok (.invokevirtual 94, 3) := by decide +kernel
theorem d_Program_add_122 : decode prog_5_method_10_code 122 = .ok (.goto 28, 3) := by decide +kernel
theorem d_Program_add_125 : decode prog_5_method_10_code 125 = .ok (.iload_n 1, 1) := by decide +kernel
theorem d_Program_add_126 : decode prog_5_method_10_code 126 = .ok (.iconst 5, 1) := by decide +kernel
theorem d_Program_add_127 : decode prog_5_method_10_code 127 = .ok (.if_icmp .ne 23, 3) := by decide +kernel
theorem d_Program_add_130 : decode prog_5_method_10_code 130 = .ok (.aload_n 0, 1) := by decide +kernel
theorem d_Program_add_131 : decode prog_5_method_10_code 131 = .ok (.getfield 38, 3) := by decide +kernel
theorem d_Program_add_134 : decode prog_5_method_10_code 134 = .ok (.iload_n 2, 1) := by decide +kernel
theorem d_Program_add_135 : decode prog_5_method_10_code 135 = .ok (.iload 7, 2) := by decide +kernel
theorem d_Program_add_137 : decode prog_5_method_10_code 137 = .ok (.invokevirtual 94, 3) := by decide +kernel
theorem d_Program_add_140 : decode prog_5_method_10_code 140 = .ok (.aload_n 0, 1) := by decide +kernel
theorem d_Program_add_141 : decode prog_5_method_10_code 141 = .ok (.getfield 44, 3) := by decide +kernel
theorem d_Program_add_144 : decode prog_5_method_10_code 144 = .ok (.iload_n 2, 1) := by decide +kernel
theorem d_Program_add_145 : decode prog_5_method_10_code 145 = .ok (.iload 4, 2) := by decide +kernel
theorem d_Program_add_147 : decode prog_5_method_10_code 147 = .ok (.invokevirtual 94, 3) := by decide +kernel
theorem d_Program_add_150 : decode prog_5_method_10_code 150 = .ok (.iload 7, 2) := by decide +kernel
theorem d_Program_add_152 : decode prog_5_method_10_code 152 = .ok (.ireturn, 1) := by decide +kernel
def fm_Program_add_j57 (o : Nat) (a1 : Int) (a2 : Int) (a3 : Int) (a4 : Int) (a5 : Int) (a6 : Int) (x7 : Int) (s0 : Int) (w : fa_W) : Int × fa_W :=
  fa_let (fr_add (fa_rf o 3) s0 w) fun w12 =>
  fa_let (fr_add (fa_rf o 4) a4 w12) fun w14 =>
  fa_let (fr_add (fa_rf o 4) a5 w14) fun w16 =>
  fa_let (fr_add (fa_rf o 4) a6 w16) fun w18 =>
  if fa_wr a1 = 9 then
  (fa_let (fr_set (fa_rf o 5) a2 x7 w18) fun w29 =>
  (x7, w29))
  else
  (if fa_wr a1 = 7 then
  (fa_let (fr_set (fa_rf o 7) a2 x7 w18) fun w27 =>
  (x7, w27))
  else
  (if fa_wr a1 = 5 then
  (fa_let (fr_set (fa_rf o 7) a2 x7 w18) fun w23 =>
  fa_let (fr_set (fa_rf o 9) a2 a4 w23) fun w25 =>
  (x7, w25))
  else
  (x7, w18)))
set_option maxHeartbeats 4000000 in
set_option maxRecDepth 100000 in
theorem c_Program_add_j57 {p : Program} {l : Launch} {e : Env} {s : State} {m : MethodId} {args : Array Value} {below : List Frame} {meth : Method} {c : Code} {hh : Nat} {D : va_G} {b : Nat} {aC : Nat → ClassId} {H0 : Heap} {N T : Nat} (X : fa_GX p s m args meth c prog_5_method_10_code 8 ((Option.some Jvm.ClassFile.FieldType.int)) y_Program_add.cls D b aC) (hle : 1 ≤ hh) (hN : fa_NX ≤ N) (hT : fa_TX ≤ T) (o : Nat) (a1 : Int) (a2 : Int) (a3 : Int) (a4 : Int) (a5 : Int) (a6 : Int) (ho : (fa_sh o).1 = 4) {r : Int × fa_W}  : ∀ (x7 : Int) (s0 : Int) (w : fa_W) (_ : fm_Program_add_j57 o a1 a2 a3 a4 a5 a6 x7 s0 w = r), fa_GJ p l e (fa_rm hh) s m args below meth c 0 0 (MQ below (fa_Qc D b aC H0 N T (some (.int (fa_I r.1))) r.2) args s 0 0 (fun q => b ≤ q)) D b aC H0 N T 8 w 57 [(0, .ref (b + o)), (1, .int (fa_I a1)), (2, .int (fa_I a2)), (4, .int (fa_I a4)), (5, .int (fa_I a5)), (6, .int (fa_I a6)), (7, .int (fa_I x7))] [.int (fa_I s0), .ref (b + (fa_rf o 3))] := by
  intro x7 s0 w hM
  unfold fm_Program_add_j57 at hM
  obtain ⟨w12, e11⟩ : ∃ q, fr_add (fa_rf o 3) s0 w = q := ⟨_, rfl⟩
  have hM := fa_let_to hM e11.symm
  refine g_callV_v X ck_6 (fa_r4_3 _ ho) (fa_xn (fa_r4_3 _ ho) (by decide) hN) rfl mi_Row_add (ct_Row_add (fa_rf o 3) s0 (fa_ro (fa_r4_3 _ ho) hN hT) w _ e11) wd_426 rfl (Nat.le_trans (Nat.le_of_ble_eq_true rfl) hle) (st := []) (Nat.le_of_ble_eq_true rfl) rfl d_Program_add_57 ?_
  refine g_aload_n X 0 rfl d_Program_add_60 ?_
  refine g_get X ck_4 ho (fa_xn ho (by decide) hN) 4 (by decide) wd_69 rfl (fa_fvR rfl (fa_xt ho (by decide) hT 4)) d_Program_add_61 ?_
  refine g_iload X 3 rfl d_Program_add_64 ?_
  obtain ⟨w14, e13⟩ : ∃ q, fr_add (fa_rf o 4) a4 w12 = q := ⟨_, rfl⟩
  have hM := fa_let_to hM e13.symm
  refine g_callV_v X ck_6 (fa_r4_4 _ ho) (fa_xn (fa_r4_4 _ ho) (by decide) hN) rfl mi_Row_add (ct_Row_add (fa_rf o 4) a4 (fa_ro (fa_r4_4 _ ho) hN hT) w12 _ e13) wd_426 rfl (Nat.le_trans (Nat.le_of_ble_eq_true rfl) hle) (st := []) (Nat.le_of_ble_eq_true rfl) rfl d_Program_add_66 ?_
  refine g_aload_n X 0 rfl d_Program_add_69 ?_
  refine g_get X ck_4 ho (fa_xn ho (by decide) hN) 4 (by decide) wd_69 rfl (fa_fvR rfl (fa_xt ho (by decide) hT 4)) d_Program_add_70 ?_
  refine g_iload X 4 rfl d_Program_add_73 ?_
  obtain ⟨w16, e15⟩ : ∃ q, fr_add (fa_rf o 4) a5 w14 = q := ⟨_, rfl⟩
  have hM := fa_let_to hM e15.symm
  refine g_callV_v X ck_6 (fa_r4_4 _ ho) (fa_xn (fa_r4_4 _ ho) (by decide) hN) rfl mi_Row_add (ct_Row_add (fa_rf o 4) a5 (fa_ro (fa_r4_4 _ ho) hN hT) w14 _ e15) wd_426 rfl (Nat.le_trans (Nat.le_of_ble_eq_true rfl) hle) (st := []) (Nat.le_of_ble_eq_true rfl) rfl d_Program_add_75 ?_
  refine g_aload_n X 0 rfl d_Program_add_78 ?_
  refine g_get X ck_4 ho (fa_xn ho (by decide) hN) 4 (by decide) wd_69 rfl (fa_fvR rfl (fa_xt ho (by decide) hT 4)) d_Program_add_79 ?_
  refine g_iload X 5 rfl d_Program_add_82 ?_
  obtain ⟨w18, e17⟩ : ∃ q, fr_add (fa_rf o 4) a6 w16 = q := ⟨_, rfl⟩
  have hM := fa_let_to hM e17.symm
  refine g_callV_v X ck_6 (fa_r4_4 _ ho) (fa_xn (fa_r4_4 _ ho) (by decide) hN) rfl mi_Row_add (ct_Row_add (fa_rf o 4) a6 (fa_ro (fa_r4_4 _ ho) hN hT) w16 _ e17) wd_426 rfl (Nat.le_trans (Nat.le_of_ble_eq_true rfl) hle) (st := []) (Nat.le_of_ble_eq_true rfl) rfl d_Program_add_84 ?_
  refine g_iload_n X 1 rfl d_Program_add_87 ?_
  refine g_bipush X (by decide) d_Program_add_88 ?_
  refine g_icmp_ne X 106 d_Program_add_90 (by decide) (fun hc19 => ?_) (fun hc19 => ?_)
  · have hM := fa_if_f hM hc19
    refine g_iload_n X 1 rfl d_Program_add_106 ?_
    refine g_bipush X (by decide) d_Program_add_107 ?_
    refine g_icmp_ne X 125 d_Program_add_109 (by decide) (fun hc20 => ?_) (fun hc20 => ?_)
    · have hM := fa_if_f hM hc20
      refine g_iload_n X 1 rfl d_Program_add_125 ?_
      refine g_iconst X d_Program_add_126 ?_
      refine g_icmp_ne X 150 d_Program_add_127 (by decide) (fun hc21 => ?_) (fun hc21 => ?_)
      · have hM := fa_if_f hM hc21
        refine g_iload X 6 rfl d_Program_add_150 ?_
        subst hM
        exact g_iret X d_Program_add_152
      · have hM := fa_if_t hM hc21
        refine g_aload_n X 0 rfl d_Program_add_130 ?_
        refine g_get X ck_4 ho (fa_xn ho (by decide) hN) 7 (by decide) wd_78 rfl (fa_fvR rfl (fa_xt ho (by decide) hT 7)) d_Program_add_131 ?_
        refine g_iload_n X 2 rfl d_Program_add_134 ?_
        refine g_iload X 6 rfl d_Program_add_135 ?_
        obtain ⟨w23, e22⟩ : ∃ q, fr_set (fa_rf o 7) a2 x7 w18 = q := ⟨_, rfl⟩
        have hM := fa_let_to hM e22.symm
        refine g_callV_v X ck_6 (fa_r4_7 _ ho) (fa_xn (fa_r4_7 _ ho) (by decide) hN) rfl mi_Row_set (ct_Row_set (fa_rf o 7) a2 x7 (fa_ro (fa_r4_7 _ ho) hN hT) w18 _ e22) wd_431 rfl (Nat.le_trans (Nat.le_of_ble_eq_true rfl) hle) (st := []) (Nat.le_of_ble_eq_true rfl) rfl d_Program_add_137 ?_
        refine g_aload_n X 0 rfl d_Program_add_140 ?_
        refine g_get X ck_4 ho (fa_xn ho (by decide) hN) 9 (by decide) wd_82 rfl (fa_fvR rfl (fa_xt ho (by decide) hT 9)) d_Program_add_141 ?_
        refine g_iload_n X 2 rfl d_Program_add_144 ?_
        refine g_iload X 3 rfl d_Program_add_145 ?_
        obtain ⟨w25, e24⟩ : ∃ q, fr_set (fa_rf o 9) a2 a4 w23 = q := ⟨_, rfl⟩
        have hM := fa_let_to hM e24.symm
        refine g_callV_v X ck_6 (fa_r4_9 _ ho) (fa_xn (fa_r4_9 _ ho) (by decide) hN) rfl mi_Row_set (ct_Row_set (fa_rf o 9) a2 a4 (fa_ro (fa_r4_9 _ ho) hN hT) w23 _ e24) wd_431 rfl (Nat.le_trans (Nat.le_of_ble_eq_true rfl) hle) (st := []) (Nat.le_of_ble_eq_true rfl) rfl d_Program_add_147 ?_
        refine g_iload X 6 rfl d_Program_add_150 ?_
        subst hM
        exact g_iret X d_Program_add_152
    · have hM := fa_if_t hM hc20
      refine g_aload_n X 0 rfl d_Program_add_112 ?_
      refine g_get X ck_4 ho (fa_xn ho (by decide) hN) 7 (by decide) wd_78 rfl (fa_fvR rfl (fa_xt ho (by decide) hT 7)) d_Program_add_113 ?_
      refine g_iload_n X 2 rfl d_Program_add_116 ?_
      refine g_iload X 6 rfl d_Program_add_117 ?_
      obtain ⟨w27, e26⟩ : ∃ q, fr_set (fa_rf o 7) a2 x7 w18 = q := ⟨_, rfl⟩
      have hM := fa_let_to hM e26.symm
      refine g_callV_v X ck_6 (fa_r4_7 _ ho) (fa_xn (fa_r4_7 _ ho) (by decide) hN) rfl mi_Row_set (ct_Row_set (fa_rf o 7) a2 x7 (fa_ro (fa_r4_7 _ ho) hN hT) w18 _ e26) wd_431 rfl (Nat.le_trans (Nat.le_of_ble_eq_true rfl) hle) (st := []) (Nat.le_of_ble_eq_true rfl) rfl d_Program_add_119 ?_
      refine g_goto X 150 d_Program_add_122 (by decide) ?_
      refine g_iload X 6 rfl d_Program_add_150 ?_
      subst hM
      exact g_iret X d_Program_add_152
  · have hM := fa_if_t hM hc19
    refine g_aload_n X 0 rfl d_Program_add_93 ?_
    refine g_get X ck_4 ho (fa_xn ho (by decide) hN) 5 (by decide) wd_70 rfl (fa_fvR rfl (fa_xt ho (by decide) hT 5)) d_Program_add_94 ?_
    refine g_iload_n X 2 rfl d_Program_add_97 ?_
    refine g_iload X 6 rfl d_Program_add_98 ?_
    obtain ⟨w29, e28⟩ : ∃ q, fr_set (fa_rf o 5) a2 x7 w18 = q := ⟨_, rfl⟩
    have hM := fa_let_to hM e28.symm
    refine g_callV_v X ck_6 (fa_r4_5 _ ho) (fa_xn (fa_r4_5 _ ho) (by decide) hN) rfl mi_Row_set (ct_Row_set (fa_rf o 5) a2 x7 (fa_ro (fa_r4_5 _ ho) hN hT) w18 _ e28) wd_431 rfl (Nat.le_trans (Nat.le_of_ble_eq_true rfl) hle) (st := []) (Nat.le_of_ble_eq_true rfl) rfl d_Program_add_100 ?_
    refine g_goto X 150 d_Program_add_103 (by decide) ?_
    refine g_iload X 6 rfl d_Program_add_150 ?_
    subst hM
    exact g_iret X d_Program_add_152
def fm_Program_add (o : Nat) (a1 : Int) (a2 : Int) (a3 : Int) (a4 : Int) (a5 : Int) (a6 : Int) (w : fa_W) : Int × fa_W :=
  fa_let (fm_Row_size (fa_rf o 0) w) fun x7_2 =>
  fa_let (fr_add (fa_rf o 0) a1 w) fun w4 =>
  fa_let (fr_add (fa_rf o 1) a2 w4) fun w6 =>
  fa_let (fr_add (fa_rf o 2) a3 w6) fun w8 =>
  if fa_wr a4 = (-1) then
  fm_Program_add_j57 o a1 a2 a3 a4 a5 a6 x7_2 x7_2 w8
  else
  fm_Program_add_j57 o a1 a2 a3 a4 a5 a6 x7_2 (fr_at (fa_rf o 3) a4 w8) w8
set_option maxHeartbeats 4000000 in
set_option maxRecDepth 100000 in
theorem c_Program_add {l : Launch} {D : va_G} {b : Nat} {aC : Nat → ClassId} {H0 : Heap} {N T : Nat} (hN : fa_NX ≤ N) (hT : fa_TX ≤ T) (o : Nat) (a1 : Int) (a2 : Int) (a3 : Int) (a4 : Int) (a5 : Int) (a6 : Int) (ho : (fa_sh o).1 = 4)  (w : fa_W) (r : Int × fa_W) (hM : fm_Program_add o a1 a2 a3 a4 a5 a6 w = r) : fa_MC l D b aC H0 N T y_Program_add prog_5_method_10_code 8 ((Option.some Jvm.ClassFile.FieldType.int)) (1) [.ref (b + o), .int (fa_I a1), .int (fa_I a2), .int (fa_I a3), .int (fa_I a4), .int (fa_I a5), .int (fa_I a6)] w (some (.int (fa_I r.1))) r.2 := by
  refine fa_enter (lv := [(0, .ref (b + o)), (1, .int (fa_I a1)), (2, .int (fa_I a2)), (3, .int (fa_I a3)), (4, .int (fa_I a4)), (5, .int (fa_I a5)), (6, .int (fa_I a6))]) (by decide +kernel) (Nat.le_of_ble_eq_true rfl) rfl (fun hh hle hnm X => ?_)
  unfold fm_Program_add at hM
  refine g_aload_n X 0 rfl d_Program_add_0 ?_
  refine g_get X ck_4 ho (fa_xn ho (by decide) hN) 0 (by decide) wd_65 rfl (fa_fvR rfl (fa_xt ho (by decide) hT 0)) d_Program_add_1 ?_
  refine g_callV_i X ck_6 (fa_r4_0 _ ho) (fa_xn (fa_r4_0 _ ho) (by decide) hN) rfl mi_Row_size (c_Row_size (fa_rf o 0) (fa_ro (fa_r4_0 _ ho) hN hT) w _ rfl) wd_422 rfl (Nat.le_trans (Nat.le_of_ble_eq_true rfl) hle) (st := []) (Nat.le_of_ble_eq_true rfl) rfl d_Program_add_4 ?_
  refine g_istore X (fun x7_2 => [(7, .int (fa_I x7_2)), (0, .ref (b + o)), (1, .int (fa_I a1)), (2, .int (fa_I a2)), (3, .int (fa_I a3)), (4, .int (fa_I a4)), (5, .int (fa_I a5)), (6, .int (fa_I a6))]) d_Program_add_7 (by decide) (fun _ => rfl) (fun x7_2 ex7_2 => ?_)
  have hM := fa_let_to hM ex7_2
  refine g_aload_n X 1 rfl d_Program_add_9 ?_
  refine g_get X ck_4 ho (fa_xn ho (by decide) hN) 0 (by decide) wd_65 rfl (fa_fvR rfl (fa_xt ho (by decide) hT 0)) d_Program_add_10 ?_
  refine g_iload_n X 2 rfl d_Program_add_13 ?_
  obtain ⟨w4, e3⟩ : ∃ q, fr_add (fa_rf o 0) a1 w = q := ⟨_, rfl⟩
  have hM := fa_let_to hM e3.symm
  refine g_callV_v X ck_6 (fa_r4_0 _ ho) (fa_xn (fa_r4_0 _ ho) (by decide) hN) rfl mi_Row_add (ct_Row_add (fa_rf o 0) a1 (fa_ro (fa_r4_0 _ ho) hN hT) w _ e3) wd_426 rfl (Nat.le_trans (Nat.le_of_ble_eq_true rfl) hle) (st := []) (Nat.le_of_ble_eq_true rfl) rfl d_Program_add_14 ?_
  refine g_aload_n X 1 rfl d_Program_add_17 ?_
  refine g_get X ck_4 ho (fa_xn ho (by decide) hN) 1 (by decide) wd_66 rfl (fa_fvR rfl (fa_xt ho (by decide) hT 1)) d_Program_add_18 ?_
  refine g_iload_n X 3 rfl d_Program_add_21 ?_
  obtain ⟨w6, e5⟩ : ∃ q, fr_add (fa_rf o 1) a2 w4 = q := ⟨_, rfl⟩
  have hM := fa_let_to hM e5.symm
  refine g_callV_v X ck_6 (fa_r4_1 _ ho) (fa_xn (fa_r4_1 _ ho) (by decide) hN) rfl mi_Row_add (ct_Row_add (fa_rf o 1) a2 (fa_ro (fa_r4_1 _ ho) hN hT) w4 _ e5) wd_426 rfl (Nat.le_trans (Nat.le_of_ble_eq_true rfl) hle) (st := []) (Nat.le_of_ble_eq_true rfl) rfl d_Program_add_22 ?_
  refine g_aload_n X 1 rfl d_Program_add_25 ?_
  refine g_get X ck_4 ho (fa_xn ho (by decide) hN) 2 (by decide) wd_67 rfl (fa_fvR rfl (fa_xt ho (by decide) hT 2)) d_Program_add_26 ?_
  refine g_iload_n X 4 rfl d_Program_add_29 ?_
  obtain ⟨w8, e7⟩ : ∃ q, fr_add (fa_rf o 2) a3 w6 = q := ⟨_, rfl⟩
  have hM := fa_let_to hM e7.symm
  refine g_callV_v X ck_6 (fa_r4_2 _ ho) (fa_xn (fa_r4_2 _ ho) (by decide) hN) rfl mi_Row_add (ct_Row_add (fa_rf o 2) a3 (fa_ro (fa_r4_2 _ ho) hN hT) w6 _ e7) wd_426 rfl (Nat.le_trans (Nat.le_of_ble_eq_true rfl) hle) (st := []) (Nat.le_of_ble_eq_true rfl) rfl d_Program_add_30 ?_
  refine g_aload_n X 1 rfl d_Program_add_33 ?_
  refine g_get X ck_4 ho (fa_xn ho (by decide) hN) 3 (by decide) wd_68 rfl (fa_fvR rfl (fa_xt ho (by decide) hT 3)) d_Program_add_34 ?_
  refine g_iload X 5 rfl d_Program_add_37 ?_
  refine g_iconst X d_Program_add_39 ?_
  refine g_icmp_ne X 48 d_Program_add_40 (by decide) (fun hc9 => ?_) (fun hc9 => ?_)
  · have hM := fa_if_f hM hc9
    refine g_aload_n X 1 rfl d_Program_add_48 ?_
    refine g_get X ck_4 ho (fa_xn ho (by decide) hN) 3 (by decide) wd_68 rfl (fa_fvR rfl (fa_xt ho (by decide) hT 3)) d_Program_add_49 ?_
    refine g_iload X 5 rfl d_Program_add_52 ?_
    refine g_callV_i X ck_6 (fa_r4_3 _ ho) (fa_xn (fa_r4_3 _ ho) (by decide) hN) rfl mi_Row_at (ct_Row_at (fa_rf o 3) a4 (fa_ro (fa_r4_3 _ ho) hN hT) w8 _ rfl) wd_427 rfl (Nat.le_trans (Nat.le_of_ble_eq_true rfl) hle) (st := [.ref (b + (fa_rf o 3))]) (Nat.le_of_ble_eq_true rfl) rfl d_Program_add_54 ?_
    exact g_lv [1, 2, 3, 5, 6, 7, 0] rfl (c_Program_add_j57 X hle hN hT o a1 a2 a3 a4 a5 a6 ho    _ _ _ hM)
  · have hM := fa_if_t hM hc9
    refine g_iload X 0 rfl d_Program_add_43 ?_
    refine g_goto X 57 d_Program_add_45 (by decide) ?_
    exact g_lv [1, 2, 3, 5, 6, 7, 0] rfl (c_Program_add_j57 X hle hN hT o a1 a2 a3 a4 a5 a6 ho    _ _ _ hM)
theorem d_Program_makeDead_0 : decode prog_5_method_3_code 0 = .ok (.aload_n 0, 1) := by decide +kernel
theorem d_Program_makeDead_1 : decode prog_5_method_3_code 1 = .ok (.invokevirtual 76, 3) := by decide +kernel
theorem d_Program_makeDead_4 : decode prog_5_method_3_code 4 = .ok (.aload_n 0, 1) := by decide +kernel
theorem d_Program_makeDead_5 : decode prog_5_method_3_code 5 = .ok (.aload_n 0, 1) := by decide +kernel
theorem d_Program_makeDead_6 : decode prog_5_method_3_code 6 = .ok (.iconst 4, 1) := by decide +kernel
theorem d_Program_makeDead_7 : decode prog_5_method_3_code 7 = .ok (.iconst 0, 1) := by decide +kernel
theorem d_Program_makeDead_8 : decode prog_5_method_3_code 8 = .ok (.iconst (-1), 1) := by decide +kernel
theorem d_Program_makeDead_9 : decode prog_5_method_3_code 9 = .ok (.iconst (-1), 1) := by decide +kernel
theorem d_Program_makeDead_10 : decode prog_5_method_3_code 10 = .ok (.iconst (-1), 1) := by decide +kernel
theorem d_Program_makeDead_11 : decode prog_5_method_3_code 11 = .ok (.iconst (-1), 1) := by decide +kernel
theorem d_Program_makeDead_12 : decode prog_5_method_3_code 12 = .ok (.invokevirtual 77, 3) := by decide +kernel
theorem d_Program_makeDead_15 : decode prog_5_method_3_code 15 = .ok (.putfield 66, 3) := by decide +kernel
theorem d_Program_makeDead_18 : decode prog_5_method_3_code 18 = .ok (.return_, 1) := by decide +kernel
def fm_Program_makeDead (o : Nat) (w : fa_W) : fa_W :=
  fa_let (fm_Program_clear o w) fun w2 =>
  fa_l2 (fm_Program_add o 4 0 (-1) (-1) (-1) (-1) w2) fun v4 w5 =>
  fa_let (fa_st w5 o 16 v4) fun w6 =>
  w6
set_option maxHeartbeats 4000000 in
set_option maxRecDepth 100000 in
theorem c_Program_makeDead {l : Launch} {D : va_G} {b : Nat} {aC : Nat → ClassId} {H0 : Heap} {N T : Nat} (hN : fa_NX ≤ N) (hT : fa_TX ≤ T) (o : Nat) (ho : (fa_sh o).1 = 4)  (w : fa_W) (r : fa_W) (hM : fm_Program_makeDead o w = r) : fa_MC l D b aC H0 N T y_Program_makeDead prog_5_method_3_code 1 ((Option.none : Option Jvm.ClassFile.FieldType)) (3) [.ref (b + o)] w (none) r := by
  refine fa_enter (lv := [(0, .ref (b + o))]) (by decide +kernel) (Nat.le_of_ble_eq_true rfl) rfl (fun hh hle hnm X => ?_)
  unfold fm_Program_makeDead at hM
  refine g_aload_n X 0 rfl d_Program_makeDead_0 ?_
  obtain ⟨w2, e1⟩ : ∃ q, fm_Program_clear o w = q := ⟨_, rfl⟩
  have hM := fa_let_to hM e1.symm
  refine g_callV_v X ck_4 ho (fa_xn ho (by decide) hN) rfl mi_Program_clear (c_Program_clear hN hT o ho w _ e1) wd_412 rfl (Nat.le_trans (Nat.le_of_ble_eq_true rfl) hle) (st := []) (Nat.le_of_ble_eq_true rfl) rfl d_Program_makeDead_1 ?_
  refine g_aload_n X 0 rfl d_Program_makeDead_4 ?_
  refine g_aload_n X 0 rfl d_Program_makeDead_5 ?_
  refine g_iconst X d_Program_makeDead_6 ?_
  refine g_iconst X d_Program_makeDead_7 ?_
  refine g_iconst X d_Program_makeDead_8 ?_
  refine g_iconst X d_Program_makeDead_9 ?_
  refine g_iconst X d_Program_makeDead_10 ?_
  refine g_iconst X d_Program_makeDead_11 ?_
  obtain ⟨⟨v4, w5⟩, e3⟩ : ∃ q, fm_Program_add o 4 0 (-1) (-1) (-1) (-1) w2 = q := ⟨_, rfl⟩
  have hM := fa_l2_e hM e3
  refine g_callV_i X ck_4 ho (fa_xn ho (by decide) hN) rfl mi_Program_add (c_Program_add hN hT o 4 0 (-1) (-1) (-1) (-1) ho w2 _ e3) wd_418 rfl (Nat.le_trans (Nat.le_of_ble_eq_true rfl) hle) (st := [.ref (b + o)]) (Nat.le_of_ble_eq_true rfl) rfl d_Program_makeDead_12 ?_
  refine g_put X ck_4 ho (fa_xn ho (by decide) hN) 16 (z := v4) (by decide) wd_107 rfl (fa_fvI' rfl) rfl rfl rfl d_Program_makeDead_15 (fun w6 ew6 => ?_)
  have hM := fa_let_to hM ew6
  subst hM
  exact g_vret X d_Program_makeDead_18
theorem d_Program_things_0 : decode prog_5_method_4_code 0 = .ok (.aload_n 0, 1) := by decide +kernel
theorem d_Program_things_1 : decode prog_5_method_4_code 1 = .ok (.getfield 14, 3) := by decide +kernel
theorem d_Program_things_4 : decode prog_5_method_4_code 4 = .ok (.invokevirtual 81, 3) := by decide +kernel
theorem d_Program_things_7 : decode prog_5_method_4_code 7 = .ok (.ireturn, 1) := by decide +kernel
def fm_Program_things (o : Nat) (w : fa_W) : Int :=
  fm_Row_size (fa_rf o 0) w
set_option maxHeartbeats 4000000 in
set_option maxRecDepth 100000 in
theorem c_Program_things {l : Launch} {D : va_G} {b : Nat} {aC : Nat → ClassId} {H0 : Heap} {N T : Nat} (hN : fa_NX ≤ N) (hT : fa_TX ≤ T) (o : Nat) (ho : (fa_sh o).1 = 4)  (w : fa_W) (r : Int) (hM : fm_Program_things o w = r) : fa_MC l D b aC H0 N T y_Program_things prog_5_method_4_code 1 ((Option.some Jvm.ClassFile.FieldType.int)) (1) [.ref (b + o)] w (some (.int (fa_I r))) w := by
  refine fa_enter (lv := [(0, .ref (b + o))]) (by decide +kernel) (Nat.le_of_ble_eq_true rfl) rfl (fun hh hle hnm X => ?_)
  unfold fm_Program_things at hM
  refine g_aload_n X 0 rfl d_Program_things_0 ?_
  refine g_get X ck_4 ho (fa_xn ho (by decide) hN) 0 (by decide) wd_65 rfl (fa_fvR rfl (fa_xt ho (by decide) hT 0)) d_Program_things_1 ?_
  refine g_callV_i X ck_6 (fa_r4_0 _ ho) (fa_xn (fa_r4_0 _ ho) (by decide) hN) rfl mi_Row_size (c_Row_size (fa_rf o 0) (fa_ro (fa_r4_0 _ ho) hN hT) w _ rfl) wd_422 rfl (Nat.le_trans (Nat.le_of_ble_eq_true rfl) hle) (st := []) (Nat.le_of_ble_eq_true rfl) rfl d_Program_things_4 ?_
  subst hM
  exact g_iret X d_Program_things_7
theorem d_Program_kind_0 : decode prog_5_method_5_code 0 = .ok (.aload_n 0, 1) := by decide +kernel
theorem d_Program_kind_1 : decode prog_5_method_5_code 1 = .ok (.getfield 14, 3) := by decide +kernel
theorem d_Program_kind_4 : decode prog_5_method_5_code 4 = .ok (.iload_n 1, 1) := by decide +kernel
theorem d_Program_kind_5 : decode prog_5_method_5_code 5 = .ok (.invokevirtual 85, 3) := by decide +kernel
theorem d_Program_kind_8 : decode prog_5_method_5_code 8 = .ok (.ireturn, 1) := by decide +kernel
def fm_Program_kind (o : Nat) (a1 : Int) (w : fa_W) : Int :=
  fr_at (fa_rf o 0) a1 w
set_option maxHeartbeats 4000000 in
set_option maxRecDepth 100000 in
theorem c_Program_kind {l : Launch} {D : va_G} {b : Nat} {aC : Nat → ClassId} {H0 : Heap} {N T : Nat} (hN : fa_NX ≤ N) (hT : fa_TX ≤ T) (o : Nat) (a1 : Int) (ho : (fa_sh o).1 = 4)  (w : fa_W) (r : Int) (hM : fm_Program_kind o a1 w = r) : fa_MC l D b aC H0 N T y_Program_kind prog_5_method_5_code 2 ((Option.some Jvm.ClassFile.FieldType.int)) (1) [.ref (b + o), .int (fa_I a1)] w (some (.int (fa_I r))) w := by
  refine fa_enter (lv := [(0, .ref (b + o)), (1, .int (fa_I a1))]) (by decide +kernel) (Nat.le_of_ble_eq_true rfl) rfl (fun hh hle hnm X => ?_)
  unfold fm_Program_kind at hM
  refine g_aload_n X 0 rfl d_Program_kind_0 ?_
  refine g_get X ck_4 ho (fa_xn ho (by decide) hN) 0 (by decide) wd_65 rfl (fa_fvR rfl (fa_xt ho (by decide) hT 0)) d_Program_kind_1 ?_
  refine g_iload_n X 1 rfl d_Program_kind_4 ?_
  refine g_callV_i X ck_6 (fa_r4_0 _ ho) (fa_xn (fa_r4_0 _ ho) (by decide) hN) rfl mi_Row_at (ct_Row_at (fa_rf o 0) a1 (fa_ro (fa_r4_0 _ ho) hN hT) w _ rfl) wd_427 rfl (Nat.le_trans (Nat.le_of_ble_eq_true rfl) hle) (st := []) (Nat.le_of_ble_eq_true rfl) rfl d_Program_kind_5 ?_
  subst hM
  exact g_iret X d_Program_kind_8
theorem d_Program_value_0 : decode prog_5_method_6_code 0 = .ok (.aload_n 0, 1) := by decide +kernel
theorem d_Program_value_1 : decode prog_5_method_6_code 1 = .ok (.getfield 20, 3) := by decide +kernel
theorem d_Program_value_4 : decode prog_5_method_6_code 4 = .ok (.iload_n 1, 1) := by decide +kernel
theorem d_Program_value_5 : decode prog_5_method_6_code 5 = .ok (.invokevirtual 85, 3) := by decide +kernel
theorem d_Program_value_8 : decode prog_5_method_6_code 8 = .ok (.ireturn, 1) := by decide +kernel
def fm_Program_value (o : Nat) (a1 : Int) (w : fa_W) : Int :=
  fr_at (fa_rf o 1) a1 w
set_option maxHeartbeats 4000000 in
set_option maxRecDepth 100000 in
theorem c_Program_value {l : Launch} {D : va_G} {b : Nat} {aC : Nat → ClassId} {H0 : Heap} {N T : Nat} (hN : fa_NX ≤ N) (hT : fa_TX ≤ T) (o : Nat) (a1 : Int) (ho : (fa_sh o).1 = 4)  (w : fa_W) (r : Int) (hM : fm_Program_value o a1 w = r) : fa_MC l D b aC H0 N T y_Program_value prog_5_method_6_code 2 ((Option.some Jvm.ClassFile.FieldType.int)) (1) [.ref (b + o), .int (fa_I a1)] w (some (.int (fa_I r))) w := by
  refine fa_enter (lv := [(0, .ref (b + o)), (1, .int (fa_I a1))]) (by decide +kernel) (Nat.le_of_ble_eq_true rfl) rfl (fun hh hle hnm X => ?_)
  unfold fm_Program_value at hM
  refine g_aload_n X 0 rfl d_Program_value_0 ?_
  refine g_get X ck_4 ho (fa_xn ho (by decide) hN) 1 (by decide) wd_66 rfl (fa_fvR rfl (fa_xt ho (by decide) hT 1)) d_Program_value_1 ?_
  refine g_iload_n X 1 rfl d_Program_value_4 ?_
  refine g_callV_i X ck_6 (fa_r4_1 _ ho) (fa_xn (fa_r4_1 _ ho) (by decide) hN) rfl mi_Row_at (ct_Row_at (fa_rf o 1) a1 (fa_ro (fa_r4_1 _ ho) hN hT) w _ rfl) wd_427 rfl (Nat.le_trans (Nat.le_of_ble_eq_true rfl) hle) (st := []) (Nat.le_of_ble_eq_true rfl) rfl d_Program_value_5 ?_
  subst hM
  exact g_iret X d_Program_value_8
theorem d_Program_owner_0 : decode prog_5_method_7_code 0 = .ok (.aload_n 0, 1) := by decide +kernel
theorem d_Program_owner_1 : decode prog_5_method_7_code 1 = .ok (.getfield 23, 3) := by decide +kernel
theorem d_Program_owner_4 : decode prog_5_method_7_code 4 = .ok (.iload_n 1, 1) := by decide +kernel
theorem d_Program_owner_5 : decode prog_5_method_7_code 5 = .ok (.invokevirtual 85, 3) := by decide +kernel
theorem d_Program_owner_8 : decode prog_5_method_7_code 8 = .ok (.ireturn, 1) := by decide +kernel
def fm_Program_owner (o : Nat) (a1 : Int) (w : fa_W) : Int :=
  fr_at (fa_rf o 2) a1 w
set_option maxHeartbeats 4000000 in
set_option maxRecDepth 100000 in
theorem c_Program_owner {l : Launch} {D : va_G} {b : Nat} {aC : Nat → ClassId} {H0 : Heap} {N T : Nat} (hN : fa_NX ≤ N) (hT : fa_TX ≤ T) (o : Nat) (a1 : Int) (ho : (fa_sh o).1 = 4)  (w : fa_W) (r : Int) (hM : fm_Program_owner o a1 w = r) : fa_MC l D b aC H0 N T y_Program_owner prog_5_method_7_code 2 ((Option.some Jvm.ClassFile.FieldType.int)) (1) [.ref (b + o), .int (fa_I a1)] w (some (.int (fa_I r))) w := by
  refine fa_enter (lv := [(0, .ref (b + o)), (1, .int (fa_I a1))]) (by decide +kernel) (Nat.le_of_ble_eq_true rfl) rfl (fun hh hle hnm X => ?_)
  unfold fm_Program_owner at hM
  refine g_aload_n X 0 rfl d_Program_owner_0 ?_
  refine g_get X ck_4 ho (fa_xn ho (by decide) hN) 2 (by decide) wd_67 rfl (fa_fvR rfl (fa_xt ho (by decide) hT 2)) d_Program_owner_1 ?_
  refine g_iload_n X 1 rfl d_Program_owner_4 ?_
  refine g_callV_i X ck_6 (fa_r4_2 _ ho) (fa_xn (fa_r4_2 _ ho) (by decide) hN) rfl mi_Row_at (ct_Row_at (fa_rf o 2) a1 (fa_ro (fa_r4_2 _ ho) hN hT) w _ rfl) wd_427 rfl (Nat.le_trans (Nat.le_of_ble_eq_true rfl) hle) (st := []) (Nat.le_of_ble_eq_true rfl) rfl d_Program_owner_5 ?_
  subst hM
  exact g_iret X d_Program_owner_8
theorem d_Program_part_0 : decode prog_5_method_8_code 0 = .ok (.iload_n 2, 1) := by decide +kernel
theorem d_Program_part_1 : decode prog_5_method_8_code 1 = .ok (.ifCond .lt 23, 3) := by decide +kernel
theorem d_Program_part_4 : decode prog_5_method_8_code 4 = .ok (.iload_n 2, 1) := by decide +kernel
theorem d_Program_part_5 : decode prog_5_method_8_code 5 = .ok (.iconst 3, 1) := by decide +kernel
theorem d_Program_part_6 : decode prog_5_method_8_code 6 = .ok (.if_icmp .ge 18, 3) := by decide +kernel
theorem d_Program_part_9 : decode prog_5_method_8_code 9 = .ok (.aload_n 0, 1) := by decide +kernel
theorem d_Program_part_10 : decode prog_5_method_8_code 10 = .ok (.getfield 29, 3) := by decide +kernel
theorem d_Program_part_13 : decode prog_5_method_8_code 13 = .ok (.iload_n 1, 1) := by decide +kernel
theorem d_Program_part_14 : decode prog_5_method_8_code 14 = .ok (.iconst 3, 1) := by decide +kernel
theorem d_Program_part_15 : decode prog_5_method_8_code 15 = .ok (.imul, 1) := by decide +kernel
theorem d_Program_part_16 : decode prog_5_method_8_code 16 = .ok (.iload_n 2, 1) := by decide +kernel
theorem d_Program_part_17 : decode prog_5_method_8_code 17 = .ok (.iadd, 1) := by decide +kernel
theorem d_Program_part_18 : decode prog_5_method_8_code 18 = .ok (.invokevirtual 85, 3) := by decide +kernel
theorem d_Program_part_21 : decode prog_5_method_8_code 21 = .ok (.goto 4, 3) := by decide +kernel
theorem d_Program_part_24 : decode prog_5_method_8_code 24 = .ok (.iconst (-1), 1) := by decide +kernel
theorem d_Program_part_25 : decode prog_5_method_8_code 25 = .ok (.ireturn, 1) := by decide +kernel
def fm_Program_part (o : Nat) (a1 : Int) (a2 : Int) (w : fa_W) : Int :=
  if fa_wr a2 < 0 then
  (-1)
  else
  (if 3 ≤ fa_wr a2 then
  (-1)
  else
  fr_at (fa_rf o 4) ((a1 * 3) + a2) w)
set_option maxHeartbeats 4000000 in
set_option maxRecDepth 100000 in
theorem c_Program_part {l : Launch} {D : va_G} {b : Nat} {aC : Nat → ClassId} {H0 : Heap} {N T : Nat} (hN : fa_NX ≤ N) (hT : fa_TX ≤ T) (o : Nat) (a1 : Int) (a2 : Int) (ho : (fa_sh o).1 = 4)  (w : fa_W) (r : Int) (hM : fm_Program_part o a1 a2 w = r) : fa_MC l D b aC H0 N T y_Program_part prog_5_method_8_code 3 ((Option.some Jvm.ClassFile.FieldType.int)) (1) [.ref (b + o), .int (fa_I a1), .int (fa_I a2)] w (some (.int (fa_I r))) w := by
  refine fa_enter (lv := [(0, .ref (b + o)), (1, .int (fa_I a1)), (2, .int (fa_I a2))]) (by decide +kernel) (Nat.le_of_ble_eq_true rfl) rfl (fun hh hle hnm X => ?_)
  unfold fm_Program_part at hM
  refine g_iload_n X 2 rfl d_Program_part_0 ?_
  refine g_if_lt X 24 d_Program_part_1 (by decide) (fun hc1 => ?_) (fun hc1 => ?_)
  · have hM := fa_if_t hM hc1
    refine g_iconst X d_Program_part_24 ?_
    subst hM
    exact g_iret X d_Program_part_25
  · have hM := fa_if_f hM hc1
    refine g_iload_n X 2 rfl d_Program_part_4 ?_
    refine g_iconst X d_Program_part_5 ?_
    refine g_icmp_ge X 24 d_Program_part_6 (by decide) (fun hc2 => ?_) (fun hc2 => ?_)
    · have hM := fa_if_t hM hc2
      refine g_iconst X d_Program_part_24 ?_
      subst hM
      exact g_iret X d_Program_part_25
    · have hM := fa_if_f hM hc2
      refine g_aload_n X 0 rfl d_Program_part_9 ?_
      refine g_get X ck_4 ho (fa_xn ho (by decide) hN) 4 (by decide) wd_69 rfl (fa_fvR rfl (fa_xt ho (by decide) hT 4)) d_Program_part_10 ?_
      refine g_iload_n X 1 rfl d_Program_part_13 ?_
      refine g_iconst X d_Program_part_14 ?_
      refine g_imul X d_Program_part_15 ?_
      refine g_iload_n X 2 rfl d_Program_part_16 ?_
      refine g_iadd X d_Program_part_17 ?_
      refine g_callV_i X ck_6 (fa_r4_4 _ ho) (fa_xn (fa_r4_4 _ ho) (by decide) hN) rfl mi_Row_at (ct_Row_at (fa_rf o 4) ((a1 * 3) + a2) (fa_ro (fa_r4_4 _ ho) hN hT) w _ rfl) wd_427 rfl (Nat.le_trans (Nat.le_of_ble_eq_true rfl) hle) (st := []) (Nat.le_of_ble_eq_true rfl) rfl d_Program_part_18 ?_
      refine g_goto X 25 d_Program_part_21 (by decide) ?_
      subst hM
      exact g_iret X d_Program_part_25
theorem d_Program_home_0 : decode prog_5_method_9_code 0 = .ok (.aload_n 0, 1) := by decide +kernel
theorem d_Program_home_1 : decode prog_5_method_9_code 1 = .ok (.aload_n 0, 1) := by decide +kernel
theorem d_Program_home_2 : decode prog_5_method_9_code 2 = .ok (.getfield 38, 3) := by decide +kernel
theorem d_Program_home_5 : decode prog_5_method_9_code 5 = .ok (.iload_n 1, 1) := by decide +kernel
theorem d_Program_home_6 : decode prog_5_method_9_code 6 = .ok (.invokevirtual 85, 3) := by decide +kernel
theorem d_Program_home_9 : decode prog_5_method_9_code 9 = .ok (.invokevirtual 89, 3) := by decide +kernel
theorem d_Program_home_12 : decode prog_5_method_9_code 12 = .ok (.ireturn, 1) := by decide +kernel
def fm_Program_home (o : Nat) (a1 : Int) (w : fa_W) : Int :=
  fm_Program_owner o (fr_at (fa_rf o 7) a1 w) w
set_option maxHeartbeats 4000000 in
set_option maxRecDepth 100000 in
theorem c_Program_home {l : Launch} {D : va_G} {b : Nat} {aC : Nat → ClassId} {H0 : Heap} {N T : Nat} (hN : fa_NX ≤ N) (hT : fa_TX ≤ T) (o : Nat) (a1 : Int) (ho : (fa_sh o).1 = 4)  (w : fa_W) (r : Int) (hM : fm_Program_home o a1 w = r) : fa_MC l D b aC H0 N T y_Program_home prog_5_method_9_code 2 ((Option.some Jvm.ClassFile.FieldType.int)) (2) [.ref (b + o), .int (fa_I a1)] w (some (.int (fa_I r))) w := by
  refine fa_enter (lv := [(0, .ref (b + o)), (1, .int (fa_I a1))]) (by decide +kernel) (Nat.le_of_ble_eq_true rfl) rfl (fun hh hle hnm X => ?_)
  unfold fm_Program_home at hM
  refine g_aload_n X 0 rfl d_Program_home_0 ?_
  refine g_aload_n X 0 rfl d_Program_home_1 ?_
  refine g_get X ck_4 ho (fa_xn ho (by decide) hN) 7 (by decide) wd_78 rfl (fa_fvR rfl (fa_xt ho (by decide) hT 7)) d_Program_home_2 ?_
  refine g_iload_n X 1 rfl d_Program_home_5 ?_
  refine g_callV_i X ck_6 (fa_r4_7 _ ho) (fa_xn (fa_r4_7 _ ho) (by decide) hN) rfl mi_Row_at (ct_Row_at (fa_rf o 7) a1 (fa_ro (fa_r4_7 _ ho) hN hT) w _ rfl) wd_427 rfl (Nat.le_trans (Nat.le_of_ble_eq_true rfl) hle) (st := [.ref (b + o)]) (Nat.le_of_ble_eq_true rfl) rfl d_Program_home_6 ?_
  refine g_callV_i X ck_4 ho (fa_xn ho (by decide) hN) rfl mi_Program_owner (c_Program_owner hN hT o (fr_at (fa_rf o 7) a1 w) ho w _ rfl) wd_753 rfl (Nat.le_trans (Nat.le_of_ble_eq_true rfl) hle) (st := []) (Nat.le_of_ble_eq_true rfl) rfl d_Program_home_9 ?_
  subst hM
  exact g_iret X d_Program_home_12
theorem d_Program_listFields_0 : decode prog_5_method_11_code 0 = .ok (.aload_n 2, 1) := by decide +kernel
theorem d_Program_listFields_1 : decode prog_5_method_11_code 1 = .ok (.invokevirtual 69, 3) := by decide +kernel
theorem d_Program_listFields_4 : decode prog_5_method_11_code 4 = .ok (.aload_n 0, 1) := by decide +kernel
theorem d_Program_listFields_5 : decode prog_5_method_11_code 5 = .ok (.getfield 44, 3) := by decide +kernel
theorem d_Program_listFields_8 : decode prog_5_method_11_code 8 = .ok (.iload_n 1, 1) := by decide +kernel
theorem d_Program_listFields_9 : decode prog_5_method_11_code 9 = .ok (.invokevirtual 85, 3) := by decide +kernel
theorem d_Program_listFields_12 : decode prog_5_method_11_code 12 = .ok (.istore_n 3, 1) := by decide +kernel
theorem d_Program_listFields_13 : decode prog_5_method_11_code 13 = .ok (.iload_n 3, 1) := by decide +kernel
theorem d_Program_listFields_14 : decode prog_5_method_11_code 14 = .ok (.iconst (-1), 1) := by decide +kernel
theorem d_Program_listFields_15 : decode prog_5_method_11_code 15 = .ok (.if_icmp .ne 4, 3) := by decide +kernel
theorem d_Program_listFields_18 : decode prog_5_method_11_code 18 = .ok (.return_, 1) := by decide +kernel
theorem d_Program_listFields_19 : decode prog_5_method_11_code 19 = .ok (.aload_n 0, 1) := by decide +kernel
theorem d_Program_listFields_20 : decode prog_5_method_11_code 20 = .ok (.getfield 26, 3) := by decide +kernel
theorem d_Program_listFields_23 : decode prog_5_method_11_code 23 = .ok (.iload_n 3, 1) := by decide +kernel
theorem d_Program_listFields_24 : decode prog_5_method_11_code 24 = .ok (.invokevirtual 85, 3) := by decide +kernel
theorem d_Program_listFields_27 : decode prog_5_method_11_code 27 = .ok (.istore 4, 2) := by decide +kernel
theorem d_Program_listFields_29 : decode prog_5_method_11_code 29 = .ok (.iload 4, 2) := by decide +kernel
theorem d_Program_listFields_31 : decode prog_5_method_11_code 31 = .ok (.iconst 0, 1) := by decide +kernel
theorem d_Program_listFields_32 : decode prog_5_method_11_code 32 = .ok (.invokestatic 97, 3) := by decide +kernel
theorem d_Program_listFields_35 : decode prog_5_method_11_code 35 = .ok (.istore 5, 2) := by decide +kernel
theorem d_Program_listFields_37 : decode prog_5_method_11_code 37 = .ok (.iload 5, 2) := by decide +kernel
theorem d_Program_listFields_39 : decode prog_5_method_11_code 39 = .ok (.iload_n 3, 1) := by decide +kernel
theorem d_Program_listFields_40 : decode prog_5_method_11_code 40 = .ok (.if_icmp .gt 86, 3) := by decide +kernel
theorem d_Program_listFields_43 : decode prog_5_method_11_code 43 = .ok (.iload 5, 2) := by decide +kernel
theorem d_Program_listFields_45 : decode prog_5_method_11_code 45 = .ok (.bipush 100, 2) := by decide +kernel
theorem d_Program_listFields_47 : decode prog_5_method_11_code 47 = .ok (.if_icmp .ge 79, 3) := by decide +kernel
theorem d_Program_listFields_50 : decode prog_5_method_11_code 50 = .ok (.aload_n 0, 1) := by decide +kernel
theorem d_Program_listFields_51 : decode prog_5_method_11_code 51 = .ok (.getfield 20, 3) := by decide +kernel
theorem d_Program_listFields_54 : decode prog_5_method_11_code 54 = .ok (.iload 5, 2) := by decide +kernel
theorem d_Program_listFields_56 : decode prog_5_method_11_code 56 = .ok (.invokevirtual 85, 3) := by decide +kernel
theorem d_Program_listFields_59 : decode prog_5_method_11_code 59 = .ok (.istore 6, 2) := by decide +kernel
theorem d_Program_listFields_61 : decode prog_5_method_11_code 61 = .ok (.aload_n 0, 1) := by decide +kernel
theorem d_Program_listFields_62 : decode prog_5_method_11_code 62 = .ok (.getfield 14, 3) := by decide +kernel
theorem d_Program_listFields_65 : decode prog_5_method_11_code 65 = .ok (.iload 5, 2) := by decide +kernel
theorem d_Program_listFields_67 : decode prog_5_method_11_code 67 = .ok (.invokevirtual 85, 3) := by decide +kernel
theorem d_Program_listFields_70 : decode prog_5_method_11_code 70 = .ok (.iconst 2, 1) := by decide +kernel
theorem d_Program_listFields_71 : decode prog_5_method_11_code 71 = .ok (.if_icmp .ne 49, 3) := by decide +kernel
theorem d_Program_listFields_74 : decode prog_5_method_11_code 74 = .ok (.iload 6, 2) := by decide +kernel
theorem d_Program_listFields_76 : decode prog_5_method_11_code 76 = .ok (.iload_n 1, 1) := by decide +kernel
theorem d_Program_listFields_77 : decode prog_5_method_11_code 77 = .ok (.if_icmp .eq 43, 3) := by decide +kernel
theorem d_Program_listFields_80 : decode prog_5_method_11_code 80 = .ok (.aload_n 2, 1) := by decide +kernel
theorem d_Program_listFields_81 : decode prog_5_method_11_code 81 = .ok (.iload 6, 2) := by decide +kernel
theorem d_Program_listFields_83 : decode prog_5_method_11_code 83 = .ok (.invokevirtual 103, 3) := by decide +kernel
theorem d_Program_listFields_86 : decode prog_5_method_11_code 86 = .ok (.iconst (-1), 1) := by decide +kernel
theorem d_Program_listFields_87 : decode prog_5_method_11_code 87 = .ok (.if_icmp .ne 33, 3) := by decide +kernel
theorem d_Program_listFields_90 : decode prog_5_method_11_code 90 = .ok (.aload_n 0, 1) := by decide +kernel
theorem d_Program_listFields_91 : decode prog_5_method_11_code 91 = .ok (.getfield 38, 3) := by decide +kernel
theorem d_Program_listFields_94 : decode prog_5_method_11_code 94 = .ok (.iload 6, 2) := by decide +kernel
theorem d_Program_listFields_96 : decode prog_5_method_11_code 96 = .ok (.invokevirtual 85, 3) := by decide +kernel
theorem d_Program_listFields_99 : decode prog_5_method_11_code 99 = .ok (.istore 7, 2) := by decide +kernel
theorem d_Program_listFields_101 : decode prog_5_method_11_code 101 = .ok (.iload 7, 2) := by decide +kernel
theorem d_Program_listFields_103 : decode prog_5_method_11_code 103 = .ok (.iload 4, 2) := by decide +kernel
theorem d_Program_listFields_105 : decode prog_5_method_11_code 105 = .ok (.if_icmp .lt 9, 3) := by decide +kernel
theorem d_Program_listFields_108 : decode prog_5_method_11_code 108 = .ok (.iload 7, 2) := by decide +kernel
theorem d_Program_listFields_110 : decode prog_5_method_11_code 110 = .ok (.iload_n 3, 1) := by decide +kernel
theorem d_Program_listFields_111 : decode prog_5_method_11_code 111 = .ok (.if_icmp .le 9, 3) := by decide +kernel
theorem d_Program_listFields_114 : decode prog_5_method_11_code 114 = .ok (.aload_n 2, 1) := by decide +kernel
theorem d_Program_listFields_115 : decode prog_5_method_11_code 115 = .ok (.iload 6, 2) := by decide +kernel
theorem d_Program_listFields_117 : decode prog_5_method_11_code 117 = .ok (.invokevirtual 92, 3) := by decide +kernel
theorem d_Program_listFields_120 : decode prog_5_method_11_code 120 = .ok (.iinc 5 1, 3) := by decide +kernel
theorem d_Program_listFields_123 : decode prog_5_method_11_code 123 = .ok (.goto (-86), 3) := by decide +kernel
theorem d_Program_listFields_126 : decode prog_5_method_11_code 126 = .ok (.return_, 1) := by decide +kernel
def fm_Program_listFields_j114 (o : Nat) (a1 : Int) (a2 : Nat) (k37 : Int → Int → Int → fa_W → Option fa_W) (x3 : Int) (x4 : Int) (x5 : Int) (x6 : Int) (w : fa_W) : Option fa_W :=
  fa_let (fr_add a2 x6 w) fun w25 =>
  fa_let (x5 + 1) fun x5_26 =>
  k37 x3 x4 x5_26 w25
set_option maxHeartbeats 4000000 in
set_option maxRecDepth 100000 in
theorem c_Program_listFields_j114 {p : Program} {l : Launch} {e : Env} {s : State} {m : MethodId} {args : Array Value} {below : List Frame} {meth : Method} {c : Code} {hh : Nat} {D : va_G} {b : Nat} {aC : Nat → ClassId} {H0 : Heap} {N T : Nat} (X : fa_GX p s m args meth c prog_5_method_11_code 8 ((Option.none : Option Jvm.ClassFile.FieldType)) y_Program_listFields.cls D b aC) (hle : 1 ≤ hh) (hN : fa_NX ≤ N) (hT : fa_TX ≤ T) (o : Nat) (a1 : Int) (a2 : Nat) (ho : (fa_sh o).1 = 4) (ha2 : (fa_sh a2).1 = 6) {r : fa_W} (k37 : Int → Int → Int → fa_W → Option fa_W) (K37 : ∀ (x3 : Int) (x4 : Int) (x5 : Int) (w : fa_W), k37 x3 x4 x5 w = some r → fa_GJ p l e (fa_rm hh) s m args below meth c 0 0 (MQ below (fa_Qc D b aC H0 N T (none) r) args s 0 0 (fun q => b ≤ q)) D b aC H0 N T 8 w 37 [(0, .ref (b + o)), (1, .int (fa_I a1)), (2, .ref (b + a2)), (3, .int (fa_I x3)), (4, .int (fa_I x4)), (5, .int (fa_I x5))] []) : ∀ (x3 : Int) (x4 : Int) (x5 : Int) (x6 : Int) (w : fa_W) (_ : fm_Program_listFields_j114 o a1 a2 k37 x3 x4 x5 x6 w = some r), fa_GJ p l e (fa_rm hh) s m args below meth c 0 0 (MQ below (fa_Qc D b aC H0 N T (none) r) args s 0 0 (fun q => b ≤ q)) D b aC H0 N T 8 w 114 [(0, .ref (b + o)), (1, .int (fa_I a1)), (2, .ref (b + a2)), (3, .int (fa_I x3)), (4, .int (fa_I x4)), (5, .int (fa_I x5)), (6, .int (fa_I x6))] [] := by
  intro x3 x4 x5 x6 w hM
  unfold fm_Program_listFields_j114 at hM
  refine g_aload_n X 2 rfl d_Program_listFields_114 ?_
  refine g_iload X 6 rfl d_Program_listFields_115 ?_
  obtain ⟨w25, e24⟩ : ∃ q, fr_add a2 x6 w = q := ⟨_, rfl⟩
  have hM := fa_let_to hM e24.symm
  refine g_callV_v X ck_6 ha2 (fa_xn ha2 (by decide) hN) rfl mi_Row_add (ct_Row_add a2 x6 (fa_ro ha2 hN hT) w _ e24) wd_426 rfl (Nat.le_trans (Nat.le_of_ble_eq_true rfl) hle) (st := []) (Nat.le_of_ble_eq_true rfl) rfl d_Program_listFields_117 ?_
  refine g_iinc X 5 (fun x5_26 => [(5, .int (fa_I x5_26)), (0, .ref (b + o)), (1, .int (fa_I a1)), (2, .ref (b + a2)), (3, .int (fa_I x3)), (4, .int (fa_I x4)), (6, .int (fa_I x6))]) d_Program_listFields_120 rfl (by decide) (fun _ => rfl) (fun x5_26 ex5_26 => ?_)
  have hM := fa_let_to hM ex5_26
  refine g_goto X 37 d_Program_listFields_123 (by decide) ?_
  exact g_lv [1, 2, 3, 4, 5, 0] rfl (K37 _ _ _ _ hM)
def fm_Program_listFields_l37 (o : Nat) (a1 : Int) (a2 : Nat) : Nat → Int → Int → Int → fa_W → Option fa_W
  | 0, _, _, _, _ => none
  | n + 1, x3, x4, x5, w => if fa_wr x3 < fa_wr x5 then
  some w
  else
  (if 100 ≤ fa_wr x5 then
  some w
  else
  (fa_let (fr_at (fa_rf o 1) x5 w) fun x6_12 =>
  if fa_wr (fr_at (fa_rf o 0) x5 w) = 2 then
  (if fa_wr x6_12 = fa_wr a1 then
  (fa_let (x5 + 1) fun x5_17 =>
  fm_Program_listFields_l37 o a1 a2 n x3 x4 x5_17 w)
  else
  (if fa_wr (fr_find a2 x6_12 w) = (-1) then
  (fa_let (fr_at (fa_rf o 7) x6_12 w) fun x7_22 =>
  if fa_wr x7_22 < fa_wr x4 then
  fm_Program_listFields_j114 o a1 a2 (fun x3 x4 x5 w9 => fm_Program_listFields_l37 o a1 a2 n x3 x4 x5 w9) x3 x4 x5 x6_12 w
  else
  (if fa_wr x7_22 ≤ fa_wr x3 then
  (fa_let (x5 + 1) fun x5_28 =>
  fm_Program_listFields_l37 o a1 a2 n x3 x4 x5_28 w)
  else
  fm_Program_listFields_j114 o a1 a2 (fun x3 x4 x5 w9 => fm_Program_listFields_l37 o a1 a2 n x3 x4 x5 w9) x3 x4 x5 x6_12 w))
  else
  (fa_let (x5 + 1) fun x5_20 =>
  fm_Program_listFields_l37 o a1 a2 n x3 x4 x5_20 w)))
  else
  (fa_let (x5 + 1) fun x5_15 =>
  fm_Program_listFields_l37 o a1 a2 n x3 x4 x5_15 w)))
set_option maxHeartbeats 4000000 in
set_option maxRecDepth 100000 in
theorem c_Program_listFields_l37 {p : Program} {l : Launch} {e : Env} {s : State} {m : MethodId} {args : Array Value} {below : List Frame} {meth : Method} {c : Code} {hh : Nat} {D : va_G} {b : Nat} {aC : Nat → ClassId} {H0 : Heap} {N T : Nat} (X : fa_GX p s m args meth c prog_5_method_11_code 8 ((Option.none : Option Jvm.ClassFile.FieldType)) y_Program_listFields.cls D b aC) (hle : 1 ≤ hh) (hN : fa_NX ≤ N) (hT : fa_TX ≤ T) (o : Nat) (a1 : Int) (a2 : Nat) (ho : (fa_sh o).1 = 4) (ha2 : (fa_sh a2).1 = 6) {r : fa_W}  : ∀ (n : Nat) (x3 : Int) (x4 : Int) (x5 : Int) (w : fa_W), fm_Program_listFields_l37 o a1 a2 n x3 x4 x5 w = some r → fa_GJ p l e (fa_rm hh) s m args below meth c 0 0 (MQ below (fa_Qc D b aC H0 N T (none) r) args s 0 0 (fun q => b ≤ q)) D b aC H0 N T 8 w 37 [(0, .ref (b + o)), (1, .int (fa_I a1)), (2, .ref (b + a2)), (3, .int (fa_I x3)), (4, .int (fa_I x4)), (5, .int (fa_I x5))] [] := by
  intro n
  induction n with
  | zero => intro x3 x4 x5 w hM; exact fa_no hM
  | succ n ih =>
    intro x3 x4 x5 w hM
    rw [fm_Program_listFields_l37] at hM
    refine g_iload X 5 rfl d_Program_listFields_37 ?_
    refine g_iload_n X 3 rfl d_Program_listFields_39 ?_
    refine g_icmp_gt X 126 d_Program_listFields_40 (by decide) (fun hc9 => ?_) (fun hc9 => ?_)
    · have hM := fa_if_t hM hc9
      cases hM
      exact g_vret X d_Program_listFields_126
    · have hM := fa_if_f hM hc9
      refine g_iload X 5 rfl d_Program_listFields_43 ?_
      refine g_bipush X (by decide) d_Program_listFields_45 ?_
      refine g_icmp_ge X 126 d_Program_listFields_47 (by decide) (fun hc10 => ?_) (fun hc10 => ?_)
      · have hM := fa_if_t hM hc10
        cases hM
        exact g_vret X d_Program_listFields_126
      · have hM := fa_if_f hM hc10
        refine g_aload_n X 0 rfl d_Program_listFields_50 ?_
        refine g_get X ck_4 ho (fa_xn ho (by decide) hN) 1 (by decide) wd_66 rfl (fa_fvR rfl (fa_xt ho (by decide) hT 1)) d_Program_listFields_51 ?_
        refine g_iload X 5 rfl d_Program_listFields_54 ?_
        refine g_callV_i X ck_6 (fa_r4_1 _ ho) (fa_xn (fa_r4_1 _ ho) (by decide) hN) rfl mi_Row_at (ct_Row_at (fa_rf o 1) x5 (fa_ro (fa_r4_1 _ ho) hN hT) w _ rfl) wd_427 rfl (Nat.le_trans (Nat.le_of_ble_eq_true rfl) hle) (st := []) (Nat.le_of_ble_eq_true rfl) rfl d_Program_listFields_56 ?_
        refine g_istore X (fun x6_12 => [(6, .int (fa_I x6_12)), (0, .ref (b + o)), (1, .int (fa_I a1)), (2, .ref (b + a2)), (3, .int (fa_I x3)), (4, .int (fa_I x4)), (5, .int (fa_I x5))]) d_Program_listFields_59 (by decide) (fun _ => rfl) (fun x6_12 ex6_12 => ?_)
        have hM := fa_let_to hM ex6_12
        refine g_aload_n X 1 rfl d_Program_listFields_61 ?_
        refine g_get X ck_4 ho (fa_xn ho (by decide) hN) 0 (by decide) wd_65 rfl (fa_fvR rfl (fa_xt ho (by decide) hT 0)) d_Program_listFields_62 ?_
        refine g_iload X 6 rfl d_Program_listFields_65 ?_
        refine g_callV_i X ck_6 (fa_r4_0 _ ho) (fa_xn (fa_r4_0 _ ho) (by decide) hN) rfl mi_Row_at (ct_Row_at (fa_rf o 0) x5 (fa_ro (fa_r4_0 _ ho) hN hT) w _ rfl) wd_427 rfl (Nat.le_trans (Nat.le_of_ble_eq_true rfl) hle) (st := []) (Nat.le_of_ble_eq_true rfl) rfl d_Program_listFields_67 ?_
        refine g_iconst X d_Program_listFields_70 ?_
        refine g_icmp_ne X 120 d_Program_listFields_71 (by decide) (fun hc14 => ?_) (fun hc14 => ?_)
        · have hM := fa_if_f hM hc14
          refine g_iinc X 6 (fun x5_15 => [(5, .int (fa_I x5_15)), (6, .int (fa_I x6_12)), (0, .ref (b + o)), (1, .int (fa_I a1)), (2, .ref (b + a2)), (3, .int (fa_I x3)), (4, .int (fa_I x4))]) d_Program_listFields_120 rfl (by decide) (fun _ => rfl) (fun x5_15 ex5_15 => ?_)
          have hM := fa_let_to hM ex5_15
          refine g_goto X 37 d_Program_listFields_123 (by decide) ?_
          exact g_lv [2, 3, 4, 5, 6, 0] rfl (ih _ _ _ _ hM)
        · have hM := fa_if_t hM hc14
          refine g_iload X 0 rfl d_Program_listFields_74 ?_
          refine g_iload_n X 2 rfl d_Program_listFields_76 ?_
          refine g_icmp_eq X 120 d_Program_listFields_77 (by decide) (fun hc16 => ?_) (fun hc16 => ?_)
          · have hM := fa_if_t hM hc16
            refine g_iinc X 6 (fun x5_17 => [(5, .int (fa_I x5_17)), (6, .int (fa_I x6_12)), (0, .ref (b + o)), (1, .int (fa_I a1)), (2, .ref (b + a2)), (3, .int (fa_I x3)), (4, .int (fa_I x4))]) d_Program_listFields_120 rfl (by decide) (fun _ => rfl) (fun x5_17 ex5_17 => ?_)
            have hM := fa_let_to hM ex5_17
            refine g_goto X 37 d_Program_listFields_123 (by decide) ?_
            exact g_lv [2, 3, 4, 5, 6, 0] rfl (ih _ _ _ _ hM)
          · have hM := fa_if_f hM hc16
            refine g_aload_n X 3 rfl d_Program_listFields_80 ?_
            refine g_iload X 0 rfl d_Program_listFields_81 ?_
            refine g_callV_i X ck_6 ha2 (fa_xn ha2 (by decide) hN) rfl mi_Row_placeOf (ct_Row_placeOf a2 x6_12 (fa_ro ha2 hN hT) w _ rfl) wd_847 rfl (Nat.le_trans (Nat.le_of_ble_eq_true rfl) hle) (st := []) (Nat.le_of_ble_eq_true rfl) rfl d_Program_listFields_83 ?_
            refine g_iconst X d_Program_listFields_86 ?_
            refine g_icmp_ne X 120 d_Program_listFields_87 (by decide) (fun hc19 => ?_) (fun hc19 => ?_)
            · have hM := fa_if_f hM hc19
              refine g_iinc X 6 (fun x5_20 => [(5, .int (fa_I x5_20)), (6, .int (fa_I x6_12)), (0, .ref (b + o)), (1, .int (fa_I a1)), (2, .ref (b + a2)), (3, .int (fa_I x3)), (4, .int (fa_I x4))]) d_Program_listFields_120 rfl (by decide) (fun _ => rfl) (fun x5_20 ex5_20 => ?_)
              have hM := fa_let_to hM ex5_20
              refine g_goto X 37 d_Program_listFields_123 (by decide) ?_
              exact g_lv [2, 3, 4, 5, 6, 0] rfl (ih _ _ _ _ hM)
            · have hM := fa_if_t hM hc19
              refine g_aload_n X 1 rfl d_Program_listFields_90 ?_
              refine g_get X ck_4 ho (fa_xn ho (by decide) hN) 7 (by decide) wd_78 rfl (fa_fvR rfl (fa_xt ho (by decide) hT 7)) d_Program_listFields_91 ?_
              refine g_iload X 0 rfl d_Program_listFields_94 ?_
              refine g_callV_i X ck_6 (fa_r4_7 _ ho) (fa_xn (fa_r4_7 _ ho) (by decide) hN) rfl mi_Row_at (ct_Row_at (fa_rf o 7) x6_12 (fa_ro (fa_r4_7 _ ho) hN hT) w _ rfl) wd_427 rfl (Nat.le_trans (Nat.le_of_ble_eq_true rfl) hle) (st := []) (Nat.le_of_ble_eq_true rfl) rfl d_Program_listFields_96 ?_
              refine g_istore X (fun x7_22 => [(7, .int (fa_I x7_22)), (6, .int (fa_I x6_12)), (0, .ref (b + o)), (1, .int (fa_I a1)), (2, .ref (b + a2)), (3, .int (fa_I x3)), (4, .int (fa_I x4)), (5, .int (fa_I x5))]) d_Program_listFields_99 (by decide) (fun _ => rfl) (fun x7_22 ex7_22 => ?_)
              have hM := fa_let_to hM ex7_22
              refine g_iload X 0 rfl d_Program_listFields_101 ?_
              refine g_iload X 6 rfl d_Program_listFields_103 ?_
              refine g_icmp_lt X 114 d_Program_listFields_105 (by decide) (fun hc23 => ?_) (fun hc23 => ?_)
              · have hM := fa_if_t hM hc23
                exact g_lv [2, 3, 4, 5, 6, 7, 1] rfl (c_Program_listFields_j114 X hle hN hT o a1 a2 ho ha2  (fun x3 x4 x5 w9 => fm_Program_listFields_l37 o a1 a2 n x3 x4 x5 w9) (fun _ _ _ _ h => ih _ _ _ _ h)  _ _ _ _ _ hM)
              · have hM := fa_if_f hM hc23
                refine g_iload X 0 rfl d_Program_listFields_108 ?_
                refine g_iload_n X 5 rfl d_Program_listFields_110 ?_
                refine g_icmp_le X 120 d_Program_listFields_111 (by decide) (fun hc27 => ?_) (fun hc27 => ?_)
                · have hM := fa_if_t hM hc27
                  refine g_iinc X 7 (fun x5_28 => [(5, .int (fa_I x5_28)), (7, .int (fa_I x7_22)), (6, .int (fa_I x6_12)), (0, .ref (b + o)), (1, .int (fa_I a1)), (2, .ref (b + a2)), (3, .int (fa_I x3)), (4, .int (fa_I x4))]) d_Program_listFields_120 rfl (by decide) (fun _ => rfl) (fun x5_28 ex5_28 => ?_)
                  have hM := fa_let_to hM ex5_28
                  refine g_goto X 37 d_Program_listFields_123 (by decide) ?_
                  exact g_lv [3, 4, 5, 6, 7, 0] rfl (ih _ _ _ _ hM)
                · have hM := fa_if_f hM hc27
                  exact g_lv [2, 3, 4, 5, 6, 7, 1] rfl (c_Program_listFields_j114 X hle hN hT o a1 a2 ho ha2  (fun x3 x4 x5 w9 => fm_Program_listFields_l37 o a1 a2 n x3 x4 x5 w9) (fun _ _ _ _ h => ih _ _ _ _ h)  _ _ _ _ _ hM)
def fm_Program_listFields (o : Nat) (a1 : Int) (a2 : Nat) (w : fa_W) : Option fa_W :=
  fa_let (fm_Row_clear a2 w) fun w2 =>
  fa_let (fr_at (fa_rf o 9) a1 w2) fun x3_4 =>
  if fa_wr x3_4 = (-1) then
  some w2
  else
  (fa_let (fr_at (fa_rf o 3) x3_4 w2) fun x4_7 =>
  fa_let (fa_max x4_7 0) fun x5_8 =>
  fm_Program_listFields_l37 o a1 a2 fa_FU x3_4 x4_7 x5_8 w2)
set_option maxHeartbeats 4000000 in
set_option maxRecDepth 100000 in
theorem c_Program_listFields {l : Launch} {D : va_G} {b : Nat} {aC : Nat → ClassId} {H0 : Heap} {N T : Nat} (hN : fa_NX ≤ N) (hT : fa_TX ≤ T) (o : Nat) (a1 : Int) (a2 : Nat) (ho : (fa_sh o).1 = 4) (ha2 : (fa_sh a2).1 = 6)  (w : fa_W) (r : fa_W) (hM : fm_Program_listFields o a1 a2 w = some r) : fa_MC l D b aC H0 N T y_Program_listFields prog_5_method_11_code 8 ((Option.none : Option Jvm.ClassFile.FieldType)) (1) [.ref (b + o), .int (fa_I a1), .ref (b + a2)] w (none) r := by
  refine fa_enter (lv := [(0, .ref (b + o)), (1, .int (fa_I a1)), (2, .ref (b + a2))]) (by decide +kernel) (Nat.le_of_ble_eq_true rfl) rfl (fun hh hle hnm X => ?_)
  unfold fm_Program_listFields at hM
  refine g_aload_n X 2 rfl d_Program_listFields_0 ?_
  obtain ⟨w2, e1⟩ : ∃ q, fm_Row_clear a2 w = q := ⟨_, rfl⟩
  have hM := fa_let_to hM e1.symm
  refine g_callV_v X ck_6 ha2 (fa_xn ha2 (by decide) hN) rfl mi_Row_clear (c_Row_clear a2 (fa_ro ha2 hN hT) w _ e1) wd_416 rfl (Nat.le_trans (Nat.le_of_ble_eq_true rfl) hle) (st := []) (Nat.le_of_ble_eq_true rfl) rfl d_Program_listFields_1 ?_
  refine g_aload_n X 0 rfl d_Program_listFields_4 ?_
  refine g_get X ck_4 ho (fa_xn ho (by decide) hN) 9 (by decide) wd_82 rfl (fa_fvR rfl (fa_xt ho (by decide) hT 9)) d_Program_listFields_5 ?_
  refine g_iload_n X 1 rfl d_Program_listFields_8 ?_
  refine g_callV_i X ck_6 (fa_r4_9 _ ho) (fa_xn (fa_r4_9 _ ho) (by decide) hN) rfl mi_Row_at (ct_Row_at (fa_rf o 9) a1 (fa_ro (fa_r4_9 _ ho) hN hT) w2 _ rfl) wd_427 rfl (Nat.le_trans (Nat.le_of_ble_eq_true rfl) hle) (st := []) (Nat.le_of_ble_eq_true rfl) rfl d_Program_listFields_9 ?_
  refine g_istore_n X (fun x3_4 => [(3, .int (fa_I x3_4)), (0, .ref (b + o)), (1, .int (fa_I a1)), (2, .ref (b + a2))]) d_Program_listFields_12 (by decide) (fun _ => rfl) (fun x3_4 ex3_4 => ?_)
  have hM := fa_let_to hM ex3_4
  refine g_iload_n X 0 rfl d_Program_listFields_13 ?_
  refine g_iconst X d_Program_listFields_14 ?_
  refine g_icmp_ne X 19 d_Program_listFields_15 (by decide) (fun hc5 => ?_) (fun hc5 => ?_)
  · have hM := fa_if_f hM hc5
    refine g_aload_n X 1 rfl d_Program_listFields_19 ?_
    refine g_get X ck_4 ho (fa_xn ho (by decide) hN) 3 (by decide) wd_68 rfl (fa_fvR rfl (fa_xt ho (by decide) hT 3)) d_Program_listFields_20 ?_
    refine g_iload_n X 0 rfl d_Program_listFields_23 ?_
    refine g_callV_i X ck_6 (fa_r4_3 _ ho) (fa_xn (fa_r4_3 _ ho) (by decide) hN) rfl mi_Row_at (ct_Row_at (fa_rf o 3) x3_4 (fa_ro (fa_r4_3 _ ho) hN hT) w2 _ rfl) wd_427 rfl (Nat.le_trans (Nat.le_of_ble_eq_true rfl) hle) (st := []) (Nat.le_of_ble_eq_true rfl) rfl d_Program_listFields_24 ?_
    refine g_istore X (fun x4_7 => [(4, .int (fa_I x4_7)), (3, .int (fa_I x3_4)), (0, .ref (b + o)), (1, .int (fa_I a1)), (2, .ref (b + a2))]) d_Program_listFields_27 (by decide) (fun _ => rfl) (fun x4_7 ex4_7 => ?_)
    have hM := fa_let_to hM ex4_7
    refine g_iload X 0 rfl d_Program_listFields_29 ?_
    refine g_iconst X d_Program_listFields_31 ?_
    refine g_mmax X (Nat.le_trans (Nat.le_of_ble_eq_true rfl) hle) wd_846 (Nat.le_of_ble_eq_true rfl) d_Program_listFields_32 ?_
    refine g_istore X (fun x5_8 => [(5, .int (fa_I x5_8)), (4, .int (fa_I x4_7)), (3, .int (fa_I x3_4)), (0, .ref (b + o)), (1, .int (fa_I a1)), (2, .ref (b + a2))]) d_Program_listFields_35 (by decide) (fun _ => rfl) (fun x5_8 ex5_8 => ?_)
    have hM := fa_let_to hM ex5_8
    exact g_lv [3, 4, 5, 2, 1, 0] rfl (c_Program_listFields_l37 X hle hN hT o a1 a2 ho ha2   fa_FU _ _ _ _ hM)
  · have hM := fa_if_t hM hc5
    cases hM
    exact g_vret X d_Program_listFields_18
theorem d_Program_numberFunctions_0 : decode prog_5_method_13_code 0 = .ok (.aload_n 0, 1) := by decide +kernel
theorem d_Program_numberFunctions_1 : decode prog_5_method_13_code 1 = .ok (.getfield 47, 3) := by decide +kernel
theorem d_Program_numberFunctions_4 : decode prog_5_method_13_code 4 = .ok (.bipush 24, 2) := by decide +kernel
theorem d_Program_numberFunctions_6 : decode prog_5_method_13_code 6 = .ok (.iconst (-1), 1) := by decide +kernel
theorem d_Program_numberFunctions_7 : decode prog_5_method_13_code 7 = .ok (.invokevirtual 72, 3) := by decide +kernel
theorem d_Program_numberFunctions_10 : decode prog_5_method_13_code 10 = .ok (.iconst 0, 1) := by decide +kernel
theorem d_Program_numberFunctions_11 : decode prog_5_method_13_code 11 = .ok (.istore_n 3, 1) := by decide +kernel
theorem d_Program_numberFunctions_12 : decode prog_5_method_13_code 12 = .ok (.iload_n 3, 1) := by decide +kernel
theorem d_Program_numberFunctions_13 : decode prog_5_method_13_code 13 = .ok (.bipush 24, 2) := by decide +kernel
theorem d_Program_numberFunctions_15 : decode prog_5_method_13_code 15 = .ok (.if_icmp .ge 58, 3) := by decide +kernel
theorem d_Program_numberFunctions_18 : decode prog_5_method_13_code 18 = .ok (.iload_n 2, 1) := by decide +kernel
theorem d_Program_numberFunctions_19 : decode prog_5_method_13_code 19 = .ok (.iload_n 3, 1) := by decide +kernel
theorem d_Program_numberFunctions_20 : decode prog_5_method_13_code 20 = .ok (.invokestatic 127, 3) := by decide +kernel
theorem d_Program_numberFunctions_23 : decode prog_5_method_13_code 23 = .ok (.ifCond .eq 44, 3) := by decide +kernel
theorem d_Program_numberFunctions_26 : decode prog_5_method_13_code 26 = .ok (.aload_n 0, 1) := by decide +kernel
theorem d_Program_numberFunctions_27 : decode prog_5_method_13_code 27 = .ok (.getfield 47, 3) := by decide +kernel
theorem d_Program_numberFunctions_30 : decode prog_5_method_13_code 30 = .ok (.iload_n 3, 1) := by decide +kernel
theorem d_Program_numberFunctions_31 : decode prog_5_method_13_code 31 = .ok (.aload_n 0, 1) := by decide +kernel
theorem d_Program_numberFunctions_32 : decode prog_5_method_13_code 32 = .ok (.getfield 60, 3) := by decide +kernel
theorem d_Program_numberFunctions_35 : decode prog_5_method_13_code 35 = .ok (.invokevirtual 94, 3) := by decide +kernel
theorem d_Program_numberFunctions_38 : decode prog_5_method_13_code 38 = .ok (.aload_n 0, 1) := by decide +kernel
theorem d_Program_numberFunctions_39 : decode prog_5_method_13_code 39 = .ok (.getfield 35, 3) := by decide +kernel
theorem d_Program_numberFunctions_42 : decode prog_5_method_13_code 42 = .ok (.aload_n 0, 1) := by decide +kernel
theorem d_Program_numberFunctions_43 : decode prog_5_method_13_code 43 = .ok (.getfield 60, 3) := by decide +kernel
theorem d_Program_numberFunctions_46 : decode prog_5_method_13_code 46 = .ok (.aload_n 1, 1) := by decide +kernel
theorem d_Program_numberFunctions_47 : decode prog_5_method_13_code 47 = .ok (.getfield 35, 3) := by decide +kernel
theorem d_Program_numberFunctions_50 : decode prog_5_method_13_code 50 = .ok (.iload_n 3, 1) := by decide +kernel
theorem d_Program_numberFunctions_51 : decode prog_5_method_13_code 51 = .ok (.invokevirtual 85, 3) := by decide +kernel
theorem d_Program_numberFunctions_54 : decode prog_5_method_13_code 54 = .ok (.invokevirtual 94, 3) := by decide +kernel
theorem d_Program_numberFunctions_57 : decode prog_5_method_13_code 57 = .ok (.aload_n 0, 1) := by decide +kernel
theorem d_Program_numberFunctions_58 : decode prog_5_method_13_code 58 = .ok (.dup, 1) := by decide +kernel
theorem d_Program_numberFunctions_59 : decode prog_5_method_13_code 59 = .ok (.getfield 60, 3) := by decide +kernel
theorem d_Program_numberFunctions_62 : decode prog_5_method_13_code 62 = .ok (.iconst 1, 1) := by decide +kernel
theorem d_Program_numberFunctions_63 : decode prog_5_method_13_code 63 = .ok (.iadd, 1) := by decide +kernel
theorem d_Program_numberFunctions_64 : decode prog_5_method_13_code 64 = .ok (.putfield 60, 3) := by decide +kernel
theorem d_Program_numberFunctions_67 : decode prog_5_method_13_code 67 = .ok (.iinc 3 1, 3) := by decide +kernel
theorem d_Program_numberFunctions_70 : decode prog_5_method_13_code 70 = .ok (.goto (-58), 3) := by decide +kernel
theorem d_Program_numberFunctions_73 : decode prog_5_method_13_code 73 = .ok (.bipush 24, 2) := by decide +kernel
theorem d_Program_numberFunctions_75 : decode prog_5_method_13_code 75 = .ok (.istore_n 3, 1) := by decide +kernel
theorem d_Program_numberFunctions_76 : decode prog_5_method_13_code 76 = .ok (.iload_n 3, 1) := by decide +kernel
theorem d_Program_numberFunctions_77 : decode prog_5_method_13_code 77 = .ok (.bipush 74, 2) := by decide +kernel
theorem d_Program_numberFunctions_79 : decode prog_5_method_13_code 79 = .ok (.if_icmp .ge 25, 3) := by decide +kernel
theorem d_Program_numberFunctions_82 : decode prog_5_method_13_code 82 = .ok (.aload_n 0, 1) := by decide +kernel
theorem d_Program_numberFunctions_83 : decode prog_5_method_13_code 83 = .ok (.getfield 35, 3) := by decide +kernel
theorem d_Program_numberFunctions_86 : decode prog_5_method_13_code 86 = .ok (.iload_n 3, 1) := by decide +kernel
theorem d_Program_numberFunctions_87 : decode prog_5_method_13_code 87 = .ok (.aload_n 1, 1) := by decide +kernel
theorem d_Program_numberFunctions_88 : decode prog_5_method_13_code 88 = .ok (.getfield 35, 3) := by decide +kernel
theorem d_Program_numberFunctions_91 : decode prog_5_method_13_code 91 = .ok (.iload_n 3, 1) := by decide +kernel
theorem d_Program_numberFunctions_92 : decode prog_5_method_13_code 92 = .ok (.invokevirtual 85, 3) := by decide +kernel
theorem d_Program_numberFunctions_95 : decode prog_5_method_13_code 95 = .ok (.invokevirtual 94, 3) := by decide +kernel
theorem d_Program_numberFunctions_98 : decode prog_5_method_13_code 98 = .ok (.iinc 3 1, 3) := by decide +kernel
theorem d_Program_numberFunctions_101 : decode prog_5_method_13_code 101 = .ok (.goto (-25), 3) := by decide +kernel
theorem d_Program_numberFunctions_104 : decode prog_5_method_13_code 104 = .ok (.return_, 1) := by decide +kernel
def fm_Program_numberFunctions_l76 (o : Nat) (a1 : Nat) (a2 : Int) : Nat → Int → fa_W → Option fa_W
  | 0, _, _ => none
  | n + 1, x3, w => if 74 ≤ fa_wr x3 then
  some w
  else
  (fa_let (fr_set (fa_rf o 6) x3 (fr_at (fa_rf a1 6) x3 w) w) fun w7 =>
  fa_let (x3 + 1) fun x3_8 =>
  fm_Program_numberFunctions_l76 o a1 a2 n x3_8 w7)
set_option maxHeartbeats 4000000 in
set_option maxRecDepth 100000 in
theorem c_Program_numberFunctions_l76 {p : Program} {l : Launch} {e : Env} {s : State} {m : MethodId} {args : Array Value} {below : List Frame} {meth : Method} {c : Code} {hh : Nat} {D : va_G} {b : Nat} {aC : Nat → ClassId} {H0 : Heap} {N T : Nat} (X : fa_GX p s m args meth c prog_5_method_13_code 4 ((Option.none : Option Jvm.ClassFile.FieldType)) y_Program_numberFunctions.cls D b aC) (hle : 2 ≤ hh) (hN : fa_NX ≤ N) (hT : fa_TX ≤ T) (o : Nat) (a1 : Nat) (a2 : Int) (ho : (fa_sh o).1 = 4) (ha1 : (fa_sh a1).1 = 4) {r : fa_W}  : ∀ (n : Nat) (x3 : Int) (w : fa_W), fm_Program_numberFunctions_l76 o a1 a2 n x3 w = some r → fa_GJ p l e (fa_rm hh) s m args below meth c 0 0 (MQ below (fa_Qc D b aC H0 N T (none) r) args s 0 0 (fun q => b ≤ q)) D b aC H0 N T 4 w 76 [(0, .ref (b + o)), (1, .ref (b + a1)), (3, .int (fa_I x3))] [] := by
  intro n
  induction n with
  | zero => intro x3 w hM; exact fa_no hM
  | succ n ih =>
    intro x3 w hM
    rw [fm_Program_numberFunctions_l76] at hM
    refine g_iload_n X 2 rfl d_Program_numberFunctions_76 ?_
    refine g_bipush X (by decide) d_Program_numberFunctions_77 ?_
    refine g_icmp_ge X 104 d_Program_numberFunctions_79 (by decide) (fun hc4 => ?_) (fun hc4 => ?_)
    · have hM := fa_if_t hM hc4
      cases hM
      exact g_vret X d_Program_numberFunctions_104
    · have hM := fa_if_f hM hc4
      refine g_aload_n X 0 rfl d_Program_numberFunctions_82 ?_
      refine g_get X ck_4 ho (fa_xn ho (by decide) hN) 6 (by decide) wd_74 rfl (fa_fvR rfl (fa_xt ho (by decide) hT 6)) d_Program_numberFunctions_83 ?_
      refine g_iload_n X 2 rfl d_Program_numberFunctions_86 ?_
      refine g_aload_n X 1 rfl d_Program_numberFunctions_87 ?_
      refine g_get X ck_4 ha1 (fa_xn ha1 (by decide) hN) 6 (by decide) wd_74 rfl (fa_fvR rfl (fa_xt ha1 (by decide) hT 6)) d_Program_numberFunctions_88 ?_
      refine g_iload_n X 2 rfl d_Program_numberFunctions_91 ?_
      refine g_callV_i X ck_6 (fa_r4_6 _ ha1) (fa_xn (fa_r4_6 _ ha1) (by decide) hN) rfl mi_Row_at (ct_Row_at (fa_rf a1 6) x3 (fa_ro (fa_r4_6 _ ha1) hN hT) w _ rfl) wd_427 rfl (Nat.le_trans (Nat.le_of_ble_eq_true rfl) hle) (st := [.int (fa_I x3), .ref (b + (fa_rf o 6))]) (Nat.le_of_ble_eq_true rfl) rfl d_Program_numberFunctions_92 ?_
      obtain ⟨w7, e6⟩ : ∃ q, fr_set (fa_rf o 6) x3 (fr_at (fa_rf a1 6) x3 w) w = q := ⟨_, rfl⟩
      have hM := fa_let_to hM e6.symm
      refine g_callV_v X ck_6 (fa_r4_6 _ ho) (fa_xn (fa_r4_6 _ ho) (by decide) hN) rfl mi_Row_set (ct_Row_set (fa_rf o 6) x3 (fr_at (fa_rf a1 6) x3 w) (fa_ro (fa_r4_6 _ ho) hN hT) w _ e6) wd_431 rfl (Nat.le_trans (Nat.le_of_ble_eq_true rfl) hle) (st := []) (Nat.le_of_ble_eq_true rfl) rfl d_Program_numberFunctions_95 ?_
      refine g_iinc X 2 (fun x3_8 => [(3, .int (fa_I x3_8)), (0, .ref (b + o)), (1, .ref (b + a1))]) d_Program_numberFunctions_98 rfl (by decide) (fun _ => rfl) (fun x3_8 ex3_8 => ?_)
      have hM := fa_let_to hM ex3_8
      refine g_goto X 76 d_Program_numberFunctions_101 (by decide) ?_
      exact g_lv [1, 2, 0] rfl (ih _ _ hM)
def fm_Program_numberFunctions_l12 (o : Nat) (a1 : Nat) (a2 : Int) : Nat → Int → fa_W → Option fa_W
  | 0, _, _ => none
  | n + 1, x3, w => if 24 ≤ fa_wr x3 then
  fm_Program_numberFunctions_l76 o a1 a2 fa_FU 24 w
  else
  (if fm_Face_hasBit a2 x3 w = true then
  (fa_let (fr_set (fa_rf o 10) x3 (w o 14) w) fun w13 =>
  fa_let (fr_set (fa_rf o 6) (w13 o 14) (fr_at (fa_rf a1 6) x3 w13) w13) fun w16 =>
  fa_let (fa_st w16 o 14 ((w16 o 14) + 1)) fun w17 =>
  fa_let (x3 + 1) fun x3_18 =>
  fm_Program_numberFunctions_l12 o a1 a2 n x3_18 w17)
  else
  (fa_let (x3 + 1) fun x3_11 =>
  fm_Program_numberFunctions_l12 o a1 a2 n x3_11 w))
set_option maxHeartbeats 4000000 in
set_option maxRecDepth 100000 in
theorem c_Program_numberFunctions_l12 {p : Program} {l : Launch} {e : Env} {s : State} {m : MethodId} {args : Array Value} {below : List Frame} {meth : Method} {c : Code} {hh : Nat} {D : va_G} {b : Nat} {aC : Nat → ClassId} {H0 : Heap} {N T : Nat} (X : fa_GX p s m args meth c prog_5_method_13_code 4 ((Option.none : Option Jvm.ClassFile.FieldType)) y_Program_numberFunctions.cls D b aC) (hle : 2 ≤ hh) (hN : fa_NX ≤ N) (hT : fa_TX ≤ T) (o : Nat) (a1 : Nat) (a2 : Int) (ho : (fa_sh o).1 = 4) (ha1 : (fa_sh a1).1 = 4) {r : fa_W}  : ∀ (n : Nat) (x3 : Int) (w : fa_W), fm_Program_numberFunctions_l12 o a1 a2 n x3 w = some r → fa_GJ p l e (fa_rm hh) s m args below meth c 0 0 (MQ below (fa_Qc D b aC H0 N T (none) r) args s 0 0 (fun q => b ≤ q)) D b aC H0 N T 4 w 12 [(0, .ref (b + o)), (1, .ref (b + a1)), (2, .int (fa_I a2)), (3, .int (fa_I x3))] [] := by
  intro n
  induction n with
  | zero => intro x3 w hM; exact fa_no hM
  | succ n ih =>
    intro x3 w hM
    rw [fm_Program_numberFunctions_l12] at hM
    refine g_iload_n X 3 rfl d_Program_numberFunctions_12 ?_
    refine g_bipush X (by decide) d_Program_numberFunctions_13 ?_
    refine g_icmp_ge X 73 d_Program_numberFunctions_15 (by decide) (fun hc3 => ?_) (fun hc3 => ?_)
    · have hM := fa_if_t hM hc3
      refine g_bipush X (by decide) d_Program_numberFunctions_73 ?_
      refine g_istorec_n X [(3, .int (fa_I 24)), (0, .ref (b + o)), (1, .ref (b + a1)), (2, .int (fa_I a2))] d_Program_numberFunctions_75 (by decide) rfl ?_
      exact g_lv [1, 2, 0] rfl (c_Program_numberFunctions_l76 X hle hN hT o a1 a2 ho ha1   fa_FU _ _ hM)
    · have hM := fa_if_f hM hc3
      refine g_iload_n X 2 rfl d_Program_numberFunctions_18 ?_
      refine g_iload_n X 3 rfl d_Program_numberFunctions_19 ?_
      refine g_callSN_i X mi_Face_hasBit (c_Face_hasBit hN hT a2 x3 w _ rfl) wd_729 rfl (Nat.le_trans (Nat.le_of_ble_eq_true rfl) hle) (st := []) (Nat.le_of_ble_eq_true rfl) rfl d_Program_numberFunctions_20 ?_
      refine g_ifb_eq X 67 d_Program_numberFunctions_23 (by decide) (fun hc10 => ?_) (fun hc10 => ?_)
      · have hM := fa_ifb_f hM hc10
        refine g_iinc X 3 (fun x3_11 => [(3, .int (fa_I x3_11)), (0, .ref (b + o)), (1, .ref (b + a1)), (2, .int (fa_I a2))]) d_Program_numberFunctions_67 rfl (by decide) (fun _ => rfl) (fun x3_11 ex3_11 => ?_)
        have hM := fa_let_to hM ex3_11
        refine g_goto X 12 d_Program_numberFunctions_70 (by decide) ?_
        exact g_lv [1, 2, 3, 0] rfl (ih _ _ hM)
      · have hM := fa_ifb_t hM hc10
        refine g_aload_n X 0 rfl d_Program_numberFunctions_26 ?_
        refine g_get X ck_4 ho (fa_xn ho (by decide) hN) 10 (by decide) wd_88 rfl (fa_fvR rfl (fa_xt ho (by decide) hT 10)) d_Program_numberFunctions_27 ?_
        refine g_iload_n X 3 rfl d_Program_numberFunctions_30 ?_
        refine g_aload_n X 0 rfl d_Program_numberFunctions_31 ?_
        refine g_get X ck_4 ho (fa_xn ho (by decide) hN) 14 (by decide) wd_96 rfl (fa_fvI rfl) d_Program_numberFunctions_32 ?_
        obtain ⟨w13, e12⟩ : ∃ q, fr_set (fa_rf o 10) x3 (w o 14) w = q := ⟨_, rfl⟩
        have hM := fa_let_to hM e12.symm
        refine g_callV_v X ck_6 (fa_r4_10 _ ho) (fa_xn (fa_r4_10 _ ho) (by decide) hN) rfl mi_Row_set (ct_Row_set (fa_rf o 10) x3 (w o 14) (fa_ro (fa_r4_10 _ ho) hN hT) w _ e12) wd_431 rfl (Nat.le_trans (Nat.le_of_ble_eq_true rfl) hle) (st := []) (Nat.le_of_ble_eq_true rfl) rfl d_Program_numberFunctions_35 ?_
        refine g_aload_n X 0 rfl d_Program_numberFunctions_38 ?_
        refine g_get X ck_4 ho (fa_xn ho (by decide) hN) 6 (by decide) wd_74 rfl (fa_fvR rfl (fa_xt ho (by decide) hT 6)) d_Program_numberFunctions_39 ?_
        refine g_aload_n X 0 rfl d_Program_numberFunctions_42 ?_
        refine g_get X ck_4 ho (fa_xn ho (by decide) hN) 14 (by decide) wd_96 rfl (fa_fvI rfl) d_Program_numberFunctions_43 ?_
        refine g_aload_n X 1 rfl d_Program_numberFunctions_46 ?_
        refine g_get X ck_4 ha1 (fa_xn ha1 (by decide) hN) 6 (by decide) wd_74 rfl (fa_fvR rfl (fa_xt ha1 (by decide) hT 6)) d_Program_numberFunctions_47 ?_
        refine g_iload_n X 3 rfl d_Program_numberFunctions_50 ?_
        refine g_callV_i X ck_6 (fa_r4_6 _ ha1) (fa_xn (fa_r4_6 _ ha1) (by decide) hN) rfl mi_Row_at (ct_Row_at (fa_rf a1 6) x3 (fa_ro (fa_r4_6 _ ha1) hN hT) w13 _ rfl) wd_427 rfl (Nat.le_trans (Nat.le_of_ble_eq_true rfl) hle) (st := [.int (fa_I (w13 o 14)), .ref (b + (fa_rf o 6))]) (Nat.le_of_ble_eq_true rfl) rfl d_Program_numberFunctions_51 ?_
        obtain ⟨w16, e15⟩ : ∃ q, fr_set (fa_rf o 6) (w13 o 14) (fr_at (fa_rf a1 6) x3 w13) w13 = q := ⟨_, rfl⟩
        have hM := fa_let_to hM e15.symm
        refine g_callV_v X ck_6 (fa_r4_6 _ ho) (fa_xn (fa_r4_6 _ ho) (by decide) hN) rfl mi_Row_set (ct_Row_set (fa_rf o 6) (w13 o 14) (fr_at (fa_rf a1 6) x3 w13) (fa_ro (fa_r4_6 _ ho) hN hT) w13 _ e15) wd_431 rfl (Nat.le_trans (Nat.le_of_ble_eq_true rfl) hle) (st := []) (Nat.le_of_ble_eq_true rfl) rfl d_Program_numberFunctions_54 ?_
        refine g_aload_n X 0 rfl d_Program_numberFunctions_57 ?_
        refine g_dup X rfl d_Program_numberFunctions_58 ?_
        refine g_get X ck_4 ho (fa_xn ho (by decide) hN) 14 (by decide) wd_96 rfl (fa_fvI rfl) d_Program_numberFunctions_59 ?_
        refine g_iconst X d_Program_numberFunctions_62 ?_
        refine g_iadd X d_Program_numberFunctions_63 ?_
        refine g_put X ck_4 ho (fa_xn ho (by decide) hN) 14 (z := ((w16 o 14) + 1)) (by decide) wd_96 rfl (fa_fvI' rfl) rfl rfl rfl d_Program_numberFunctions_64 (fun w17 ew17 => ?_)
        have hM := fa_let_to hM ew17
        refine g_iinc X 3 (fun x3_18 => [(3, .int (fa_I x3_18)), (0, .ref (b + o)), (1, .ref (b + a1)), (2, .int (fa_I a2))]) d_Program_numberFunctions_67 rfl (by decide) (fun _ => rfl) (fun x3_18 ex3_18 => ?_)
        have hM := fa_let_to hM ex3_18
        refine g_goto X 12 d_Program_numberFunctions_70 (by decide) ?_
        exact g_lv [1, 2, 3, 0] rfl (ih _ _ hM)
def fm_Program_numberFunctions (o : Nat) (a1 : Nat) (a2 : Int) (w : fa_W) : Option fa_W :=
  fa_let (fr_refill (fa_rf o 10) 24 (-1) w) fun w2 =>
  fm_Program_numberFunctions_l12 o a1 a2 fa_FU 0 w2
set_option maxHeartbeats 4000000 in
set_option maxRecDepth 100000 in
theorem c_Program_numberFunctions {l : Launch} {D : va_G} {b : Nat} {aC : Nat → ClassId} {H0 : Heap} {N T : Nat} (hN : fa_NX ≤ N) (hT : fa_TX ≤ T) (o : Nat) (a1 : Nat) (a2 : Int) (ho : (fa_sh o).1 = 4) (ha1 : (fa_sh a1).1 = 4)  (w : fa_W) (r : fa_W) (hM : fm_Program_numberFunctions o a1 a2 w = some r) : fa_MC l D b aC H0 N T y_Program_numberFunctions prog_5_method_13_code 4 ((Option.none : Option Jvm.ClassFile.FieldType)) (2) [.ref (b + o), .ref (b + a1), .int (fa_I a2)] w (none) r := by
  refine fa_enter (lv := [(0, .ref (b + o)), (1, .ref (b + a1)), (2, .int (fa_I a2))]) (by decide +kernel) (Nat.le_of_ble_eq_true rfl) rfl (fun hh hle hnm X => ?_)
  unfold fm_Program_numberFunctions at hM
  refine g_aload_n X 0 rfl d_Program_numberFunctions_0 ?_
  refine g_get X ck_4 ho (fa_xn ho (by decide) hN) 10 (by decide) wd_88 rfl (fa_fvR rfl (fa_xt ho (by decide) hT 10)) d_Program_numberFunctions_1 ?_
  refine g_bipush X (by decide) d_Program_numberFunctions_4 ?_
  refine g_iconst X d_Program_numberFunctions_6 ?_
  obtain ⟨w2, e1⟩ : ∃ q, fr_refill (fa_rf o 10) 24 (-1) w = q := ⟨_, rfl⟩
  have hM := fa_let_to hM e1.symm
  refine g_callV_v X ck_6 (fa_r4_10 _ ho) (fa_xn (fa_r4_10 _ ho) (by decide) hN) rfl mi_Row_refill (ct_Row_refill (fa_rf o 10) 24 (-1) (fa_ro (fa_r4_10 _ ho) hN hT) w _ e1) wd_417 rfl (Nat.le_trans (Nat.le_of_ble_eq_true rfl) hle) (st := []) (Nat.le_of_ble_eq_true rfl) rfl d_Program_numberFunctions_7 ?_
  refine g_iconst X d_Program_numberFunctions_10 ?_
  refine g_istorec_n X [(3, .int (fa_I 0)), (0, .ref (b + o)), (1, .ref (b + a1)), (2, .int (fa_I a2))] d_Program_numberFunctions_11 (by decide) rfl ?_
  exact g_lv [1, 2, 3, 0] rfl (c_Program_numberFunctions_l12 X hle hN hT o a1 a2 ho ha1   fa_FU _ _ hM)
theorem d_Program_losesBody_0 : decode prog_5_method_15_code 0 = .ok (.aload_n 0, 1) := by decide +kernel
theorem d_Program_losesBody_1 : decode prog_5_method_15_code 1 = .ok (.getfield 14, 3) := by decide +kernel
theorem d_Program_losesBody_4 : decode prog_5_method_15_code 4 = .ok (.iload_n 1, 1) := by decide +kernel
theorem d_Program_losesBody_5 : decode prog_5_method_15_code 5 = .ok (.invokevirtual 85, 3) := by decide +kernel
theorem d_Program_losesBody_8 : decode prog_5_method_15_code 8 = .ok (.iconst 5, 1) := by decide +kernel
theorem d_Program_losesBody_9 : decode prog_5_method_15_code 9 = .ok (.if_icmp .ne 22, 3) := by decide +kernel
theorem d_Program_losesBody_12 : decode prog_5_method_15_code 12 = .ok (.iload_n 2, 1) := by decide +kernel
theorem d_Program_losesBody_13 : decode prog_5_method_15_code 13 = .ok (.aload_n 0, 1) := by decide +kernel
theorem d_Program_losesBody_14 : decode prog_5_method_15_code 14 = .ok (.getfield 20, 3) := by decide +kernel
theorem d_Program_losesBody_17 : decode prog_5_method_15_code 17 = .ok (.iload_n 1, 1) := by decide +kernel
theorem d_Program_losesBody_18 : decode prog_5_method_15_code 18 = .ok (.invokevirtual 85, 3) := by decide +kernel
theorem d_Program_losesBody_21 : decode prog_5_method_15_code 21 = .ok (.invokestatic 127, 3) := by decide +kernel
theorem d_Program_losesBody_24 : decode prog_5_method_15_code 24 = .ok (.ifCond .ne 7, 3) := by decide +kernel
theorem d_Program_losesBody_27 : decode prog_5_method_15_code 27 = .ok (.iconst 1, 1) := by decide +kernel
theorem d_Program_losesBody_28 : decode prog_5_method_15_code 28 = .ok (.goto 4, 3) := by decide +kernel
theorem d_Program_losesBody_31 : decode prog_5_method_15_code 31 = .ok (.iconst 0, 1) := by decide +kernel
theorem d_Program_losesBody_32 : decode prog_5_method_15_code 32 = .ok (.ireturn, 1) := by decide +kernel
def fm_Program_losesBody (a1 : Nat) (a2 : Int) (a3 : Int) (w : fa_W) : Bool :=
  if fa_wr (fr_at (fa_rf a1 0) a2 w) = 5 then
  (if fm_Face_hasBit a3 (fr_at (fa_rf a1 1) a2 w) w = true then
  false
  else
  true)
  else
  false
set_option maxHeartbeats 4000000 in
set_option maxRecDepth 100000 in
theorem c_Program_losesBody {l : Launch} {D : va_G} {b : Nat} {aC : Nat → ClassId} {H0 : Heap} {N T : Nat} (hN : fa_NX ≤ N) (hT : fa_TX ≤ T) (a1 : Nat) (a2 : Int) (a3 : Int) (ha1 : (fa_sh a1).1 = 4)  (w : fa_W) (r : Bool) (hM : fm_Program_losesBody a1 a2 a3 w = r) : fa_MC l D b aC H0 N T y_Program_losesBody prog_5_method_15_code 3 ((Option.some Jvm.ClassFile.FieldType.boolean)) (1) [.ref (b + a1), .int (fa_I a2), .int (fa_I a3)] w (some (.int (fa_I (fa_bi r)))) w := by
  refine fa_enter (lv := [(0, .ref (b + a1)), (1, .int (fa_I a2)), (2, .int (fa_I a3))]) (by decide +kernel) (Nat.le_of_ble_eq_true rfl) rfl (fun hh hle hnm X => ?_)
  unfold fm_Program_losesBody at hM
  refine g_aload_n X 0 rfl d_Program_losesBody_0 ?_
  refine g_get X ck_4 ha1 (fa_xn ha1 (by decide) hN) 0 (by decide) wd_65 rfl (fa_fvR rfl (fa_xt ha1 (by decide) hT 0)) d_Program_losesBody_1 ?_
  refine g_iload_n X 1 rfl d_Program_losesBody_4 ?_
  refine g_callV_i X ck_6 (fa_r4_0 _ ha1) (fa_xn (fa_r4_0 _ ha1) (by decide) hN) rfl mi_Row_at (ct_Row_at (fa_rf a1 0) a2 (fa_ro (fa_r4_0 _ ha1) hN hT) w _ rfl) wd_427 rfl (Nat.le_trans (Nat.le_of_ble_eq_true rfl) hle) (st := []) (Nat.le_of_ble_eq_true rfl) rfl d_Program_losesBody_5 ?_
  refine g_iconst X d_Program_losesBody_8 ?_
  refine g_icmp_ne X 31 d_Program_losesBody_9 (by decide) (fun hc2 => ?_) (fun hc2 => ?_)
  · have hM := fa_if_f hM hc2
    refine g_iconst X d_Program_losesBody_31 ?_
    subst hM
    exact g_zret X rfl d_Program_losesBody_32
  · have hM := fa_if_t hM hc2
    refine g_iload_n X 2 rfl d_Program_losesBody_12 ?_
    refine g_aload_n X 0 rfl d_Program_losesBody_13 ?_
    refine g_get X ck_4 ha1 (fa_xn ha1 (by decide) hN) 1 (by decide) wd_66 rfl (fa_fvR rfl (fa_xt ha1 (by decide) hT 1)) d_Program_losesBody_14 ?_
    refine g_iload_n X 1 rfl d_Program_losesBody_17 ?_
    refine g_callV_i X ck_6 (fa_r4_1 _ ha1) (fa_xn (fa_r4_1 _ ha1) (by decide) hN) rfl mi_Row_at (ct_Row_at (fa_rf a1 1) a2 (fa_ro (fa_r4_1 _ ha1) hN hT) w _ rfl) wd_427 rfl (Nat.le_trans (Nat.le_of_ble_eq_true rfl) hle) (st := [.int (fa_I a3)]) (Nat.le_of_ble_eq_true rfl) rfl d_Program_losesBody_18 ?_
    refine g_callSN_i X mi_Face_hasBit (c_Face_hasBit hN hT a3 (fr_at (fa_rf a1 1) a2 w) w _ rfl) wd_729 rfl (Nat.le_trans (Nat.le_of_ble_eq_true rfl) hle) (st := []) (Nat.le_of_ble_eq_true rfl) rfl d_Program_losesBody_21 ?_
    refine g_ifb_ne X 31 d_Program_losesBody_24 (by decide) (fun hc5 => ?_) (fun hc5 => ?_)
    · have hM := fa_ifb_t hM hc5
      refine g_iconst X d_Program_losesBody_31 ?_
      subst hM
      exact g_zret X rfl d_Program_losesBody_32
    · have hM := fa_ifb_f hM hc5
      refine g_iconst X d_Program_losesBody_27 ?_
      refine g_goto X 32 d_Program_losesBody_28 (by decide) ?_
      subst hM
      exact g_zret X rfl d_Program_losesBody_32
theorem d_Program_markThings_0 : decode prog_5_method_14_code 0 = .ok (.aload_n 0, 1) := by decide +kernel
theorem d_Program_markThings_1 : decode prog_5_method_14_code 1 = .ok (.getfield 50, 3) := by decide +kernel
theorem d_Program_markThings_4 : decode prog_5_method_14_code 4 = .ok (.aload_n 1, 1) := by decide +kernel
theorem d_Program_markThings_5 : decode prog_5_method_14_code 5 = .ok (.invokevirtual 117, 3) := by decide +kernel
theorem d_Program_markThings_8 : decode prog_5_method_14_code 8 = .ok (.iconst (-1), 1) := by decide +kernel
theorem d_Program_markThings_9 : decode prog_5_method_14_code 9 = .ok (.invokevirtual 72, 3) := by decide +kernel
theorem d_Program_markThings_12 : decode prog_5_method_14_code 12 = .ok (.aload_n 0, 1) := by decide +kernel
theorem d_Program_markThings_13 : decode prog_5_method_14_code 13 = .ok (.getfield 50, 3) := by decide +kernel
theorem d_Program_markThings_16 : decode prog_5_method_14_code 16 = .ok (.aload_n 1, 1) := by decide +kernel
theorem d_Program_markThings_17 : decode prog_5_method_14_code 17 = .ok (.getfield 66, 3) := by decide +kernel
theorem d_Program_markThings_20 : decode prog_5_method_14_code 20 = .ok (.iconst 0, 1) := by decide +kernel
theorem d_Program_markThings_21 : decode prog_5_method_14_code 21 = .ok (.invokevirtual 94, 3) := by decide +kernel
theorem d_Program_markThings_24 : decode prog_5_method_14_code 24 = .ok (.iconst 0, 1) := by decide +kernel
theorem d_Program_markThings_25 : decode prog_5_method_14_code 25 = .ok (.istore_n 3, 1) := by decide +kernel
theorem d_Program_markThings_26 : decode prog_5_method_14_code 26 = .ok (.iload_n 3, 1) := by decide +kernel
theorem d_Program_markThings_27 : decode prog_5_method_14_code 27 = .ok (.aload_n 1, 1) := by decide +kernel
theorem d_Program_markThings_28 : decode prog_5_method_14_code 28 = .ok (.getfield 56, 3) := by decide +kernel
theorem d_Program_markThings_31 : decode prog_5_method_14_code 31 = .ok (.if_icmp .ge 45, 3) := by decide +kernel
theorem d_Program_markThings_34 : decode prog_5_method_14_code 34 = .ok (.aload_n 0, 1) := by decide +kernel
theorem d_Program_markThings_35 : decode prog_5_method_14_code 35 = .ok (.getfield 47, 3) := by decide +kernel
theorem d_Program_markThings_38 : decode prog_5_method_14_code 38 = .ok (.iload_n 3, 1) := by decide +kernel
theorem d_Program_markThings_39 : decode prog_5_method_14_code 39 = .ok (.invokevirtual 85, 3) := by decide +kernel
theorem d_Program_markThings_42 : decode prog_5_method_14_code 42 = .ok (.iconst (-1), 1) := by decide +kernel
theorem d_Program_markThings_43 : decode prog_5_method_14_code 43 = .ok (.if_icmp .eq 27, 3) := by decide +kernel
theorem d_Program_markThings_46 : decode prog_5_method_14_code 46 = .ok (.iload_n 2, 1) := by decide +kernel
theorem d_Program_markThings_47 : decode prog_5_method_14_code 47 = .ok (.iload_n 3, 1) := by decide +kernel
theorem d_Program_markThings_48 : decode prog_5_method_14_code 48 = .ok (.invokestatic 127, 3) := by decide +kernel
theorem d_Program_markThings_51 : decode prog_5_method_14_code 51 = .ok (.ifCond .eq 19, 3) := by decide +kernel
theorem d_Program_markThings_54 : decode prog_5_method_14_code 54 = .ok (.aload_n 0, 1) := by decide +kernel
theorem d_Program_markThings_55 : decode prog_5_method_14_code 55 = .ok (.getfield 50, 3) := by decide +kernel
theorem d_Program_markThings_58 : decode prog_5_method_14_code 58 = .ok (.aload_n 1, 1) := by decide +kernel
theorem d_Program_markThings_59 : decode prog_5_method_14_code 59 = .ok (.getfield 44, 3) := by decide +kernel
theorem d_Program_markThings_62 : decode prog_5_method_14_code 62 = .ok (.iload_n 3, 1) := by decide +kernel
theorem d_Program_markThings_63 : decode prog_5_method_14_code 63 = .ok (.invokevirtual 85, 3) := by decide +kernel
theorem d_Program_markThings_66 : decode prog_5_method_14_code 66 = .ok (.iconst 0, 1) := by decide +kernel
theorem d_Program_markThings_67 : decode prog_5_method_14_code 67 = .ok (.invokevirtual 94, 3) := by decide +kernel
theorem d_Program_markThings_70 : decode prog_5_method_14_code 70 = .ok (.iinc 3 1, 3) := by decide +kernel
theorem d_Program_markThings_73 : decode prog_5_method_14_code 73 = .ok (.goto (-47), 3) := by decide +kernel
theorem d_Program_markThings_76 : decode prog_5_method_14_code 76 = .ok (.aload_n 1, 1) := by decide +kernel
theorem d_Program_markThings_77 : decode prog_5_method_14_code 77 = .ok (.invokevirtual 117, 3) := by decide +kernel
theorem d_Program_markThings_80 : decode prog_5_method_14_code 80 = .ok (.iconst 1, 1) := by decide +kernel
theorem d_Program_markThings_81 : decode prog_5_method_14_code 81 = .ok (.isub, 1) := by decide +kernel
theorem d_Program_markThings_82 : decode prog_5_method_14_code 82 = .ok (.istore_n 3, 1) := by decide +kernel
theorem d_Program_markThings_83 : decode prog_5_method_14_code 83 = .ok (.iload_n 3, 1) := by decide +kernel
theorem d_Program_markThings_84 : decode prog_5_method_14_code 84 = .ok (.ifCond .lt 60, 3) := by decide +kernel
theorem d_Program_markThings_87 : decode prog_5_method_14_code 87 = .ok (.aload_n 0, 1) := by decide +kernel
theorem d_Program_markThings_88 : decode prog_5_method_14_code 88 = .ok (.getfield 50, 3) := by decide +kernel
theorem d_Program_markThings_91 : decode prog_5_method_14_code 91 = .ok (.iload_n 3, 1) := by decide +kernel
theorem d_Program_markThings_92 : decode prog_5_method_14_code 92 = .ok (.invokevirtual 85, 3) := by decide +kernel
theorem d_Program_markThings_95 : decode prog_5_method_14_code 95 = .ok (.iconst (-1), 1) := by decide +kernel
theorem d_Program_markThings_96 : decode prog_5_method_14_code 96 = .ok (.if_icmp .eq 42, 3) := by decide +kernel
theorem d_Program_markThings_99 : decode prog_5_method_14_code 99 = .ok (.aload_n 1, 1) := by decide +kernel
theorem d_Program_markThings_100 : decode prog_5_method_14_code 100 = .ok (.iload_n 3, 1) := by decide +kernel
theorem d_Program_markThings_101 : decode prog_5_method_14_code 101 = .ok (.iload_n 2, 1) := by decide +kernel
theorem d_Program_markThings_102 : decode prog_5_method_14_code 102 = .ok (.invokestatic 131, 3) := by decide +kernel
theorem d_Program_markThings_105 : decode prog_5_method_14_code 105 = .ok (.ifCond .ne 33, 3) := by decide +kernel
theorem d_Program_markThings_108 : decode prog_5_method_14_code 108 = .ok (.iconst 0, 1) := by decide +kernel
theorem d_Program_markThings_109 : decode prog_5_method_14_code 109 = .ok (.istore 4, 2) := by decide +kernel
theorem d_Program_markThings_111 : decode prog_5_method_14_code 111 = .ok (.iload 4, 2) := by decide +kernel
theorem d_Program_markThings_113 : decode prog_5_method_14_code 113 = .ok (.iconst 3, 1) := by decide +kernel
theorem d_Program_markThings_114 : decode prog_5_method_14_code 114 = .ok (.if_icmp .ge 24, 3) := by decide +kernel
theorem d_Program_markThings_117 : decode prog_5_method_14_code 117 = .ok (.aload_n 0, 1) := by decide +kernel
theorem d_Program_markThings_118 : decode prog_5_method_14_code 118 = .ok (.getfield 50, 3) := by decide +kernel
theorem d_Program_markThings_121 : decode prog_5_method_14_code 121 = .ok (.aload_n 1, 1) := by decide +kernel
theorem d_Program_markThings_122 : decode prog_5_method_14_code 122 = .ok (.iload_n 3, 1) := by decide +kernel
theorem d_Program_markThings_123 : decode prog_5_method_14_code 123 = .ok (.iload 4, 2) := by decide +kernel
theorem d_Program_markThings_125 : decode prog_5_method_14_code 125 = .ok (.invokevirtual 135, 3) := by decide +kernel
theorem d_Program_markThings_128 : decode prog_5_method_14_code 128 = .ok (.iconst 0, 1) := by decide +kernel
theorem d_Program_markThings_129 : decode prog_5_method_14_code 129 = .ok (.invokevirtual 94, 3) := by decide +kernel
theorem d_Program_markThings_132 : decode prog_5_method_14_code 132 = .ok (.iinc 4 1, 3) := by decide +kernel
theorem d_Program_markThings_135 : decode prog_5_method_14_code 135 = .ok (.goto (-24), 3) := by decide +kernel
theorem d_Program_markThings_138 : decode prog_5_method_14_code 138 = .ok (.iinc 3 (-1), 3) := by decide +kernel
theorem d_Program_markThings_141 : decode prog_5_method_14_code 141 = .ok (.goto (-58), 3) := by decide +kernel
theorem d_Program_markThings_144 : decode prog_5_method_14_code 144 = .ok (.return_, 1) := by decide +kernel
def fm_Program_markThings_l111 (o : Nat) (a1 : Nat) (a2 : Int) (k83 : Int → fa_W → Option fa_W) : Nat → Int → Int → fa_W → Option fa_W
  | 0, _, _, _ => none
  | n + 1, x3, x4, w => if 3 ≤ fa_wr x4 then
  (fa_let (x3 + (-1)) fun x3_17 =>
  k83 x3_17 w)
  else
  (fa_let (fr_set (fa_rf o 11) (fm_Program_part a1 x3 x4 w) 0 w) fun w20 =>
  fa_let (x4 + 1) fun x4_21 =>
  fm_Program_markThings_l111 o a1 a2 k83 n x3 x4_21 w20)
set_option maxHeartbeats 4000000 in
set_option maxRecDepth 100000 in
theorem c_Program_markThings_l111 {p : Program} {l : Launch} {e : Env} {s : State} {m : MethodId} {args : Array Value} {below : List Frame} {meth : Method} {c : Code} {hh : Nat} {D : va_G} {b : Nat} {aC : Nat → ClassId} {H0 : Heap} {N T : Nat} (X : fa_GX p s m args meth c prog_5_method_14_code 5 ((Option.none : Option Jvm.ClassFile.FieldType)) y_Program_markThings.cls D b aC) (hle : 2 ≤ hh) (hN : fa_NX ≤ N) (hT : fa_TX ≤ T) (o : Nat) (a1 : Nat) (a2 : Int) (ho : (fa_sh o).1 = 4) (ha1 : (fa_sh a1).1 = 4) {r : fa_W} (k83 : Int → fa_W → Option fa_W) (K83 : ∀ (x3 : Int) (w : fa_W), k83 x3 w = some r → fa_GJ p l e (fa_rm hh) s m args below meth c 0 0 (MQ below (fa_Qc D b aC H0 N T (none) r) args s 0 0 (fun q => b ≤ q)) D b aC H0 N T 5 w 83 [(0, .ref (b + o)), (1, .ref (b + a1)), (2, .int (fa_I a2)), (3, .int (fa_I x3))] []) : ∀ (n : Nat) (x3 : Int) (x4 : Int) (w : fa_W), fm_Program_markThings_l111 o a1 a2 k83 n x3 x4 w = some r → fa_GJ p l e (fa_rm hh) s m args below meth c 0 0 (MQ below (fa_Qc D b aC H0 N T (none) r) args s 0 0 (fun q => b ≤ q)) D b aC H0 N T 5 w 111 [(0, .ref (b + o)), (1, .ref (b + a1)), (2, .int (fa_I a2)), (3, .int (fa_I x3)), (4, .int (fa_I x4))] [] := by
  intro n
  induction n with
  | zero => intro x3 x4 w hM; exact fa_no hM
  | succ n ih =>
    intro x3 x4 w hM
    rw [fm_Program_markThings_l111] at hM
    refine g_iload X 4 rfl d_Program_markThings_111 ?_
    refine g_iconst X d_Program_markThings_113 ?_
    refine g_icmp_ge X 138 d_Program_markThings_114 (by decide) (fun hc16 => ?_) (fun hc16 => ?_)
    · have hM := fa_if_t hM hc16
      refine g_iinc X 3 (fun x3_17 => [(3, .int (fa_I x3_17)), (0, .ref (b + o)), (1, .ref (b + a1)), (2, .int (fa_I a2)), (4, .int (fa_I x4))]) d_Program_markThings_138 rfl (by decide) (fun _ => rfl) (fun x3_17 ex3_17 => ?_)
      have hM := fa_let_to hM ex3_17
      refine g_goto X 83 d_Program_markThings_141 (by decide) ?_
      exact g_lv [1, 2, 3, 0] rfl (K83 _ _ hM)
    · have hM := fa_if_f hM hc16
      refine g_aload_n X 0 rfl d_Program_markThings_117 ?_
      refine g_get X ck_4 ho (fa_xn ho (by decide) hN) 11 (by decide) wd_89 rfl (fa_fvR rfl (fa_xt ho (by decide) hT 11)) d_Program_markThings_118 ?_
      refine g_aload_n X 1 rfl d_Program_markThings_121 ?_
      refine g_iload_n X 3 rfl d_Program_markThings_122 ?_
      refine g_iload X 4 rfl d_Program_markThings_123 ?_
      refine g_callV_i X ck_4 ha1 (fa_xn ha1 (by decide) hN) rfl mi_Program_part (c_Program_part hN hT a1 x3 x4 ha1 w _ rfl) wd_738 rfl (Nat.le_trans (Nat.le_of_ble_eq_true rfl) hle) (st := [.ref (b + (fa_rf o 11))]) (Nat.le_of_ble_eq_true rfl) rfl d_Program_markThings_125 ?_
      refine g_iconst X d_Program_markThings_128 ?_
      obtain ⟨w20, e19⟩ : ∃ q, fr_set (fa_rf o 11) (fm_Program_part a1 x3 x4 w) 0 w = q := ⟨_, rfl⟩
      have hM := fa_let_to hM e19.symm
      refine g_callV_v X ck_6 (fa_r4_11 _ ho) (fa_xn (fa_r4_11 _ ho) (by decide) hN) rfl mi_Row_set (ct_Row_set (fa_rf o 11) (fm_Program_part a1 x3 x4 w) 0 (fa_ro (fa_r4_11 _ ho) hN hT) w _ e19) wd_431 rfl (Nat.le_trans (Nat.le_of_ble_eq_true rfl) hle) (st := []) (Nat.le_of_ble_eq_true rfl) rfl d_Program_markThings_129 ?_
      refine g_iinc X 4 (fun x4_21 => [(4, .int (fa_I x4_21)), (0, .ref (b + o)), (1, .ref (b + a1)), (2, .int (fa_I a2)), (3, .int (fa_I x3))]) d_Program_markThings_132 rfl (by decide) (fun _ => rfl) (fun x4_21 ex4_21 => ?_)
      have hM := fa_let_to hM ex4_21
      refine g_goto X 111 d_Program_markThings_135 (by decide) ?_
      exact g_lv [1, 2, 3, 4, 0] rfl (ih _ _ _ hM)
def fm_Program_markThings_l83 (o : Nat) (a1 : Nat) (a2 : Int) : Nat → Int → fa_W → Option fa_W
  | 0, _, _ => none
  | n + 1, x3, w => if fa_wr x3 < 0 then
  some w
  else
  (if fa_wr (fr_at (fa_rf o 11) x3 w) = (-1) then
  (fa_let (x3 + (-1)) fun x3_12 =>
  fm_Program_markThings_l83 o a1 a2 n x3_12 w)
  else
  (if fm_Program_losesBody a1 x3 a2 w = true then
  (fa_let (x3 + (-1)) fun x3_15 =>
  fm_Program_markThings_l83 o a1 a2 n x3_15 w)
  else
  fm_Program_markThings_l111 o a1 a2 (fun x3 w9 => fm_Program_markThings_l83 o a1 a2 n x3 w9) fa_FU x3 0 w))
set_option maxHeartbeats 4000000 in
set_option maxRecDepth 100000 in
theorem c_Program_markThings_l83 {p : Program} {l : Launch} {e : Env} {s : State} {m : MethodId} {args : Array Value} {below : List Frame} {meth : Method} {c : Code} {hh : Nat} {D : va_G} {b : Nat} {aC : Nat → ClassId} {H0 : Heap} {N T : Nat} (X : fa_GX p s m args meth c prog_5_method_14_code 5 ((Option.none : Option Jvm.ClassFile.FieldType)) y_Program_markThings.cls D b aC) (hle : 2 ≤ hh) (hN : fa_NX ≤ N) (hT : fa_TX ≤ T) (o : Nat) (a1 : Nat) (a2 : Int) (ho : (fa_sh o).1 = 4) (ha1 : (fa_sh a1).1 = 4) {r : fa_W}  : ∀ (n : Nat) (x3 : Int) (w : fa_W), fm_Program_markThings_l83 o a1 a2 n x3 w = some r → fa_GJ p l e (fa_rm hh) s m args below meth c 0 0 (MQ below (fa_Qc D b aC H0 N T (none) r) args s 0 0 (fun q => b ≤ q)) D b aC H0 N T 5 w 83 [(0, .ref (b + o)), (1, .ref (b + a1)), (2, .int (fa_I a2)), (3, .int (fa_I x3))] [] := by
  intro n
  induction n with
  | zero => intro x3 w hM; exact fa_no hM
  | succ n ih =>
    intro x3 w hM
    rw [fm_Program_markThings_l83] at hM
    refine g_iload_n X 3 rfl d_Program_markThings_83 ?_
    refine g_if_lt X 144 d_Program_markThings_84 (by decide) (fun hc9 => ?_) (fun hc9 => ?_)
    · have hM := fa_if_t hM hc9
      cases hM
      exact g_vret X d_Program_markThings_144
    · have hM := fa_if_f hM hc9
      refine g_aload_n X 0 rfl d_Program_markThings_87 ?_
      refine g_get X ck_4 ho (fa_xn ho (by decide) hN) 11 (by decide) wd_89 rfl (fa_fvR rfl (fa_xt ho (by decide) hT 11)) d_Program_markThings_88 ?_
      refine g_iload_n X 3 rfl d_Program_markThings_91 ?_
      refine g_callV_i X ck_6 (fa_r4_11 _ ho) (fa_xn (fa_r4_11 _ ho) (by decide) hN) rfl mi_Row_at (ct_Row_at (fa_rf o 11) x3 (fa_ro (fa_r4_11 _ ho) hN hT) w _ rfl) wd_427 rfl (Nat.le_trans (Nat.le_of_ble_eq_true rfl) hle) (st := []) (Nat.le_of_ble_eq_true rfl) rfl d_Program_markThings_92 ?_
      refine g_iconst X d_Program_markThings_95 ?_
      refine g_icmp_eq X 138 d_Program_markThings_96 (by decide) (fun hc11 => ?_) (fun hc11 => ?_)
      · have hM := fa_if_t hM hc11
        refine g_iinc X 3 (fun x3_12 => [(3, .int (fa_I x3_12)), (0, .ref (b + o)), (1, .ref (b + a1)), (2, .int (fa_I a2))]) d_Program_markThings_138 rfl (by decide) (fun _ => rfl) (fun x3_12 ex3_12 => ?_)
        have hM := fa_let_to hM ex3_12
        refine g_goto X 83 d_Program_markThings_141 (by decide) ?_
        exact g_lv [1, 2, 3, 0] rfl (ih _ _ hM)
      · have hM := fa_if_f hM hc11
        refine g_aload_n X 1 rfl d_Program_markThings_99 ?_
        refine g_iload_n X 3 rfl d_Program_markThings_100 ?_
        refine g_iload_n X 2 rfl d_Program_markThings_101 ?_
        refine g_callS_i X mi_Program_losesBody (c_Program_losesBody hN hT a1 x3 a2 ha1 w _ rfl) wd_735 rfl (Nat.le_trans (Nat.le_of_ble_eq_true rfl) hle) (st := []) (Nat.le_of_ble_eq_true rfl) rfl d_Program_markThings_102 ?_
        refine g_ifb_ne X 138 d_Program_markThings_105 (by decide) (fun hc14 => ?_) (fun hc14 => ?_)
        · have hM := fa_ifb_t hM hc14
          refine g_iinc X 3 (fun x3_15 => [(3, .int (fa_I x3_15)), (0, .ref (b + o)), (1, .ref (b + a1)), (2, .int (fa_I a2))]) d_Program_markThings_138 rfl (by decide) (fun _ => rfl) (fun x3_15 ex3_15 => ?_)
          have hM := fa_let_to hM ex3_15
          refine g_goto X 83 d_Program_markThings_141 (by decide) ?_
          exact g_lv [1, 2, 3, 0] rfl (ih _ _ hM)
        · have hM := fa_ifb_f hM hc14
          refine g_iconst X d_Program_markThings_108 ?_
          refine g_istorec X [(4, .int (fa_I 0)), (0, .ref (b + o)), (1, .ref (b + a1)), (2, .int (fa_I a2)), (3, .int (fa_I x3))] d_Program_markThings_109 (by decide) rfl ?_
          exact g_lv [1, 2, 3, 4, 0] rfl (c_Program_markThings_l111 X hle hN hT o a1 a2 ho ha1  (fun x3 w9 => fm_Program_markThings_l83 o a1 a2 n x3 w9) (fun _ _ h => ih _ _ h) fa_FU _ _ _ hM)
def fm_Program_markThings_l26 (o : Nat) (a1 : Nat) (a2 : Int) : Nat → Int → fa_W → Option fa_W
  | 0, _, _ => none
  | n + 1, x3, w => if fa_wr (w a1 13) ≤ fa_wr x3 then
  (fa_let ((fm_Program_things a1 w) - 1) fun x3_8 =>
  fm_Program_markThings_l83 o a1 a2 fa_FU x3_8 w)
  else
  (if fa_wr (fr_at (fa_rf o 10) x3 w) = (-1) then
  (fa_let (x3 + 1) fun x3_24 =>
  fm_Program_markThings_l26 o a1 a2 n x3_24 w)
  else
  (if fm_Face_hasBit a2 x3 w = true then
  (fa_let (fr_set (fa_rf o 11) (fr_at (fa_rf a1 9) x3 w) 0 w) fun w30 =>
  fa_let (x3 + 1) fun x3_31 =>
  fm_Program_markThings_l26 o a1 a2 n x3_31 w30)
  else
  (fa_let (x3 + 1) fun x3_27 =>
  fm_Program_markThings_l26 o a1 a2 n x3_27 w)))
set_option maxHeartbeats 4000000 in
set_option maxRecDepth 100000 in
theorem c_Program_markThings_l26 {p : Program} {l : Launch} {e : Env} {s : State} {m : MethodId} {args : Array Value} {below : List Frame} {meth : Method} {c : Code} {hh : Nat} {D : va_G} {b : Nat} {aC : Nat → ClassId} {H0 : Heap} {N T : Nat} (X : fa_GX p s m args meth c prog_5_method_14_code 5 ((Option.none : Option Jvm.ClassFile.FieldType)) y_Program_markThings.cls D b aC) (hle : 2 ≤ hh) (hN : fa_NX ≤ N) (hT : fa_TX ≤ T) (o : Nat) (a1 : Nat) (a2 : Int) (ho : (fa_sh o).1 = 4) (ha1 : (fa_sh a1).1 = 4) {r : fa_W}  : ∀ (n : Nat) (x3 : Int) (w : fa_W), fm_Program_markThings_l26 o a1 a2 n x3 w = some r → fa_GJ p l e (fa_rm hh) s m args below meth c 0 0 (MQ below (fa_Qc D b aC H0 N T (none) r) args s 0 0 (fun q => b ≤ q)) D b aC H0 N T 5 w 26 [(0, .ref (b + o)), (1, .ref (b + a1)), (2, .int (fa_I a2)), (3, .int (fa_I x3))] [] := by
  intro n
  induction n with
  | zero => intro x3 w hM; exact fa_no hM
  | succ n ih =>
    intro x3 w hM
    rw [fm_Program_markThings_l26] at hM
    refine g_iload_n X 3 rfl d_Program_markThings_26 ?_
    refine g_aload_n X 1 rfl d_Program_markThings_27 ?_
    refine g_get X ck_4 ha1 (fa_xn ha1 (by decide) hN) 13 (by decide) wd_91 rfl (fa_fvI rfl) d_Program_markThings_28 ?_
    refine g_icmp_ge X 76 d_Program_markThings_31 (by decide) (fun hc6 => ?_) (fun hc6 => ?_)
    · have hM := fa_if_t hM hc6
      refine g_aload_n X 1 rfl d_Program_markThings_76 ?_
      refine g_callV_i X ck_4 ha1 (fa_xn ha1 (by decide) hN) rfl mi_Program_things (c_Program_things hN hT a1 ha1 w _ rfl) wd_734 rfl (Nat.le_trans (Nat.le_of_ble_eq_true rfl) hle) (st := []) (Nat.le_of_ble_eq_true rfl) rfl d_Program_markThings_77 ?_
      refine g_iconst X d_Program_markThings_80 ?_
      refine g_isub X d_Program_markThings_81 ?_
      refine g_istore_n X (fun x3_8 => [(3, .int (fa_I x3_8)), (0, .ref (b + o)), (1, .ref (b + a1)), (2, .int (fa_I a2))]) d_Program_markThings_82 (by decide) (fun _ => rfl) (fun x3_8 ex3_8 => ?_)
      have hM := fa_let_to hM ex3_8
      exact g_lv [1, 2, 3, 0] rfl (c_Program_markThings_l83 X hle hN hT o a1 a2 ho ha1   fa_FU _ _ hM)
    · have hM := fa_if_f hM hc6
      refine g_aload_n X 0 rfl d_Program_markThings_34 ?_
      refine g_get X ck_4 ho (fa_xn ho (by decide) hN) 10 (by decide) wd_88 rfl (fa_fvR rfl (fa_xt ho (by decide) hT 10)) d_Program_markThings_35 ?_
      refine g_iload_n X 3 rfl d_Program_markThings_38 ?_
      refine g_callV_i X ck_6 (fa_r4_10 _ ho) (fa_xn (fa_r4_10 _ ho) (by decide) hN) rfl mi_Row_at (ct_Row_at (fa_rf o 10) x3 (fa_ro (fa_r4_10 _ ho) hN hT) w _ rfl) wd_427 rfl (Nat.le_trans (Nat.le_of_ble_eq_true rfl) hle) (st := []) (Nat.le_of_ble_eq_true rfl) rfl d_Program_markThings_39 ?_
      refine g_iconst X d_Program_markThings_42 ?_
      refine g_icmp_eq X 70 d_Program_markThings_43 (by decide) (fun hc23 => ?_) (fun hc23 => ?_)
      · have hM := fa_if_t hM hc23
        refine g_iinc X 3 (fun x3_24 => [(3, .int (fa_I x3_24)), (0, .ref (b + o)), (1, .ref (b + a1)), (2, .int (fa_I a2))]) d_Program_markThings_70 rfl (by decide) (fun _ => rfl) (fun x3_24 ex3_24 => ?_)
        have hM := fa_let_to hM ex3_24
        refine g_goto X 26 d_Program_markThings_73 (by decide) ?_
        exact g_lv [1, 2, 3, 0] rfl (ih _ _ hM)
      · have hM := fa_if_f hM hc23
        refine g_iload_n X 2 rfl d_Program_markThings_46 ?_
        refine g_iload_n X 3 rfl d_Program_markThings_47 ?_
        refine g_callSN_i X mi_Face_hasBit (c_Face_hasBit hN hT a2 x3 w _ rfl) wd_729 rfl (Nat.le_trans (Nat.le_of_ble_eq_true rfl) hle) (st := []) (Nat.le_of_ble_eq_true rfl) rfl d_Program_markThings_48 ?_
        refine g_ifb_eq X 70 d_Program_markThings_51 (by decide) (fun hc26 => ?_) (fun hc26 => ?_)
        · have hM := fa_ifb_f hM hc26
          refine g_iinc X 3 (fun x3_27 => [(3, .int (fa_I x3_27)), (0, .ref (b + o)), (1, .ref (b + a1)), (2, .int (fa_I a2))]) d_Program_markThings_70 rfl (by decide) (fun _ => rfl) (fun x3_27 ex3_27 => ?_)
          have hM := fa_let_to hM ex3_27
          refine g_goto X 26 d_Program_markThings_73 (by decide) ?_
          exact g_lv [1, 2, 3, 0] rfl (ih _ _ hM)
        · have hM := fa_ifb_t hM hc26
          refine g_aload_n X 0 rfl d_Program_markThings_54 ?_
          refine g_get X ck_4 ho (fa_xn ho (by decide) hN) 11 (by decide) wd_89 rfl (fa_fvR rfl (fa_xt ho (by decide) hT 11)) d_Program_markThings_55 ?_
          refine g_aload_n X 1 rfl d_Program_markThings_58 ?_
          refine g_get X ck_4 ha1 (fa_xn ha1 (by decide) hN) 9 (by decide) wd_82 rfl (fa_fvR rfl (fa_xt ha1 (by decide) hT 9)) d_Program_markThings_59 ?_
          refine g_iload_n X 3 rfl d_Program_markThings_62 ?_
          refine g_callV_i X ck_6 (fa_r4_9 _ ha1) (fa_xn (fa_r4_9 _ ha1) (by decide) hN) rfl mi_Row_at (ct_Row_at (fa_rf a1 9) x3 (fa_ro (fa_r4_9 _ ha1) hN hT) w _ rfl) wd_427 rfl (Nat.le_trans (Nat.le_of_ble_eq_true rfl) hle) (st := [.ref (b + (fa_rf o 11))]) (Nat.le_of_ble_eq_true rfl) rfl d_Program_markThings_63 ?_
          refine g_iconst X d_Program_markThings_66 ?_
          obtain ⟨w30, e29⟩ : ∃ q, fr_set (fa_rf o 11) (fr_at (fa_rf a1 9) x3 w) 0 w = q := ⟨_, rfl⟩
          have hM := fa_let_to hM e29.symm
          refine g_callV_v X ck_6 (fa_r4_11 _ ho) (fa_xn (fa_r4_11 _ ho) (by decide) hN) rfl mi_Row_set (ct_Row_set (fa_rf o 11) (fr_at (fa_rf a1 9) x3 w) 0 (fa_ro (fa_r4_11 _ ho) hN hT) w _ e29) wd_431 rfl (Nat.le_trans (Nat.le_of_ble_eq_true rfl) hle) (st := []) (Nat.le_of_ble_eq_true rfl) rfl d_Program_markThings_67 ?_
          refine g_iinc X 3 (fun x3_31 => [(3, .int (fa_I x3_31)), (0, .ref (b + o)), (1, .ref (b + a1)), (2, .int (fa_I a2))]) d_Program_markThings_70 rfl (by decide) (fun _ => rfl) (fun x3_31 ex3_31 => ?_)
          have hM := fa_let_to hM ex3_31
          refine g_goto X 26 d_Program_markThings_73 (by decide) ?_
          exact g_lv [1, 2, 3, 0] rfl (ih _ _ hM)
def fm_Program_markThings (o : Nat) (a1 : Nat) (a2 : Int) (w : fa_W) : Option fa_W :=
  fa_let (fr_refill (fa_rf o 11) (fm_Program_things a1 w) (-1) w) fun w3 =>
  fa_let (fr_set (fa_rf o 11) (w3 a1 16) 0 w3) fun w5 =>
  fm_Program_markThings_l26 o a1 a2 fa_FU 0 w5
set_option maxHeartbeats 4000000 in
set_option maxRecDepth 100000 in
theorem c_Program_markThings {l : Launch} {D : va_G} {b : Nat} {aC : Nat → ClassId} {H0 : Heap} {N T : Nat} (hN : fa_NX ≤ N) (hT : fa_TX ≤ T) (o : Nat) (a1 : Nat) (a2 : Int) (ho : (fa_sh o).1 = 4) (ha1 : (fa_sh a1).1 = 4)  (w : fa_W) (r : fa_W) (hM : fm_Program_markThings o a1 a2 w = some r) : fa_MC l D b aC H0 N T y_Program_markThings prog_5_method_14_code 5 ((Option.none : Option Jvm.ClassFile.FieldType)) (2) [.ref (b + o), .ref (b + a1), .int (fa_I a2)] w (none) r := by
  refine fa_enter (lv := [(0, .ref (b + o)), (1, .ref (b + a1)), (2, .int (fa_I a2))]) (by decide +kernel) (Nat.le_of_ble_eq_true rfl) rfl (fun hh hle hnm X => ?_)
  unfold fm_Program_markThings at hM
  refine g_aload_n X 0 rfl d_Program_markThings_0 ?_
  refine g_get X ck_4 ho (fa_xn ho (by decide) hN) 11 (by decide) wd_89 rfl (fa_fvR rfl (fa_xt ho (by decide) hT 11)) d_Program_markThings_1 ?_
  refine g_aload_n X 1 rfl d_Program_markThings_4 ?_
  refine g_callV_i X ck_4 ha1 (fa_xn ha1 (by decide) hN) rfl mi_Program_things (c_Program_things hN hT a1 ha1 w _ rfl) wd_734 rfl (Nat.le_trans (Nat.le_of_ble_eq_true rfl) hle) (st := [.ref (b + (fa_rf o 11))]) (Nat.le_of_ble_eq_true rfl) rfl d_Program_markThings_5 ?_
  refine g_iconst X d_Program_markThings_8 ?_
  obtain ⟨w3, e2⟩ : ∃ q, fr_refill (fa_rf o 11) (fm_Program_things a1 w) (-1) w = q := ⟨_, rfl⟩
  have hM := fa_let_to hM e2.symm
  refine g_callV_v X ck_6 (fa_r4_11 _ ho) (fa_xn (fa_r4_11 _ ho) (by decide) hN) rfl mi_Row_refill (ct_Row_refill (fa_rf o 11) (fm_Program_things a1 w) (-1) (fa_ro (fa_r4_11 _ ho) hN hT) w _ e2) wd_417 rfl (Nat.le_trans (Nat.le_of_ble_eq_true rfl) hle) (st := []) (Nat.le_of_ble_eq_true rfl) rfl d_Program_markThings_9 ?_
  refine g_aload_n X 0 rfl d_Program_markThings_12 ?_
  refine g_get X ck_4 ho (fa_xn ho (by decide) hN) 11 (by decide) wd_89 rfl (fa_fvR rfl (fa_xt ho (by decide) hT 11)) d_Program_markThings_13 ?_
  refine g_aload_n X 1 rfl d_Program_markThings_16 ?_
  refine g_get X ck_4 ha1 (fa_xn ha1 (by decide) hN) 16 (by decide) wd_107 rfl (fa_fvI rfl) d_Program_markThings_17 ?_
  refine g_iconst X d_Program_markThings_20 ?_
  obtain ⟨w5, e4⟩ : ∃ q, fr_set (fa_rf o 11) (w3 a1 16) 0 w3 = q := ⟨_, rfl⟩
  have hM := fa_let_to hM e4.symm
  refine g_callV_v X ck_6 (fa_r4_11 _ ho) (fa_xn (fa_r4_11 _ ho) (by decide) hN) rfl mi_Row_set (ct_Row_set (fa_rf o 11) (w3 a1 16) 0 (fa_ro (fa_r4_11 _ ho) hN hT) w3 _ e4) wd_431 rfl (Nat.le_trans (Nat.le_of_ble_eq_true rfl) hle) (st := []) (Nat.le_of_ble_eq_true rfl) rfl d_Program_markThings_21 ?_
  refine g_iconst X d_Program_markThings_24 ?_
  refine g_istorec_n X [(3, .int (fa_I 0)), (0, .ref (b + o)), (1, .ref (b + a1)), (2, .int (fa_I a2))] d_Program_markThings_25 (by decide) rfl ?_
  exact g_lv [1, 2, 3, 0] rfl (c_Program_markThings_l26 X hle hN hT o a1 a2 ho ha1   fa_FU _ _ hM)
theorem d_Program_numberSites_0 : decode prog_5_method_16_code 0 = .ok (.aload_n 0, 1) := by decide +kernel
theorem d_Program_numberSites_1 : decode prog_5_method_16_code 1 = .ok (.getfield 53, 3) := by decide +kernel
theorem d_Program_numberSites_4 : decode prog_5_method_16_code 4 = .ok (.bipush 100, 2) := by decide +kernel
theorem d_Program_numberSites_6 : decode prog_5_method_16_code 6 = .ok (.iconst (-1), 1) := by decide +kernel
theorem d_Program_numberSites_7 : decode prog_5_method_16_code 7 = .ok (.invokevirtual 72, 3) := by decide +kernel
theorem d_Program_numberSites_10 : decode prog_5_method_16_code 10 = .ok (.iconst 0, 1) := by decide +kernel
theorem d_Program_numberSites_11 : decode prog_5_method_16_code 11 = .ok (.istore_n 2, 1) := by decide +kernel
theorem d_Program_numberSites_12 : decode prog_5_method_16_code 12 = .ok (.iload_n 2, 1) := by decide +kernel
theorem d_Program_numberSites_13 : decode prog_5_method_16_code 13 = .ok (.aload_n 1, 1) := by decide +kernel
theorem d_Program_numberSites_14 : decode prog_5_method_16_code 14 = .ok (.getfield 63, 3) := by decide +kernel
theorem d_Program_numberSites_17 : decode prog_5_method_16_code 17 = .ok (.if_icmp .ge 50, 3) := by decide +kernel
theorem d_Program_numberSites_20 : decode prog_5_method_16_code 20 = .ok (.aload_n 0, 1) := by decide +kernel
theorem d_Program_numberSites_21 : decode prog_5_method_16_code 21 = .ok (.getfield 50, 3) := by decide +kernel
theorem d_Program_numberSites_24 : decode prog_5_method_16_code 24 = .ok (.aload_n 1, 1) := by decide +kernel
theorem d_Program_numberSites_25 : decode prog_5_method_16_code 25 = .ok (.getfield 32, 3) := by decide +kernel
theorem d_Program_numberSites_28 : decode prog_5_method_16_code 28 = .ok (.iload_n 2, 1) := by decide +kernel
theorem d_Program_numberSites_29 : decode prog_5_method_16_code 29 = .ok (.invokevirtual 85, 3) := by decide +kernel
theorem d_Program_numberSites_32 : decode prog_5_method_16_code 32 = .ok (.invokevirtual 85, 3) := by decide +kernel
theorem d_Program_numberSites_35 : decode prog_5_method_16_code 35 = .ok (.iconst (-1), 1) := by decide +kernel
theorem d_Program_numberSites_36 : decode prog_5_method_16_code 36 = .ok (.if_icmp .eq 25, 3) := by decide +kernel
theorem d_Program_numberSites_39 : decode prog_5_method_16_code 39 = .ok (.aload_n 0, 1) := by decide +kernel
theorem d_Program_numberSites_40 : decode prog_5_method_16_code 40 = .ok (.getfield 53, 3) := by decide +kernel
theorem d_Program_numberSites_43 : decode prog_5_method_16_code 43 = .ok (.iload_n 2, 1) := by decide +kernel
theorem d_Program_numberSites_44 : decode prog_5_method_16_code 44 = .ok (.aload_n 0, 1) := by decide +kernel
theorem d_Program_numberSites_45 : decode prog_5_method_16_code 45 = .ok (.getfield 63, 3) := by decide +kernel
theorem d_Program_numberSites_48 : decode prog_5_method_16_code 48 = .ok (.invokevirtual 94, 3) := by decide +kernel
theorem d_Program_numberSites_51 : decode prog_5_method_16_code 51 = .ok (.aload_n 0, 1) := by decide +kernel
theorem d_Program_numberSites_52 : decode prog_5_method_16_code 52 = .ok (.dup, 1) := by decide +kernel
theorem d_Program_numberSites_53 : decode prog_5_method_16_code 53 = .ok (.getfield 63, 3) := by decide +kernel
theorem d_Program_numberSites_56 : decode prog_5_method_16_code 56 = .ok (.iconst 1, 1) := by decide +kernel
theorem d_Program_numberSites_57 : decode prog_5_method_16_code 57 = .ok (.iadd, 1) := by decide +kernel
theorem d_Program_numberSites_58 : decode prog_5_method_16_code 58 = .ok (.putfield 63, 3) := by decide +kernel
theorem d_Program_numberSites_61 : decode prog_5_method_16_code 61 = .ok (.iinc 2 1, 3) := by decide +kernel
theorem d_Program_numberSites_64 : decode prog_5_method_16_code 64 = .ok (.goto (-52), 3) := by decide +kernel
theorem d_Program_numberSites_67 : decode prog_5_method_16_code 67 = .ok (.return_, 1) := by decide +kernel
def fm_Program_numberSites_l12 (o : Nat) (a1 : Nat) : Nat → Int → fa_W → Option fa_W
  | 0, _, _ => none
  | n + 1, x2, w => if fa_wr (w a1 15) ≤ fa_wr x2 then
  some w
  else
  (if fa_wr (fr_at (fa_rf o 11) (fr_at (fa_rf a1 5) x2 w) w) = (-1) then
  (fa_let (x2 + 1) fun x2_7 =>
  fm_Program_numberSites_l12 o a1 n x2_7 w)
  else
  (fa_let (fr_set (fa_rf o 12) x2 (w o 15) w) fun w9 =>
  fa_let (fa_st w9 o 15 ((w9 o 15) + 1)) fun w10 =>
  fa_let (x2 + 1) fun x2_11 =>
  fm_Program_numberSites_l12 o a1 n x2_11 w10))
set_option maxHeartbeats 4000000 in
set_option maxRecDepth 100000 in
theorem c_Program_numberSites_l12 {p : Program} {l : Launch} {e : Env} {s : State} {m : MethodId} {args : Array Value} {below : List Frame} {meth : Method} {c : Code} {hh : Nat} {D : va_G} {b : Nat} {aC : Nat → ClassId} {H0 : Heap} {N T : Nat} (X : fa_GX p s m args meth c prog_5_method_16_code 3 ((Option.none : Option Jvm.ClassFile.FieldType)) y_Program_numberSites.cls D b aC) (hle : 2 ≤ hh) (hN : fa_NX ≤ N) (hT : fa_TX ≤ T) (o : Nat) (a1 : Nat) (ho : (fa_sh o).1 = 4) (ha1 : (fa_sh a1).1 = 4) {r : fa_W}  : ∀ (n : Nat) (x2 : Int) (w : fa_W), fm_Program_numberSites_l12 o a1 n x2 w = some r → fa_GJ p l e (fa_rm hh) s m args below meth c 0 0 (MQ below (fa_Qc D b aC H0 N T (none) r) args s 0 0 (fun q => b ≤ q)) D b aC H0 N T 3 w 12 [(0, .ref (b + o)), (1, .ref (b + a1)), (2, .int (fa_I x2))] [] := by
  intro n
  induction n with
  | zero => intro x2 w hM; exact fa_no hM
  | succ n ih =>
    intro x2 w hM
    rw [fm_Program_numberSites_l12] at hM
    refine g_iload_n X 2 rfl d_Program_numberSites_12 ?_
    refine g_aload_n X 1 rfl d_Program_numberSites_13 ?_
    refine g_get X ck_4 ha1 (fa_xn ha1 (by decide) hN) 15 (by decide) wd_102 rfl (fa_fvI rfl) d_Program_numberSites_14 ?_
    refine g_icmp_ge X 67 d_Program_numberSites_17 (by decide) (fun hc3 => ?_) (fun hc3 => ?_)
    · have hM := fa_if_t hM hc3
      cases hM
      exact g_vret X d_Program_numberSites_67
    · have hM := fa_if_f hM hc3
      refine g_aload_n X 0 rfl d_Program_numberSites_20 ?_
      refine g_get X ck_4 ho (fa_xn ho (by decide) hN) 11 (by decide) wd_89 rfl (fa_fvR rfl (fa_xt ho (by decide) hT 11)) d_Program_numberSites_21 ?_
      refine g_aload_n X 1 rfl d_Program_numberSites_24 ?_
      refine g_get X ck_4 ha1 (fa_xn ha1 (by decide) hN) 5 (by decide) wd_70 rfl (fa_fvR rfl (fa_xt ha1 (by decide) hT 5)) d_Program_numberSites_25 ?_
      refine g_iload_n X 2 rfl d_Program_numberSites_28 ?_
      refine g_callV_i X ck_6 (fa_r4_5 _ ha1) (fa_xn (fa_r4_5 _ ha1) (by decide) hN) rfl mi_Row_at (ct_Row_at (fa_rf a1 5) x2 (fa_ro (fa_r4_5 _ ha1) hN hT) w _ rfl) wd_427 rfl (Nat.le_trans (Nat.le_of_ble_eq_true rfl) hle) (st := [.ref (b + (fa_rf o 11))]) (Nat.le_of_ble_eq_true rfl) rfl d_Program_numberSites_29 ?_
      refine g_callV_i X ck_6 (fa_r4_11 _ ho) (fa_xn (fa_r4_11 _ ho) (by decide) hN) rfl mi_Row_at (ct_Row_at (fa_rf o 11) (fr_at (fa_rf a1 5) x2 w) (fa_ro (fa_r4_11 _ ho) hN hT) w _ rfl) wd_427 rfl (Nat.le_trans (Nat.le_of_ble_eq_true rfl) hle) (st := []) (Nat.le_of_ble_eq_true rfl) rfl d_Program_numberSites_32 ?_
      refine g_iconst X d_Program_numberSites_35 ?_
      refine g_icmp_eq X 61 d_Program_numberSites_36 (by decide) (fun hc6 => ?_) (fun hc6 => ?_)
      · have hM := fa_if_t hM hc6
        refine g_iinc X 2 (fun x2_7 => [(2, .int (fa_I x2_7)), (0, .ref (b + o)), (1, .ref (b + a1))]) d_Program_numberSites_61 rfl (by decide) (fun _ => rfl) (fun x2_7 ex2_7 => ?_)
        have hM := fa_let_to hM ex2_7
        refine g_goto X 12 d_Program_numberSites_64 (by decide) ?_
        exact g_lv [1, 2, 0] rfl (ih _ _ hM)
      · have hM := fa_if_f hM hc6
        refine g_aload_n X 0 rfl d_Program_numberSites_39 ?_
        refine g_get X ck_4 ho (fa_xn ho (by decide) hN) 12 (by decide) wd_90 rfl (fa_fvR rfl (fa_xt ho (by decide) hT 12)) d_Program_numberSites_40 ?_
        refine g_iload_n X 2 rfl d_Program_numberSites_43 ?_
        refine g_aload_n X 0 rfl d_Program_numberSites_44 ?_
        refine g_get X ck_4 ho (fa_xn ho (by decide) hN) 15 (by decide) wd_102 rfl (fa_fvI rfl) d_Program_numberSites_45 ?_
        obtain ⟨w9, e8⟩ : ∃ q, fr_set (fa_rf o 12) x2 (w o 15) w = q := ⟨_, rfl⟩
        have hM := fa_let_to hM e8.symm
        refine g_callV_v X ck_6 (fa_r4_12 _ ho) (fa_xn (fa_r4_12 _ ho) (by decide) hN) rfl mi_Row_set (ct_Row_set (fa_rf o 12) x2 (w o 15) (fa_ro (fa_r4_12 _ ho) hN hT) w _ e8) wd_431 rfl (Nat.le_trans (Nat.le_of_ble_eq_true rfl) hle) (st := []) (Nat.le_of_ble_eq_true rfl) rfl d_Program_numberSites_48 ?_
        refine g_aload_n X 0 rfl d_Program_numberSites_51 ?_
        refine g_dup X rfl d_Program_numberSites_52 ?_
        refine g_get X ck_4 ho (fa_xn ho (by decide) hN) 15 (by decide) wd_102 rfl (fa_fvI rfl) d_Program_numberSites_53 ?_
        refine g_iconst X d_Program_numberSites_56 ?_
        refine g_iadd X d_Program_numberSites_57 ?_
        refine g_put X ck_4 ho (fa_xn ho (by decide) hN) 15 (z := ((w9 o 15) + 1)) (by decide) wd_102 rfl (fa_fvI' rfl) rfl rfl rfl d_Program_numberSites_58 (fun w10 ew10 => ?_)
        have hM := fa_let_to hM ew10
        refine g_iinc X 2 (fun x2_11 => [(2, .int (fa_I x2_11)), (0, .ref (b + o)), (1, .ref (b + a1))]) d_Program_numberSites_61 rfl (by decide) (fun _ => rfl) (fun x2_11 ex2_11 => ?_)
        have hM := fa_let_to hM ex2_11
        refine g_goto X 12 d_Program_numberSites_64 (by decide) ?_
        exact g_lv [1, 2, 0] rfl (ih _ _ hM)
def fm_Program_numberSites (o : Nat) (a1 : Nat) (w : fa_W) : Option fa_W :=
  fa_let (fr_refill (fa_rf o 12) 100 (-1) w) fun w2 =>
  fm_Program_numberSites_l12 o a1 fa_FU 0 w2
set_option maxHeartbeats 4000000 in
set_option maxRecDepth 100000 in
theorem c_Program_numberSites {l : Launch} {D : va_G} {b : Nat} {aC : Nat → ClassId} {H0 : Heap} {N T : Nat} (hN : fa_NX ≤ N) (hT : fa_TX ≤ T) (o : Nat) (a1 : Nat) (ho : (fa_sh o).1 = 4) (ha1 : (fa_sh a1).1 = 4)  (w : fa_W) (r : fa_W) (hM : fm_Program_numberSites o a1 w = some r) : fa_MC l D b aC H0 N T y_Program_numberSites prog_5_method_16_code 3 ((Option.none : Option Jvm.ClassFile.FieldType)) (2) [.ref (b + o), .ref (b + a1)] w (none) r := by
  refine fa_enter (lv := [(0, .ref (b + o)), (1, .ref (b + a1))]) (by decide +kernel) (Nat.le_of_ble_eq_true rfl) rfl (fun hh hle hnm X => ?_)
  unfold fm_Program_numberSites at hM
  refine g_aload_n X 0 rfl d_Program_numberSites_0 ?_
  refine g_get X ck_4 ho (fa_xn ho (by decide) hN) 12 (by decide) wd_90 rfl (fa_fvR rfl (fa_xt ho (by decide) hT 12)) d_Program_numberSites_1 ?_
  refine g_bipush X (by decide) d_Program_numberSites_4 ?_
  refine g_iconst X d_Program_numberSites_6 ?_
  obtain ⟨w2, e1⟩ : ∃ q, fr_refill (fa_rf o 12) 100 (-1) w = q := ⟨_, rfl⟩
  have hM := fa_let_to hM e1.symm
  refine g_callV_v X ck_6 (fa_r4_12 _ ho) (fa_xn (fa_r4_12 _ ho) (by decide) hN) rfl mi_Row_refill (ct_Row_refill (fa_rf o 12) 100 (-1) (fa_ro (fa_r4_12 _ ho) hN hT) w _ e1) wd_417 rfl (Nat.le_trans (Nat.le_of_ble_eq_true rfl) hle) (st := []) (Nat.le_of_ble_eq_true rfl) rfl d_Program_numberSites_7 ?_
  refine g_iconst X d_Program_numberSites_10 ?_
  refine g_istorec_n X [(2, .int (fa_I 0)), (0, .ref (b + o)), (1, .ref (b + a1))] d_Program_numberSites_11 (by decide) rfl ?_
  exact g_lv [1, 2, 0] rfl (c_Program_numberSites_l12 X hle hN hT o a1 ho ha1   fa_FU _ _ hM)
theorem d_Program_newValue_0 : decode prog_5_method_18_code 0 = .ok (.iload_n 1, 1) := by decide +kernel
theorem d_Program_newValue_1 : decode prog_5_method_18_code 1 = .ok (.tableswitch 93 2 9 #[47, 66, 93, 75, 93, 93, 93, 84], 47) := by decide +kernel
theorem d_Program_newValue_48 : decode prog_5_method_18_code 48 = .ok (.iload_n 2, 1) := by decide +kernel
theorem d_Program_newValue_49 : decode prog_5_method_18_code 49 = .ok (.bipush 24, 2) := by decide +kernel
theorem d_Program_newValue_51 : decode prog_5_method_18_code 51 = .ok (.if_icmp .ge 14, 3) := by decide +kernel
theorem d_Program_newValue_54 : decode prog_5_method_18_code 54 = .ok (.aload_n 0, 1) := by decide +kernel
theorem d_Program_newValue_55 : decode prog_5_method_18_code 55 = .ok (.getfield 47, 3) := by decide +kernel
theorem d_Program_newValue_58 : decode prog_5_method_18_code 58 = .ok (.iload_n 2, 1) := by decide +kernel
theorem d_Program_newValue_59 : decode prog_5_method_18_code 59 = .ok (.invokevirtual 85, 3) := by decide +kernel
theorem d_Program_newValue_62 : decode prog_5_method_18_code 62 = .ok (.goto 4, 3) := by decide +kernel
theorem d_Program_newValue_65 : decode prog_5_method_18_code 65 = .ok (.iload_n 2, 1) := by decide +kernel
theorem d_Program_newValue_66 : decode prog_5_method_18_code 66 = .ok (.ireturn, 1) := by decide +kernel
theorem d_Program_newValue_67 : decode prog_5_method_18_code 67 = .ok (.aload_n 0, 1) := by decide +kernel
theorem d_Program_newValue_68 : decode prog_5_method_18_code 68 = .ok (.getfield 47, 3) := by decide +kernel
theorem d_Program_newValue_71 : decode prog_5_method_18_code 71 = .ok (.iload_n 2, 1) := by decide +kernel
theorem d_Program_newValue_72 : decode prog_5_method_18_code 72 = .ok (.invokevirtual 85, 3) := by decide +kernel
theorem d_Program_newValue_75 : decode prog_5_method_18_code 75 = .ok (.ireturn, 1) := by decide +kernel
theorem d_Program_newValue_76 : decode prog_5_method_18_code 76 = .ok (.aload_n 0, 1) := by decide +kernel
theorem d_Program_newValue_77 : decode prog_5_method_18_code 77 = .ok (.getfield 47, 3) := by decide +kernel
theorem d_Program_newValue_80 : decode prog_5_method_18_code 80 = .ok (.iload_n 2, 1) := by decide +kernel
theorem d_Program_newValue_81 : decode prog_5_method_18_code 81 = .ok (.invokevirtual 85, 3) := by decide +kernel
theorem d_Program_newValue_84 : decode prog_5_method_18_code 84 = .ok (.ireturn, 1) := by decide +kernel
theorem d_Program_newValue_85 : decode prog_5_method_18_code 85 = .ok (.aload_n 0, 1) := by decide +kernel
theorem d_Program_newValue_86 : decode prog_5_method_18_code 86 = .ok (.getfield 53, 3) := by decide +kernel
theorem d_Program_newValue_89 : decode prog_5_method_18_code 89 = .ok (.iload_n 2, 1) := by decide +kernel
theorem d_Program_newValue_90 : decode prog_5_method_18_code 90 = .ok (.invokevirtual 85, 3) := by decide +kernel
theorem d_Program_newValue_93 : decode prog_5_method_18_code 93 = .ok (.ireturn, 1) := by decide +kernel
theorem d_Program_newValue_94 : decode prog_5_method_18_code 94 = .ok (.iload_n 2, 1) := by decide +kernel
theorem d_Program_newValue_95 : decode prog_5_method_18_code 95 = .ok (.ireturn, 1) := by decide +kernel
def fm_Program_newValue (o : Nat) (a1 : Int) (a2 : Int) (w : fa_W) : Int :=
  if fa_wr a1 = 2 then
  (if 24 ≤ fa_wr a2 then
  a2
  else
  fr_at (fa_rf o 10) a2 w)
  else
  if fa_wr a1 = 3 then
  fr_at (fa_rf o 10) a2 w
  else
  if fa_wr a1 = 5 then
  fr_at (fa_rf o 10) a2 w
  else
  if fa_wr a1 = 9 then
  fr_at (fa_rf o 12) a2 w
  else
  a2
set_option maxHeartbeats 4000000 in
set_option maxRecDepth 100000 in
theorem c_Program_newValue {l : Launch} {D : va_G} {b : Nat} {aC : Nat → ClassId} {H0 : Heap} {N T : Nat} (hN : fa_NX ≤ N) (hT : fa_TX ≤ T) (o : Nat) (a1 : Int) (a2 : Int) (ho : (fa_sh o).1 = 4)  (w : fa_W) (r : Int) (hM : fm_Program_newValue o a1 a2 w = r) : fa_MC l D b aC H0 N T y_Program_newValue prog_5_method_18_code 3 ((Option.some Jvm.ClassFile.FieldType.int)) (1) [.ref (b + o), .int (fa_I a1), .int (fa_I a2)] w (some (.int (fa_I r))) w := by
  refine fa_enter (lv := [(0, .ref (b + o)), (1, .int (fa_I a1)), (2, .int (fa_I a2))]) (by decide +kernel) (Nat.le_of_ble_eq_true rfl) rfl (fun hh hle hnm X => ?_)
  unfold fm_Program_newValue at hM
  refine g_iload_n X 1 rfl d_Program_newValue_0 ?_
  by_cases hc1 : fa_wr a1 = 2
  · have hM := fa_if_t hM hc1
    refine g_tableIn X 2 48 d_Program_newValue_1 hc1 (by decide) (by decide) rfl (by decide) ?_
    refine g_iload_n X 2 rfl d_Program_newValue_48 ?_
    refine g_bipush X (by decide) d_Program_newValue_49 ?_
    refine g_icmp_ge X 65 d_Program_newValue_51 (by decide) (fun hc2 => ?_) (fun hc2 => ?_)
    · have hM := fa_if_t hM hc2
      refine g_iload_n X 2 rfl d_Program_newValue_65 ?_
      subst hM
      exact g_iret X d_Program_newValue_66
    · have hM := fa_if_f hM hc2
      refine g_aload_n X 0 rfl d_Program_newValue_54 ?_
      refine g_get X ck_4 ho (fa_xn ho (by decide) hN) 10 (by decide) wd_88 rfl (fa_fvR rfl (fa_xt ho (by decide) hT 10)) d_Program_newValue_55 ?_
      refine g_iload_n X 2 rfl d_Program_newValue_58 ?_
      refine g_callV_i X ck_6 (fa_r4_10 _ ho) (fa_xn (fa_r4_10 _ ho) (by decide) hN) rfl mi_Row_at (ct_Row_at (fa_rf o 10) a2 (fa_ro (fa_r4_10 _ ho) hN hT) w _ rfl) wd_427 rfl (Nat.le_trans (Nat.le_of_ble_eq_true rfl) hle) (st := []) (Nat.le_of_ble_eq_true rfl) rfl d_Program_newValue_59 ?_
      refine g_goto X 66 d_Program_newValue_62 (by decide) ?_
      subst hM
      exact g_iret X d_Program_newValue_66
  have hM := fa_if_f hM hc1
  by_cases hc4 : fa_wr a1 = 3
  · have hM := fa_if_t hM hc4
    refine g_tableIn X 3 67 d_Program_newValue_1 hc4 (by decide) (by decide) rfl (by decide) ?_
    refine g_aload_n X 0 rfl d_Program_newValue_67 ?_
    refine g_get X ck_4 ho (fa_xn ho (by decide) hN) 10 (by decide) wd_88 rfl (fa_fvR rfl (fa_xt ho (by decide) hT 10)) d_Program_newValue_68 ?_
    refine g_iload_n X 2 rfl d_Program_newValue_71 ?_
    refine g_callV_i X ck_6 (fa_r4_10 _ ho) (fa_xn (fa_r4_10 _ ho) (by decide) hN) rfl mi_Row_at (ct_Row_at (fa_rf o 10) a2 (fa_ro (fa_r4_10 _ ho) hN hT) w _ rfl) wd_427 rfl (Nat.le_trans (Nat.le_of_ble_eq_true rfl) hle) (st := []) (Nat.le_of_ble_eq_true rfl) rfl d_Program_newValue_72 ?_
    subst hM
    exact g_iret X d_Program_newValue_75
  have hM := fa_if_f hM hc4
  by_cases hc6 : fa_wr a1 = 5
  · have hM := fa_if_t hM hc6
    refine g_tableIn X 5 76 d_Program_newValue_1 hc6 (by decide) (by decide) rfl (by decide) ?_
    refine g_aload_n X 0 rfl d_Program_newValue_76 ?_
    refine g_get X ck_4 ho (fa_xn ho (by decide) hN) 10 (by decide) wd_88 rfl (fa_fvR rfl (fa_xt ho (by decide) hT 10)) d_Program_newValue_77 ?_
    refine g_iload_n X 2 rfl d_Program_newValue_80 ?_
    refine g_callV_i X ck_6 (fa_r4_10 _ ho) (fa_xn (fa_r4_10 _ ho) (by decide) hN) rfl mi_Row_at (ct_Row_at (fa_rf o 10) a2 (fa_ro (fa_r4_10 _ ho) hN hT) w _ rfl) wd_427 rfl (Nat.le_trans (Nat.le_of_ble_eq_true rfl) hle) (st := []) (Nat.le_of_ble_eq_true rfl) rfl d_Program_newValue_81 ?_
    subst hM
    exact g_iret X d_Program_newValue_84
  have hM := fa_if_f hM hc6
  by_cases hc8 : fa_wr a1 = 9
  · have hM := fa_if_t hM hc8
    refine g_tableIn X 9 85 d_Program_newValue_1 hc8 (by decide) (by decide) rfl (by decide) ?_
    refine g_aload_n X 0 rfl d_Program_newValue_85 ?_
    refine g_get X ck_4 ho (fa_xn ho (by decide) hN) 12 (by decide) wd_90 rfl (fa_fvR rfl (fa_xt ho (by decide) hT 12)) d_Program_newValue_86 ?_
    refine g_iload_n X 2 rfl d_Program_newValue_89 ?_
    refine g_callV_i X ck_6 (fa_r4_12 _ ho) (fa_xn (fa_r4_12 _ ho) (by decide) hN) rfl mi_Row_at (ct_Row_at (fa_rf o 12) a2 (fa_ro (fa_r4_12 _ ho) hN hT) w _ rfl) wd_427 rfl (Nat.le_trans (Nat.le_of_ble_eq_true rfl) hle) (st := []) (Nat.le_of_ble_eq_true rfl) rfl d_Program_newValue_90 ?_
    subst hM
    exact g_iret X d_Program_newValue_93
  have hM := fa_if_f hM hc8
  refine g_tableDef X 94 d_Program_newValue_1 (by
    by_cases h9 : fa_wr a1 = 4
    · rw [h9]; exact Or.inr ⟨by decide, by decide, _, rfl, by decide⟩
    by_cases h9 : fa_wr a1 = 6
    · rw [h9]; exact Or.inr ⟨by decide, by decide, _, rfl, by decide⟩
    by_cases h9 : fa_wr a1 = 7
    · rw [h9]; exact Or.inr ⟨by decide, by decide, _, rfl, by decide⟩
    by_cases h9 : fa_wr a1 = 8
    · rw [h9]; exact Or.inr ⟨by decide, by decide, _, rfl, by decide⟩
    exact Or.inl (by omega)) (by decide) ?_
  refine g_iload_n X 2 rfl d_Program_newValue_94 ?_
  subst hM
  exact g_iret X d_Program_newValue_95
theorem d_Program_copyThing_0 : decode prog_5_method_17_code 0 = .ok (.aload_n 0, 1) := by decide +kernel
theorem d_Program_copyThing_1 : decode prog_5_method_17_code 1 = .ok (.aload_n 1, 1) := by decide +kernel
theorem d_Program_copyThing_2 : decode prog_5_method_17_code 2 = .ok (.iload_n 2, 1) := by decide +kernel
theorem d_Program_copyThing_3 : decode prog_5_method_17_code 3 = .ok (.invokevirtual 138, 3) := by decide +kernel
theorem d_Program_copyThing_6 : decode prog_5_method_17_code 6 = .ok (.aload_n 1, 1) := by decide +kernel
theorem d_Program_copyThing_7 : decode prog_5_method_17_code 7 = .ok (.iload_n 2, 1) := by decide +kernel
theorem d_Program_copyThing_8 : decode prog_5_method_17_code 8 = .ok (.invokevirtual 141, 3) := by decide +kernel
theorem d_Program_copyThing_11 : decode prog_5_method_17_code 11 = .ok (.invokevirtual 144, 3) := by decide +kernel
theorem d_Program_copyThing_14 : decode prog_5_method_17_code 14 = .ok (.istore 4, 2) := by decide +kernel
theorem d_Program_copyThing_16 : decode prog_5_method_17_code 16 = .ok (.aload_n 0, 1) := by decide +kernel
theorem d_Program_copyThing_17 : decode prog_5_method_17_code 17 = .ok (.getfield 47, 3) := by decide +kernel
theorem d_Program_copyThing_20 : decode prog_5_method_17_code 20 = .ok (.aload_n 1, 1) := by decide +kernel
theorem d_Program_copyThing_21 : decode prog_5_method_17_code 21 = .ok (.iload_n 2, 1) := by decide +kernel
theorem d_Program_copyThing_22 : decode prog_5_method_17_code 22 = .ok (.invokevirtual 89, 3) := by decide +kernel
theorem d_Program_copyThing_25 : decode prog_5_method_17_code 25 = .ok (.invokevirtual 85, 3) := by decide +kernel
theorem d_Program_copyThing_28 : decode prog_5_method_17_code 28 = .ok (.istore 5, 2) := by decide +kernel
theorem d_Program_copyThing_30 : decode prog_5_method_17_code 30 = .ok (.aload_n 1, 1) := by decide +kernel
theorem d_Program_copyThing_31 : decode prog_5_method_17_code 31 = .ok (.iload_n 2, 1) := by decide +kernel
theorem d_Program_copyThing_32 : decode prog_5_method_17_code 32 = .ok (.iload_n 3, 1) := by decide +kernel
theorem d_Program_copyThing_33 : decode prog_5_method_17_code 33 = .ok (.invokestatic 131, 3) := by decide +kernel
theorem d_Program_copyThing_36 : decode prog_5_method_17_code 36 = .ok (.ifCond .eq 30, 3) := by decide +kernel
theorem d_Program_copyThing_39 : decode prog_5_method_17_code 39 = .ok (.aload_n 0, 1) := by decide +kernel
theorem d_Program_copyThing_40 : decode prog_5_method_17_code 40 = .ok (.iconst 4, 1) := by decide +kernel
theorem d_Program_copyThing_41 : decode prog_5_method_17_code 41 = .ok (.iconst 0, 1) := by decide +kernel
theorem d_Program_copyThing_42 : decode prog_5_method_17_code 42 = .ok (.iload 4, 2) := by decide +kernel
theorem d_Program_copyThing_44 : decode prog_5_method_17_code 44 = .ok (.iconst (-1), 1) := by decide +kernel
theorem d_Program_copyThing_45 : decode prog_5_method_17_code 45 = .ok (.iconst (-1), 1) := by decide +kernel
theorem d_Program_copyThing_46 : decode prog_5_method_17_code 46 = .ok (.iconst (-1), 1) := by decide +kernel
theorem d_Program_copyThing_47 : decode prog_5_method_17_code 47 = .ok (.invokevirtual 77, 3) := by decide +kernel
theorem d_Program_copyThing_50 : decode prog_5_method_17_code 50 = .ok (.istore 6, 2) := by decide +kernel
theorem d_Program_copyThing_52 : decode prog_5_method_17_code 52 = .ok (.aload_n 0, 1) := by decide +kernel
theorem d_Program_copyThing_53 : decode prog_5_method_17_code 53 = .ok (.iconst 5, 1) := by decide +kernel
theorem d_Program_copyThing_54 : decode prog_5_method_17_code 54 = .ok (.iload 4, 2) := by decide +kernel
theorem d_Program_copyThing_56 : decode prog_5_method_17_code 56 = .ok (.iload 5, 2) := by decide +kernel
theorem d_Program_copyThing_58 : decode prog_5_method_17_code 58 = .ok (.iload 6, 2) := by decide +kernel
theorem d_Program_copyThing_60 : decode prog_5_method_17_code 60 = .ok (.iconst (-1), 1) := by decide +kernel
theorem d_Program_copyThing_61 : decode prog_5_method_17_code 61 = .ok (.iconst (-1), 1) := by decide +kernel
theorem d_Program_copyThing_62 : decode prog_5_method_17_code 62 = .ok (.invokevirtual 77, 3) := by decide +kernel
theorem d_Program_copyThing_65 : decode prog_5_method_17_code 65 = .ok (.ireturn, 1) := by decide +kernel
theorem d_Program_copyThing_66 : decode prog_5_method_17_code 66 = .ok (.aload_n 0, 1) := by decide +kernel
theorem d_Program_copyThing_67 : decode prog_5_method_17_code 67 = .ok (.aload_n 1, 1) := by decide +kernel
theorem d_Program_copyThing_68 : decode prog_5_method_17_code 68 = .ok (.iload_n 2, 1) := by decide +kernel
theorem d_Program_copyThing_69 : decode prog_5_method_17_code 69 = .ok (.invokevirtual 138, 3) := by decide +kernel
theorem d_Program_copyThing_72 : decode prog_5_method_17_code 72 = .ok (.iload 4, 2) := by decide +kernel
theorem d_Program_copyThing_74 : decode prog_5_method_17_code 74 = .ok (.iload 5, 2) := by decide +kernel
theorem d_Program_copyThing_76 : decode prog_5_method_17_code 76 = .ok (.aload_n 0, 1) := by decide +kernel
theorem d_Program_copyThing_77 : decode prog_5_method_17_code 77 = .ok (.getfield 50, 3) := by decide +kernel
theorem d_Program_copyThing_80 : decode prog_5_method_17_code 80 = .ok (.aload_n 1, 1) := by decide +kernel
theorem d_Program_copyThing_81 : decode prog_5_method_17_code 81 = .ok (.iload_n 2, 1) := by decide +kernel
theorem d_Program_copyThing_82 : decode prog_5_method_17_code 82 = .ok (.iconst 0, 1) := by decide +kernel
theorem d_Program_copyThing_83 : decode prog_5_method_17_code 83 = .ok (.invokevirtual 135, 3) := by decide +kernel
theorem d_Program_copyThing_86 : decode prog_5_method_17_code 86 = .ok (.invokevirtual 85, 3) := by decide +kernel
theorem d_Program_copyThing_89 : decode prog_5_method_17_code 89 = .ok (.aload_n 0, 1) := by decide +kernel
theorem d_Program_copyThing_90 : decode prog_5_method_17_code 90 = .ok (.getfield 50, 3) := by decide +kernel
theorem d_Program_copyThing_93 : decode prog_5_method_17_code 93 = .ok (.aload_n 1, 1) := by decide +kernel
theorem d_Program_copyThing_94 : decode prog_5_method_17_code 94 = .ok (.iload_n 2, 1) := by decide +kernel
theorem d_Program_copyThing_95 : decode prog_5_method_17_code 95 = .ok (.iconst 1, 1) := by decide +kernel
theorem d_Program_copyThing_96 : decode prog_5_method_17_code 96 = .ok (.invokevirtual 135, 3) := by decide +kernel
theorem d_Program_copyThing_99 : decode prog_5_method_17_code 99 = .ok (.invokevirtual 85, 3) := by decide +kernel
theorem d_Program_copyThing_102 : decode prog_5_method_17_code 102 = .ok (.aload_n 0, 1) := by decide +kernel
theorem d_Program_copyThing_103 : decode prog_5_method_17_code 103 = .ok (.getfield 50, 3) := by decide +kernel
theorem d_Program_copyThing_106 : decode prog_5_method_17_code 106 = .ok (.aload_n 1, 1) := by decide +kernel
theorem d_Program_copyThing_107 : decode prog_5_method_17_code 107 = .ok (.iload_n 2, 1) := by decide +kernel
theorem d_Program_copyThing_108 : decode prog_5_method_17_code 108 = .ok (.iconst 2, 1) := by decide +kernel
theorem d_Program_copyThing_109 : decode prog_5_method_17_code 109 = .ok (.invokevirtual 135, 3) := by decide +kernel
theorem d_Program_copyThing_112 : decode prog_5_method_17_code 112 = .ok (.invokevirtual 85, 3) := by decide +kernel
theorem d_Program_copyThing_115 : decode prog_5_method_17_code 115 = .ok (.invokevirtual 77, 3) := by decide +kernel
theorem d_Program_copyThing_118 : decode prog_5_method_17_code 118 = .ok (.ireturn, 1) := by decide +kernel
def fm_Program_copyThing (o : Nat) (a1 : Nat) (a2 : Int) (a3 : Int) (w : fa_W) : Int × fa_W :=
  fa_let (fm_Program_newValue o (fm_Program_kind a1 a2 w) (fm_Program_value a1 a2 w) w) fun x4_4 =>
  fa_let (fr_at (fa_rf o 10) (fm_Program_owner a1 a2 w) w) fun x5_7 =>
  if fm_Program_losesBody a1 a2 a3 w = true then
  (fa_l2 (fm_Program_add o 4 0 x4_4 (-1) (-1) (-1) w) fun v21 w22 =>
  fa_l2 (fm_Program_add o 5 x4_4 x5_7 v21 (-1) (-1) w22) fun v24 w25 =>
  (v24, w25))
  else
  (fa_l2 (fm_Program_add o (fm_Program_kind a1 a2 w) x4_4 x5_7 (fr_at (fa_rf o 11) (fm_Program_part a1 a2 0 w) w) (fr_at (fa_rf o 11) (fm_Program_part a1 a2 1 w) w) (fr_at (fa_rf o 11) (fm_Program_part a1 a2 2 w) w) w) fun v18 w19 =>
  (v18, w19))
set_option maxHeartbeats 4000000 in
set_option maxRecDepth 100000 in
theorem c_Program_copyThing {l : Launch} {D : va_G} {b : Nat} {aC : Nat → ClassId} {H0 : Heap} {N T : Nat} (hN : fa_NX ≤ N) (hT : fa_TX ≤ T) (o : Nat) (a1 : Nat) (a2 : Int) (a3 : Int) (ho : (fa_sh o).1 = 4) (ha1 : (fa_sh a1).1 = 4)  (w : fa_W) (r : Int × fa_W) (hM : fm_Program_copyThing o a1 a2 a3 w = r) : fa_MC l D b aC H0 N T y_Program_copyThing prog_5_method_17_code 7 ((Option.some Jvm.ClassFile.FieldType.int)) (2) [.ref (b + o), .ref (b + a1), .int (fa_I a2), .int (fa_I a3)] w (some (.int (fa_I r.1))) r.2 := by
  refine fa_enter (lv := [(0, .ref (b + o)), (1, .ref (b + a1)), (2, .int (fa_I a2)), (3, .int (fa_I a3))]) (by decide +kernel) (Nat.le_of_ble_eq_true rfl) rfl (fun hh hle hnm X => ?_)
  unfold fm_Program_copyThing at hM
  refine g_aload_n X 0 rfl d_Program_copyThing_0 ?_
  refine g_aload_n X 1 rfl d_Program_copyThing_1 ?_
  refine g_iload_n X 2 rfl d_Program_copyThing_2 ?_
  refine g_callV_i X ck_4 ha1 (fa_xn ha1 (by decide) hN) rfl mi_Program_kind (c_Program_kind hN hT a1 a2 ha1 w _ rfl) wd_747 rfl (Nat.le_trans (Nat.le_of_ble_eq_true rfl) hle) (st := [.ref (b + o)]) (Nat.le_of_ble_eq_true rfl) rfl d_Program_copyThing_3 ?_
  refine g_aload_n X 1 rfl d_Program_copyThing_6 ?_
  refine g_iload_n X 2 rfl d_Program_copyThing_7 ?_
  refine g_callV_i X ck_4 ha1 (fa_xn ha1 (by decide) hN) rfl mi_Program_value (c_Program_value hN hT a1 a2 ha1 w _ rfl) wd_748 rfl (Nat.le_trans (Nat.le_of_ble_eq_true rfl) hle) (st := [.int (fa_I (fm_Program_kind a1 a2 w)), .ref (b + o)]) (Nat.le_of_ble_eq_true rfl) rfl d_Program_copyThing_8 ?_
  refine g_callV_i X ck_4 ho (fa_xn ho (by decide) hN) rfl mi_Program_newValue (c_Program_newValue hN hT o (fm_Program_kind a1 a2 w) (fm_Program_value a1 a2 w) ho w _ rfl) wd_749 rfl (Nat.le_trans (Nat.le_of_ble_eq_true rfl) hle) (st := []) (Nat.le_of_ble_eq_true rfl) rfl d_Program_copyThing_11 ?_
  refine g_istore X (fun x4_4 => [(4, .int (fa_I x4_4)), (0, .ref (b + o)), (1, .ref (b + a1)), (2, .int (fa_I a2)), (3, .int (fa_I a3))]) d_Program_copyThing_14 (by decide) (fun _ => rfl) (fun x4_4 ex4_4 => ?_)
  have hM := fa_let_to hM ex4_4
  refine g_aload_n X 1 rfl d_Program_copyThing_16 ?_
  refine g_get X ck_4 ho (fa_xn ho (by decide) hN) 10 (by decide) wd_88 rfl (fa_fvR rfl (fa_xt ho (by decide) hT 10)) d_Program_copyThing_17 ?_
  refine g_aload_n X 2 rfl d_Program_copyThing_20 ?_
  refine g_iload_n X 3 rfl d_Program_copyThing_21 ?_
  refine g_callV_i X ck_4 ha1 (fa_xn ha1 (by decide) hN) rfl mi_Program_owner (c_Program_owner hN hT a1 a2 ha1 w _ rfl) wd_753 rfl (Nat.le_trans (Nat.le_of_ble_eq_true rfl) hle) (st := [.ref (b + (fa_rf o 10))]) (Nat.le_of_ble_eq_true rfl) rfl d_Program_copyThing_22 ?_
  refine g_callV_i X ck_6 (fa_r4_10 _ ho) (fa_xn (fa_r4_10 _ ho) (by decide) hN) rfl mi_Row_at (ct_Row_at (fa_rf o 10) (fm_Program_owner a1 a2 w) (fa_ro (fa_r4_10 _ ho) hN hT) w _ rfl) wd_427 rfl (Nat.le_trans (Nat.le_of_ble_eq_true rfl) hle) (st := []) (Nat.le_of_ble_eq_true rfl) rfl d_Program_copyThing_25 ?_
  refine g_istore X (fun x5_7 => [(5, .int (fa_I x5_7)), (4, .int (fa_I x4_4)), (0, .ref (b + o)), (1, .ref (b + a1)), (2, .int (fa_I a2)), (3, .int (fa_I a3))]) d_Program_copyThing_28 (by decide) (fun _ => rfl) (fun x5_7 ex5_7 => ?_)
  have hM := fa_let_to hM ex5_7
  refine g_aload_n X 3 rfl d_Program_copyThing_30 ?_
  refine g_iload_n X 4 rfl d_Program_copyThing_31 ?_
  refine g_iload_n X 5 rfl d_Program_copyThing_32 ?_
  refine g_callS_i X mi_Program_losesBody (c_Program_losesBody hN hT a1 a2 a3 ha1 w _ rfl) wd_735 rfl (Nat.le_trans (Nat.le_of_ble_eq_true rfl) hle) (st := []) (Nat.le_of_ble_eq_true rfl) rfl d_Program_copyThing_33 ?_
  refine g_ifb_eq X 66 d_Program_copyThing_36 (by decide) (fun hc9 => ?_) (fun hc9 => ?_)
  · have hM := fa_ifb_f hM hc9
    refine g_aload_n X 2 rfl d_Program_copyThing_66 ?_
    refine g_aload_n X 3 rfl d_Program_copyThing_67 ?_
    refine g_iload_n X 4 rfl d_Program_copyThing_68 ?_
    refine g_callV_i X ck_4 ha1 (fa_xn ha1 (by decide) hN) rfl mi_Program_kind (c_Program_kind hN hT a1 a2 ha1 w _ rfl) wd_747 rfl (Nat.le_trans (Nat.le_of_ble_eq_true rfl) hle) (st := [.ref (b + o)]) (Nat.le_of_ble_eq_true rfl) rfl d_Program_copyThing_69 ?_
    refine g_iload X 1 rfl d_Program_copyThing_72 ?_
    refine g_iload X 0 rfl d_Program_copyThing_74 ?_
    refine g_aload_n X 2 rfl d_Program_copyThing_76 ?_
    refine g_get X ck_4 ho (fa_xn ho (by decide) hN) 11 (by decide) wd_89 rfl (fa_fvR rfl (fa_xt ho (by decide) hT 11)) d_Program_copyThing_77 ?_
    refine g_aload_n X 3 rfl d_Program_copyThing_80 ?_
    refine g_iload_n X 4 rfl d_Program_copyThing_81 ?_
    refine g_iconst X d_Program_copyThing_82 ?_
    refine g_callV_i X ck_4 ha1 (fa_xn ha1 (by decide) hN) rfl mi_Program_part (c_Program_part hN hT a1 a2 0 ha1 w _ rfl) wd_738 rfl (Nat.le_trans (Nat.le_of_ble_eq_true rfl) hle) (st := [.ref (b + (fa_rf o 11)), .int (fa_I x5_7), .int (fa_I x4_4), .int (fa_I (fm_Program_kind a1 a2 w)), .ref (b + o)]) (Nat.le_of_ble_eq_true rfl) rfl d_Program_copyThing_83 ?_
    refine g_callV_i X ck_6 (fa_r4_11 _ ho) (fa_xn (fa_r4_11 _ ho) (by decide) hN) rfl mi_Row_at (ct_Row_at (fa_rf o 11) (fm_Program_part a1 a2 0 w) (fa_ro (fa_r4_11 _ ho) hN hT) w _ rfl) wd_427 rfl (Nat.le_trans (Nat.le_of_ble_eq_true rfl) hle) (st := [.int (fa_I x5_7), .int (fa_I x4_4), .int (fa_I (fm_Program_kind a1 a2 w)), .ref (b + o)]) (Nat.le_of_ble_eq_true rfl) rfl d_Program_copyThing_86 ?_
    refine g_aload_n X 2 rfl d_Program_copyThing_89 ?_
    refine g_get X ck_4 ho (fa_xn ho (by decide) hN) 11 (by decide) wd_89 rfl (fa_fvR rfl (fa_xt ho (by decide) hT 11)) d_Program_copyThing_90 ?_
    refine g_aload_n X 3 rfl d_Program_copyThing_93 ?_
    refine g_iload_n X 4 rfl d_Program_copyThing_94 ?_
    refine g_iconst X d_Program_copyThing_95 ?_
    refine g_callV_i X ck_4 ha1 (fa_xn ha1 (by decide) hN) rfl mi_Program_part (c_Program_part hN hT a1 a2 1 ha1 w _ rfl) wd_738 rfl (Nat.le_trans (Nat.le_of_ble_eq_true rfl) hle) (st := [.ref (b + (fa_rf o 11)), .int (fa_I (fr_at (fa_rf o 11) (fm_Program_part a1 a2 0 w) w)), .int (fa_I x5_7), .int (fa_I x4_4), .int (fa_I (fm_Program_kind a1 a2 w)), .ref (b + o)]) (Nat.le_of_ble_eq_true rfl) rfl d_Program_copyThing_96 ?_
    refine g_callV_i X ck_6 (fa_r4_11 _ ho) (fa_xn (fa_r4_11 _ ho) (by decide) hN) rfl mi_Row_at (ct_Row_at (fa_rf o 11) (fm_Program_part a1 a2 1 w) (fa_ro (fa_r4_11 _ ho) hN hT) w _ rfl) wd_427 rfl (Nat.le_trans (Nat.le_of_ble_eq_true rfl) hle) (st := [.int (fa_I (fr_at (fa_rf o 11) (fm_Program_part a1 a2 0 w) w)), .int (fa_I x5_7), .int (fa_I x4_4), .int (fa_I (fm_Program_kind a1 a2 w)), .ref (b + o)]) (Nat.le_of_ble_eq_true rfl) rfl d_Program_copyThing_99 ?_
    refine g_aload_n X 2 rfl d_Program_copyThing_102 ?_
    refine g_get X ck_4 ho (fa_xn ho (by decide) hN) 11 (by decide) wd_89 rfl (fa_fvR rfl (fa_xt ho (by decide) hT 11)) d_Program_copyThing_103 ?_
    refine g_aload_n X 3 rfl d_Program_copyThing_106 ?_
    refine g_iload_n X 4 rfl d_Program_copyThing_107 ?_
    refine g_iconst X d_Program_copyThing_108 ?_
    refine g_callV_i X ck_4 ha1 (fa_xn ha1 (by decide) hN) rfl mi_Program_part (c_Program_part hN hT a1 a2 2 ha1 w _ rfl) wd_738 rfl (Nat.le_trans (Nat.le_of_ble_eq_true rfl) hle) (st := [.ref (b + (fa_rf o 11)), .int (fa_I (fr_at (fa_rf o 11) (fm_Program_part a1 a2 1 w) w)), .int (fa_I (fr_at (fa_rf o 11) (fm_Program_part a1 a2 0 w) w)), .int (fa_I x5_7), .int (fa_I x4_4), .int (fa_I (fm_Program_kind a1 a2 w)), .ref (b + o)]) (Nat.le_of_ble_eq_true rfl) rfl d_Program_copyThing_109 ?_
    refine g_callV_i X ck_6 (fa_r4_11 _ ho) (fa_xn (fa_r4_11 _ ho) (by decide) hN) rfl mi_Row_at (ct_Row_at (fa_rf o 11) (fm_Program_part a1 a2 2 w) (fa_ro (fa_r4_11 _ ho) hN hT) w _ rfl) wd_427 rfl (Nat.le_trans (Nat.le_of_ble_eq_true rfl) hle) (st := [.int (fa_I (fr_at (fa_rf o 11) (fm_Program_part a1 a2 1 w) w)), .int (fa_I (fr_at (fa_rf o 11) (fm_Program_part a1 a2 0 w) w)), .int (fa_I x5_7), .int (fa_I x4_4), .int (fa_I (fm_Program_kind a1 a2 w)), .ref (b + o)]) (Nat.le_of_ble_eq_true rfl) rfl d_Program_copyThing_112 ?_
    obtain ⟨⟨v18, w19⟩, e17⟩ : ∃ q, fm_Program_add o (fm_Program_kind a1 a2 w) x4_4 x5_7 (fr_at (fa_rf o 11) (fm_Program_part a1 a2 0 w) w) (fr_at (fa_rf o 11) (fm_Program_part a1 a2 1 w) w) (fr_at (fa_rf o 11) (fm_Program_part a1 a2 2 w) w) w = q := ⟨_, rfl⟩
    have hM := fa_l2_e hM e17
    refine g_callV_i X ck_4 ho (fa_xn ho (by decide) hN) rfl mi_Program_add (c_Program_add hN hT o (fm_Program_kind a1 a2 w) x4_4 x5_7 (fr_at (fa_rf o 11) (fm_Program_part a1 a2 0 w) w) (fr_at (fa_rf o 11) (fm_Program_part a1 a2 1 w) w) (fr_at (fa_rf o 11) (fm_Program_part a1 a2 2 w) w) ho w _ e17) wd_418 rfl (Nat.le_trans (Nat.le_of_ble_eq_true rfl) hle) (st := []) (Nat.le_of_ble_eq_true rfl) rfl d_Program_copyThing_115 ?_
    subst hM
    exact g_iret X d_Program_copyThing_118
  · have hM := fa_ifb_t hM hc9
    refine g_aload_n X 2 rfl d_Program_copyThing_39 ?_
    refine g_iconst X d_Program_copyThing_40 ?_
    refine g_iconst X d_Program_copyThing_41 ?_
    refine g_iload X 1 rfl d_Program_copyThing_42 ?_
    refine g_iconst X d_Program_copyThing_44 ?_
    refine g_iconst X d_Program_copyThing_45 ?_
    refine g_iconst X d_Program_copyThing_46 ?_
    obtain ⟨⟨v21, w22⟩, e20⟩ : ∃ q, fm_Program_add o 4 0 x4_4 (-1) (-1) (-1) w = q := ⟨_, rfl⟩
    have hM := fa_l2_e hM e20
    refine g_callV_i X ck_4 ho (fa_xn ho (by decide) hN) rfl mi_Program_add (c_Program_add hN hT o 4 0 x4_4 (-1) (-1) (-1) ho w _ e20) wd_418 rfl (Nat.le_trans (Nat.le_of_ble_eq_true rfl) hle) (st := []) (Nat.le_of_ble_eq_true rfl) rfl d_Program_copyThing_47 ?_
    refine g_istorec X [(6, .int (fa_I v21)), (5, .int (fa_I x5_7)), (4, .int (fa_I x4_4)), (0, .ref (b + o)), (1, .ref (b + a1)), (2, .int (fa_I a2)), (3, .int (fa_I a3))] d_Program_copyThing_50 (by decide) rfl ?_
    refine g_aload_n X 3 rfl d_Program_copyThing_52 ?_
    refine g_iconst X d_Program_copyThing_53 ?_
    refine g_iload X 2 rfl d_Program_copyThing_54 ?_
    refine g_iload X 1 rfl d_Program_copyThing_56 ?_
    refine g_iload X 0 rfl d_Program_copyThing_58 ?_
    refine g_iconst X d_Program_copyThing_60 ?_
    refine g_iconst X d_Program_copyThing_61 ?_
    obtain ⟨⟨v24, w25⟩, e23⟩ : ∃ q, fm_Program_add o 5 x4_4 x5_7 v21 (-1) (-1) w22 = q := ⟨_, rfl⟩
    have hM := fa_l2_e hM e23
    refine g_callV_i X ck_4 ho (fa_xn ho (by decide) hN) rfl mi_Program_add (c_Program_add hN hT o 5 x4_4 x5_7 v21 (-1) (-1) ho w22 _ e23) wd_418 rfl (Nat.le_trans (Nat.le_of_ble_eq_true rfl) hle) (st := []) (Nat.le_of_ble_eq_true rfl) rfl d_Program_copyThing_62 ?_
    subst hM
    exact g_iret X d_Program_copyThing_65
theorem d_Program_copyGlobals_0 : decode prog_5_method_19_code 0 = .ok (.iconst 0, 1) := by decide +kernel
theorem d_Program_copyGlobals_1 : decode prog_5_method_19_code 1 = .ok (.istore_n 3, 1) := by decide +kernel
theorem d_Program_copyGlobals_2 : decode prog_5_method_19_code 2 = .ok (.iload_n 3, 1) := by decide +kernel
theorem d_Program_copyGlobals_3 : decode prog_5_method_19_code 3 = .ok (.aload_n 1, 1) := by decide +kernel
theorem d_Program_copyGlobals_4 : decode prog_5_method_19_code 4 = .ok (.getfield 56, 3) := by decide +kernel
theorem d_Program_copyGlobals_7 : decode prog_5_method_19_code 7 = .ok (.if_icmp .ge 96, 3) := by decide +kernel
theorem d_Program_copyGlobals_10 : decode prog_5_method_19_code 10 = .ok (.aload_n 0, 1) := by decide +kernel
theorem d_Program_copyGlobals_11 : decode prog_5_method_19_code 11 = .ok (.getfield 47, 3) := by decide +kernel
theorem d_Program_copyGlobals_14 : decode prog_5_method_19_code 14 = .ok (.iload_n 3, 1) := by decide +kernel
theorem d_Program_copyGlobals_15 : decode prog_5_method_19_code 15 = .ok (.invokevirtual 85, 3) := by decide +kernel
theorem d_Program_copyGlobals_18 : decode prog_5_method_19_code 18 = .ok (.istore 4, 2) := by decide +kernel
theorem d_Program_copyGlobals_20 : decode prog_5_method_19_code 20 = .ok (.iload 4, 2) := by decide +kernel
theorem d_Program_copyGlobals_22 : decode prog_5_method_19_code 22 = .ok (.iconst (-1), 1) := by decide +kernel
theorem d_Program_copyGlobals_23 : decode prog_5_method_19_code 23 = .ok (.if_icmp .eq 74, 3) := by decide +kernel
theorem d_Program_copyGlobals_26 : decode prog_5_method_19_code 26 = .ok (.aload_n 0, 1) := by decide +kernel
theorem d_Program_copyGlobals_27 : decode prog_5_method_19_code 27 = .ok (.getfield 41, 3) := by decide +kernel
theorem d_Program_copyGlobals_30 : decode prog_5_method_19_code 30 = .ok (.aload_n 1, 1) := by decide +kernel
theorem d_Program_copyGlobals_31 : decode prog_5_method_19_code 31 = .ok (.getfield 41, 3) := by decide +kernel
theorem d_Program_copyGlobals_34 : decode prog_5_method_19_code 34 = .ok (.iload_n 3, 1) := by decide +kernel
theorem d_Program_copyGlobals_35 : decode prog_5_method_19_code 35 = .ok (.invokevirtual 85, 3) := by decide +kernel
theorem d_Program_copyGlobals_38 : decode prog_5_method_19_code 38 = .ok (.invokevirtual 92, 3) := by decide +kernel
theorem d_Program_copyGlobals_41 : decode prog_5_method_19_code 41 = .ok (.aload_n 0, 1) := by decide +kernel
theorem d_Program_copyGlobals_42 : decode prog_5_method_19_code 42 = .ok (.dup, 1) := by decide +kernel
theorem d_Program_copyGlobals_43 : decode prog_5_method_19_code 43 = .ok (.getfield 56, 3) := by decide +kernel
theorem d_Program_copyGlobals_46 : decode prog_5_method_19_code 46 = .ok (.iconst 1, 1) := by decide +kernel
theorem d_Program_copyGlobals_47 : decode prog_5_method_19_code 47 = .ok (.iadd, 1) := by decide +kernel
theorem d_Program_copyGlobals_48 : decode prog_5_method_19_code 48 = .ok (.putfield 56, 3) := by decide +kernel
theorem d_Program_copyGlobals_51 : decode prog_5_method_19_code 51 = .ok (.aload_n 0, 1) := by decide +kernel
theorem d_Program_copyGlobals_52 : decode prog_5_method_19_code 52 = .ok (.getfield 44, 3) := by decide +kernel
theorem d_Program_copyGlobals_55 : decode prog_5_method_19_code 55 = .ok (.iload 4, 2) := by decide +kernel
theorem d_Program_copyGlobals_57 : decode prog_5_method_19_code 57 = .ok (.iload_n 2, 1) := by decide +kernel
theorem d_Program_copyGlobals_58 : decode prog_5_method_19_code 58 = .ok (.iload_n 3, 1) := by decide +kernel
theorem d_Program_copyGlobals_59 : decode prog_5_method_19_code 59 = .ok (.invokestatic 127, 3) := by decide +kernel
theorem d_Program_copyGlobals_62 : decode prog_5_method_19_code 62 = .ok (.ifCond .eq 21, 3) := by decide +kernel
theorem d_Program_copyGlobals_65 : decode prog_5_method_19_code 65 = .ok (.aload_n 0, 1) := by decide +kernel
theorem d_Program_copyGlobals_66 : decode prog_5_method_19_code 66 = .ok (.getfield 50, 3) := by decide +kernel
theorem d_Program_copyGlobals_69 : decode prog_5_method_19_code 69 = .ok (.aload_n 1, 1) := by decide +kernel
theorem d_Program_copyGlobals_70 : decode prog_5_method_19_code 70 = .ok (.getfield 44, 3) := by decide +kernel
theorem d_Program_copyGlobals_73 : decode prog_5_method_19_code 73 = .ok (.iload_n 3, 1) := by decide +kernel
theorem d_Program_copyGlobals_74 : decode prog_5_method_19_code 74 = .ok (.invokevirtual 85, 3) := by decide +kernel
theorem d_Program_copyGlobals_77 : decode prog_5_method_19_code 77 = .ok (.invokevirtual 85, 3) := by decide +kernel
theorem d_Program_copyGlobals_80 : decode prog_5_method_19_code 80 = .ok (.goto 14, 3) := by decide +kernel
theorem d_Program_copyGlobals_83 : decode prog_5_method_19_code 83 = .ok (.aload_n 0, 1) := by decide +kernel
theorem d_Program_copyGlobals_84 : decode prog_5_method_19_code 84 = .ok (.iconst 4, 1) := by decide +kernel
theorem d_Program_copyGlobals_85 : decode prog_5_method_19_code 85 = .ok (.iconst 0, 1) := by decide +kernel
theorem d_Program_copyGlobals_86 : decode prog_5_method_19_code 86 = .ok (.iload 4, 2) := by decide +kernel
theorem d_Program_copyGlobals_88 : decode prog_5_method_19_code 88 = .ok (.iconst (-1), 1) := by decide +kernel
theorem d_Program_copyGlobals_89 : decode prog_5_method_19_code 89 = .ok (.iconst (-1), 1) := by decide +kernel
theorem d_Program_copyGlobals_90 : decode prog_5_method_19_code 90 = .ok (.iconst (-1), 1) := by decide +kernel
theorem d_Program_copyGlobals_91 : decode prog_5_method_19_code 91 = .ok (.invokevirtual 77, 3) := by decide +kernel
theorem d_Program_copyGlobals_94 : decode prog_5_method_19_code 94 = .ok (.invokevirtual 94, 3) := by decide +kernel
theorem d_Program_copyGlobals_97 : decode prog_5_method_19_code 97 = .ok (.iinc 3 1, 3) := by decide +kernel
theorem d_Program_copyGlobals_100 : decode prog_5_method_19_code 100 = .ok (.goto (-98), 3) := by decide +kernel
theorem d_Program_copyGlobals_103 : decode prog_5_method_19_code 103 = .ok (.return_, 1) := by decide +kernel
def fm_Program_copyGlobals_j94 (o : Nat) (a1 : Nat) (a2 : Int) (k2 : Int → fa_W → Option fa_W) (x3 : Int) (s0 : Int) (s1 : Int) (w : fa_W) : Option fa_W :=
  fa_let (fr_set (fa_rf o 9) s1 s0 w) fun w16 =>
  fa_let (x3 + 1) fun x3_17 =>
  k2 x3_17 w16
set_option maxHeartbeats 4000000 in
set_option maxRecDepth 100000 in
theorem c_Program_copyGlobals_j94 {p : Program} {l : Launch} {e : Env} {s : State} {m : MethodId} {args : Array Value} {below : List Frame} {meth : Method} {c : Code} {hh : Nat} {D : va_G} {b : Nat} {aC : Nat → ClassId} {H0 : Heap} {N T : Nat} (X : fa_GX p s m args meth c prog_5_method_19_code 5 ((Option.none : Option Jvm.ClassFile.FieldType)) y_Program_copyGlobals.cls D b aC) (hle : 2 ≤ hh) (hN : fa_NX ≤ N) (hT : fa_TX ≤ T) (o : Nat) (a1 : Nat) (a2 : Int) (ho : (fa_sh o).1 = 4) (ha1 : (fa_sh a1).1 = 4) {r : fa_W} (k2 : Int → fa_W → Option fa_W) (K2 : ∀ (x3 : Int) (w : fa_W), k2 x3 w = some r → fa_GJ p l e (fa_rm hh) s m args below meth c 0 0 (MQ below (fa_Qc D b aC H0 N T (none) r) args s 0 0 (fun q => b ≤ q)) D b aC H0 N T 5 w 2 [(0, .ref (b + o)), (1, .ref (b + a1)), (2, .int (fa_I a2)), (3, .int (fa_I x3))] []) : ∀ (x3 : Int) (s0 : Int) (s1 : Int) (w : fa_W) (_ : fm_Program_copyGlobals_j94 o a1 a2 k2 x3 s0 s1 w = some r), fa_GJ p l e (fa_rm hh) s m args below meth c 0 0 (MQ below (fa_Qc D b aC H0 N T (none) r) args s 0 0 (fun q => b ≤ q)) D b aC H0 N T 5 w 94 [(0, .ref (b + o)), (1, .ref (b + a1)), (2, .int (fa_I a2)), (3, .int (fa_I x3))] [.int (fa_I s0), .int (fa_I s1), .ref (b + (fa_rf o 9))] := by
  intro x3 s0 s1 w hM
  unfold fm_Program_copyGlobals_j94 at hM
  obtain ⟨w16, e15⟩ : ∃ q, fr_set (fa_rf o 9) s1 s0 w = q := ⟨_, rfl⟩
  have hM := fa_let_to hM e15.symm
  refine g_callV_v X ck_6 (fa_r4_9 _ ho) (fa_xn (fa_r4_9 _ ho) (by decide) hN) rfl mi_Row_set (ct_Row_set (fa_rf o 9) s1 s0 (fa_ro (fa_r4_9 _ ho) hN hT) w _ e15) wd_431 rfl (Nat.le_trans (Nat.le_of_ble_eq_true rfl) hle) (st := []) (Nat.le_of_ble_eq_true rfl) rfl d_Program_copyGlobals_94 ?_
  refine g_iinc X 3 (fun x3_17 => [(3, .int (fa_I x3_17)), (0, .ref (b + o)), (1, .ref (b + a1)), (2, .int (fa_I a2))]) d_Program_copyGlobals_97 rfl (by decide) (fun _ => rfl) (fun x3_17 ex3_17 => ?_)
  have hM := fa_let_to hM ex3_17
  refine g_goto X 2 d_Program_copyGlobals_100 (by decide) ?_
  exact g_lv [1, 2, 3, 0] rfl (K2 _ _ hM)
def fm_Program_copyGlobals_l2 (o : Nat) (a1 : Nat) (a2 : Int) : Nat → Int → fa_W → Option fa_W
  | 0, _, _ => none
  | n + 1, x3, w => if fa_wr (w a1 13) ≤ fa_wr x3 then
  some w
  else
  (fa_let (fr_at (fa_rf o 10) x3 w) fun x4_3 =>
  if fa_wr x4_3 = (-1) then
  (fa_let (x3 + 1) fun x3_5 =>
  fm_Program_copyGlobals_l2 o a1 a2 n x3_5 w)
  else
  (fa_let (fr_add (fa_rf o 8) (fr_at (fa_rf a1 8) x3 w) w) fun w8 =>
  fa_let (fa_st w8 o 13 ((w8 o 13) + 1)) fun w9 =>
  if fm_Face_hasBit a2 x3 w9 = true then
  fm_Program_copyGlobals_j94 o a1 a2 (fun x3 w9 => fm_Program_copyGlobals_l2 o a1 a2 n x3 w9) x3 (fr_at (fa_rf o 11) (fr_at (fa_rf a1 9) x3 w9) w9) x4_3 w9
  else
  (fa_l2 (fm_Program_add o 4 0 x4_3 (-1) (-1) (-1) w9) fun v13 w14 =>
  fm_Program_copyGlobals_j94 o a1 a2 (fun x3 w9 => fm_Program_copyGlobals_l2 o a1 a2 n x3 w9) x3 v13 x4_3 w14)))
set_option maxHeartbeats 4000000 in
set_option maxRecDepth 100000 in
theorem c_Program_copyGlobals_l2 {p : Program} {l : Launch} {e : Env} {s : State} {m : MethodId} {args : Array Value} {below : List Frame} {meth : Method} {c : Code} {hh : Nat} {D : va_G} {b : Nat} {aC : Nat → ClassId} {H0 : Heap} {N T : Nat} (X : fa_GX p s m args meth c prog_5_method_19_code 5 ((Option.none : Option Jvm.ClassFile.FieldType)) y_Program_copyGlobals.cls D b aC) (hle : 2 ≤ hh) (hN : fa_NX ≤ N) (hT : fa_TX ≤ T) (o : Nat) (a1 : Nat) (a2 : Int) (ho : (fa_sh o).1 = 4) (ha1 : (fa_sh a1).1 = 4) {r : fa_W}  : ∀ (n : Nat) (x3 : Int) (w : fa_W), fm_Program_copyGlobals_l2 o a1 a2 n x3 w = some r → fa_GJ p l e (fa_rm hh) s m args below meth c 0 0 (MQ below (fa_Qc D b aC H0 N T (none) r) args s 0 0 (fun q => b ≤ q)) D b aC H0 N T 5 w 2 [(0, .ref (b + o)), (1, .ref (b + a1)), (2, .int (fa_I a2)), (3, .int (fa_I x3))] [] := by
  intro n
  induction n with
  | zero => intro x3 w hM; exact fa_no hM
  | succ n ih =>
    intro x3 w hM
    rw [fm_Program_copyGlobals_l2] at hM
    refine g_iload_n X 3 rfl d_Program_copyGlobals_2 ?_
    refine g_aload_n X 1 rfl d_Program_copyGlobals_3 ?_
    refine g_get X ck_4 ha1 (fa_xn ha1 (by decide) hN) 13 (by decide) wd_91 rfl (fa_fvI rfl) d_Program_copyGlobals_4 ?_
    refine g_icmp_ge X 103 d_Program_copyGlobals_7 (by decide) (fun hc1 => ?_) (fun hc1 => ?_)
    · have hM := fa_if_t hM hc1
      cases hM
      exact g_vret X d_Program_copyGlobals_103
    · have hM := fa_if_f hM hc1
      refine g_aload_n X 0 rfl d_Program_copyGlobals_10 ?_
      refine g_get X ck_4 ho (fa_xn ho (by decide) hN) 10 (by decide) wd_88 rfl (fa_fvR rfl (fa_xt ho (by decide) hT 10)) d_Program_copyGlobals_11 ?_
      refine g_iload_n X 3 rfl d_Program_copyGlobals_14 ?_
      refine g_callV_i X ck_6 (fa_r4_10 _ ho) (fa_xn (fa_r4_10 _ ho) (by decide) hN) rfl mi_Row_at (ct_Row_at (fa_rf o 10) x3 (fa_ro (fa_r4_10 _ ho) hN hT) w _ rfl) wd_427 rfl (Nat.le_trans (Nat.le_of_ble_eq_true rfl) hle) (st := []) (Nat.le_of_ble_eq_true rfl) rfl d_Program_copyGlobals_15 ?_
      refine g_istore X (fun x4_3 => [(4, .int (fa_I x4_3)), (0, .ref (b + o)), (1, .ref (b + a1)), (2, .int (fa_I a2)), (3, .int (fa_I x3))]) d_Program_copyGlobals_18 (by decide) (fun _ => rfl) (fun x4_3 ex4_3 => ?_)
      have hM := fa_let_to hM ex4_3
      refine g_iload X 0 rfl d_Program_copyGlobals_20 ?_
      refine g_iconst X d_Program_copyGlobals_22 ?_
      refine g_icmp_eq X 97 d_Program_copyGlobals_23 (by decide) (fun hc4 => ?_) (fun hc4 => ?_)
      · have hM := fa_if_t hM hc4
        refine g_iinc X 4 (fun x3_5 => [(3, .int (fa_I x3_5)), (4, .int (fa_I x4_3)), (0, .ref (b + o)), (1, .ref (b + a1)), (2, .int (fa_I a2))]) d_Program_copyGlobals_97 rfl (by decide) (fun _ => rfl) (fun x3_5 ex3_5 => ?_)
        have hM := fa_let_to hM ex3_5
        refine g_goto X 2 d_Program_copyGlobals_100 (by decide) ?_
        exact g_lv [2, 3, 4, 0] rfl (ih _ _ hM)
      · have hM := fa_if_f hM hc4
        refine g_aload_n X 1 rfl d_Program_copyGlobals_26 ?_
        refine g_get X ck_4 ho (fa_xn ho (by decide) hN) 8 (by decide) wd_79 rfl (fa_fvR rfl (fa_xt ho (by decide) hT 8)) d_Program_copyGlobals_27 ?_
        refine g_aload_n X 2 rfl d_Program_copyGlobals_30 ?_
        refine g_get X ck_4 ha1 (fa_xn ha1 (by decide) hN) 8 (by decide) wd_79 rfl (fa_fvR rfl (fa_xt ha1 (by decide) hT 8)) d_Program_copyGlobals_31 ?_
        refine g_iload_n X 4 rfl d_Program_copyGlobals_34 ?_
        refine g_callV_i X ck_6 (fa_r4_8 _ ha1) (fa_xn (fa_r4_8 _ ha1) (by decide) hN) rfl mi_Row_at (ct_Row_at (fa_rf a1 8) x3 (fa_ro (fa_r4_8 _ ha1) hN hT) w _ rfl) wd_427 rfl (Nat.le_trans (Nat.le_of_ble_eq_true rfl) hle) (st := [.ref (b + (fa_rf o 8))]) (Nat.le_of_ble_eq_true rfl) rfl d_Program_copyGlobals_35 ?_
        obtain ⟨w8, e7⟩ : ∃ q, fr_add (fa_rf o 8) (fr_at (fa_rf a1 8) x3 w) w = q := ⟨_, rfl⟩
        have hM := fa_let_to hM e7.symm
        refine g_callV_v X ck_6 (fa_r4_8 _ ho) (fa_xn (fa_r4_8 _ ho) (by decide) hN) rfl mi_Row_add (ct_Row_add (fa_rf o 8) (fr_at (fa_rf a1 8) x3 w) (fa_ro (fa_r4_8 _ ho) hN hT) w _ e7) wd_426 rfl (Nat.le_trans (Nat.le_of_ble_eq_true rfl) hle) (st := []) (Nat.le_of_ble_eq_true rfl) rfl d_Program_copyGlobals_38 ?_
        refine g_aload_n X 1 rfl d_Program_copyGlobals_41 ?_
        refine g_dup X rfl d_Program_copyGlobals_42 ?_
        refine g_get X ck_4 ho (fa_xn ho (by decide) hN) 13 (by decide) wd_91 rfl (fa_fvI rfl) d_Program_copyGlobals_43 ?_
        refine g_iconst X d_Program_copyGlobals_46 ?_
        refine g_iadd X d_Program_copyGlobals_47 ?_
        refine g_put X ck_4 ho (fa_xn ho (by decide) hN) 13 (z := ((w8 o 13) + 1)) (by decide) wd_91 rfl (fa_fvI' rfl) rfl rfl rfl d_Program_copyGlobals_48 (fun w9 ew9 => ?_)
        have hM := fa_let_to hM ew9
        refine g_aload_n X 1 rfl d_Program_copyGlobals_51 ?_
        refine g_get X ck_4 ho (fa_xn ho (by decide) hN) 9 (by decide) wd_82 rfl (fa_fvR rfl (fa_xt ho (by decide) hT 9)) d_Program_copyGlobals_52 ?_
        refine g_iload X 0 rfl d_Program_copyGlobals_55 ?_
        refine g_iload_n X 3 rfl d_Program_copyGlobals_57 ?_
        refine g_iload_n X 4 rfl d_Program_copyGlobals_58 ?_
        refine g_callSN_i X mi_Face_hasBit (c_Face_hasBit hN hT a2 x3 w9 _ rfl) wd_729 rfl (Nat.le_trans (Nat.le_of_ble_eq_true rfl) hle) (st := [.int (fa_I x4_3), .ref (b + (fa_rf o 9))]) (Nat.le_of_ble_eq_true rfl) rfl d_Program_copyGlobals_59 ?_
        refine g_ifb_eq X 83 d_Program_copyGlobals_62 (by decide) (fun hc11 => ?_) (fun hc11 => ?_)
        · have hM := fa_ifb_f hM hc11
          refine g_aload_n X 1 rfl d_Program_copyGlobals_83 ?_
          refine g_iconst X d_Program_copyGlobals_84 ?_
          refine g_iconst X d_Program_copyGlobals_85 ?_
          refine g_iload X 0 rfl d_Program_copyGlobals_86 ?_
          refine g_iconst X d_Program_copyGlobals_88 ?_
          refine g_iconst X d_Program_copyGlobals_89 ?_
          refine g_iconst X d_Program_copyGlobals_90 ?_
          obtain ⟨⟨v13, w14⟩, e12⟩ : ∃ q, fm_Program_add o 4 0 x4_3 (-1) (-1) (-1) w9 = q := ⟨_, rfl⟩
          have hM := fa_l2_e hM e12
          refine g_callV_i X ck_4 ho (fa_xn ho (by decide) hN) rfl mi_Program_add (c_Program_add hN hT o 4 0 x4_3 (-1) (-1) (-1) ho w9 _ e12) wd_418 rfl (Nat.le_trans (Nat.le_of_ble_eq_true rfl) hle) (st := [.int (fa_I x4_3), .ref (b + (fa_rf o 9))]) (Nat.le_of_ble_eq_true rfl) rfl d_Program_copyGlobals_91 ?_
          exact g_lv [1, 2, 3, 4] rfl (c_Program_copyGlobals_j94 X hle hN hT o a1 a2 ho ha1  (fun x3 w9 => fm_Program_copyGlobals_l2 o a1 a2 n x3 w9) (fun _ _ h => ih _ _ h)  _ _ _ _ hM)
        · have hM := fa_ifb_t hM hc11
          refine g_aload_n X 1 rfl d_Program_copyGlobals_65 ?_
          refine g_get X ck_4 ho (fa_xn ho (by decide) hN) 11 (by decide) wd_89 rfl (fa_fvR rfl (fa_xt ho (by decide) hT 11)) d_Program_copyGlobals_66 ?_
          refine g_aload_n X 2 rfl d_Program_copyGlobals_69 ?_
          refine g_get X ck_4 ha1 (fa_xn ha1 (by decide) hN) 9 (by decide) wd_82 rfl (fa_fvR rfl (fa_xt ha1 (by decide) hT 9)) d_Program_copyGlobals_70 ?_
          refine g_iload_n X 4 rfl d_Program_copyGlobals_73 ?_
          refine g_callV_i X ck_6 (fa_r4_9 _ ha1) (fa_xn (fa_r4_9 _ ha1) (by decide) hN) rfl mi_Row_at (ct_Row_at (fa_rf a1 9) x3 (fa_ro (fa_r4_9 _ ha1) hN hT) w9 _ rfl) wd_427 rfl (Nat.le_trans (Nat.le_of_ble_eq_true rfl) hle) (st := [.ref (b + (fa_rf o 11)), .int (fa_I x4_3), .ref (b + (fa_rf o 9))]) (Nat.le_of_ble_eq_true rfl) rfl d_Program_copyGlobals_74 ?_
          refine g_callV_i X ck_6 (fa_r4_11 _ ho) (fa_xn (fa_r4_11 _ ho) (by decide) hN) rfl mi_Row_at (ct_Row_at (fa_rf o 11) (fr_at (fa_rf a1 9) x3 w9) (fa_ro (fa_r4_11 _ ho) hN hT) w9 _ rfl) wd_427 rfl (Nat.le_trans (Nat.le_of_ble_eq_true rfl) hle) (st := [.int (fa_I x4_3), .ref (b + (fa_rf o 9))]) (Nat.le_of_ble_eq_true rfl) rfl d_Program_copyGlobals_77 ?_
          refine g_goto X 94 d_Program_copyGlobals_80 (by decide) ?_
          exact g_lv [1, 2, 3, 4] rfl (c_Program_copyGlobals_j94 X hle hN hT o a1 a2 ho ha1  (fun x3 w9 => fm_Program_copyGlobals_l2 o a1 a2 n x3 w9) (fun _ _ h => ih _ _ h)  _ _ _ _ hM)
def fm_Program_copyGlobals (o : Nat) (a1 : Nat) (a2 : Int) (w : fa_W) : Option fa_W :=
  fm_Program_copyGlobals_l2 o a1 a2 fa_FU 0 w
set_option maxHeartbeats 4000000 in
set_option maxRecDepth 100000 in
theorem c_Program_copyGlobals {l : Launch} {D : va_G} {b : Nat} {aC : Nat → ClassId} {H0 : Heap} {N T : Nat} (hN : fa_NX ≤ N) (hT : fa_TX ≤ T) (o : Nat) (a1 : Nat) (a2 : Int) (ho : (fa_sh o).1 = 4) (ha1 : (fa_sh a1).1 = 4)  (w : fa_W) (r : fa_W) (hM : fm_Program_copyGlobals o a1 a2 w = some r) : fa_MC l D b aC H0 N T y_Program_copyGlobals prog_5_method_19_code 5 ((Option.none : Option Jvm.ClassFile.FieldType)) (2) [.ref (b + o), .ref (b + a1), .int (fa_I a2)] w (none) r := by
  refine fa_enter (lv := [(0, .ref (b + o)), (1, .ref (b + a1)), (2, .int (fa_I a2))]) (by decide +kernel) (Nat.le_of_ble_eq_true rfl) rfl (fun hh hle hnm X => ?_)
  unfold fm_Program_copyGlobals at hM
  refine g_iconst X d_Program_copyGlobals_0 ?_
  refine g_istorec_n X [(3, .int (fa_I 0)), (0, .ref (b + o)), (1, .ref (b + a1)), (2, .int (fa_I a2))] d_Program_copyGlobals_1 (by decide) rfl ?_
  exact g_lv [1, 2, 3, 0] rfl (c_Program_copyGlobals_l2 X hle hN hT o a1 a2 ho ha1   fa_FU _ _ hM)
theorem d_Program_copy_0 : decode prog_5_method_12_code 0 = .ok (.aload_n 0, 1) := by decide +kernel
theorem d_Program_copy_1 : decode prog_5_method_12_code 1 = .ok (.invokevirtual 76, 3) := by decide +kernel
theorem d_Program_copy_4 : decode prog_5_method_12_code 4 = .ok (.aload_n 0, 1) := by decide +kernel
theorem d_Program_copy_5 : decode prog_5_method_12_code 5 = .ok (.aload_n 1, 1) := by decide +kernel
theorem d_Program_copy_6 : decode prog_5_method_12_code 6 = .ok (.iload_n 2, 1) := by decide +kernel
theorem d_Program_copy_7 : decode prog_5_method_12_code 7 = .ok (.invokevirtual 106, 3) := by decide +kernel
theorem d_Program_copy_10 : decode prog_5_method_12_code 10 = .ok (.aload_n 0, 1) := by decide +kernel
theorem d_Program_copy_11 : decode prog_5_method_12_code 11 = .ok (.aload_n 1, 1) := by decide +kernel
theorem d_Program_copy_12 : decode prog_5_method_12_code 12 = .ok (.iload_n 3, 1) := by decide +kernel
theorem d_Program_copy_13 : decode prog_5_method_12_code 13 = .ok (.invokevirtual 110, 3) := by decide +kernel
theorem d_Program_copy_16 : decode prog_5_method_12_code 16 = .ok (.aload_n 0, 1) := by decide +kernel
theorem d_Program_copy_17 : decode prog_5_method_12_code 17 = .ok (.aload_n 1, 1) := by decide +kernel
theorem d_Program_copy_18 : decode prog_5_method_12_code 18 = .ok (.invokevirtual 113, 3) := by decide +kernel
theorem d_Program_copy_21 : decode prog_5_method_12_code 21 = .ok (.iconst 0, 1) := by decide +kernel
theorem d_Program_copy_22 : decode prog_5_method_12_code 22 = .ok (.istore 4, 2) := by decide +kernel
theorem d_Program_copy_24 : decode prog_5_method_12_code 24 = .ok (.iload 4, 2) := by decide +kernel
theorem d_Program_copy_26 : decode prog_5_method_12_code 26 = .ok (.aload_n 1, 1) := by decide +kernel
theorem d_Program_copy_27 : decode prog_5_method_12_code 27 = .ok (.invokevirtual 117, 3) := by decide +kernel
theorem d_Program_copy_30 : decode prog_5_method_12_code 30 = .ok (.if_icmp .ge 39, 3) := by decide +kernel
theorem d_Program_copy_33 : decode prog_5_method_12_code 33 = .ok (.aload_n 0, 1) := by decide +kernel
theorem d_Program_copy_34 : decode prog_5_method_12_code 34 = .ok (.getfield 50, 3) := by decide +kernel
theorem d_Program_copy_37 : decode prog_5_method_12_code 37 = .ok (.iload 4, 2) := by decide +kernel
theorem d_Program_copy_39 : decode prog_5_method_12_code 39 = .ok (.invokevirtual 85, 3) := by decide +kernel
theorem d_Program_copy_42 : decode prog_5_method_12_code 42 = .ok (.iconst (-1), 1) := by decide +kernel
theorem d_Program_copy_43 : decode prog_5_method_12_code 43 = .ok (.if_icmp .eq 20, 3) := by decide +kernel
theorem d_Program_copy_46 : decode prog_5_method_12_code 46 = .ok (.aload_n 0, 1) := by decide +kernel
theorem d_Program_copy_47 : decode prog_5_method_12_code 47 = .ok (.getfield 50, 3) := by decide +kernel
theorem d_Program_copy_50 : decode prog_5_method_12_code 50 = .ok (.iload 4, 2) := by decide +kernel
theorem d_Program_copy_52 : decode prog_5_method_12_code 52 = .ok (.aload_n 0, 1) := by decide +kernel
theorem d_Program_copy_53 : decode prog_5_method_12_code 53 = .ok (.aload_n 1, 1) := by decide +kernel
theorem d_Program_copy_54 : decode prog_5_method_12_code 54 = .ok (.iload 4, 2) := by decide +kernel
theorem d_Program_copy_56 : decode prog_5_method_12_code 56 = .ok (.iload_n 3, 1) := by decide +kernel
theorem d_Program_copy_57 : decode prog_5_method_12_code 57 = .ok (.invokevirtual 120, 3) := by decide +kernel
theorem d_Program_copy_60 : decode prog_5_method_12_code 60 = .ok (.invokevirtual 94, 3) := by decide +kernel
theorem d_Program_copy_63 : decode prog_5_method_12_code 63 = .ok (.iinc 4 1, 3) := by decide +kernel
theorem d_Program_copy_66 : decode prog_5_method_12_code 66 = .ok (.goto (-42), 3) := by decide +kernel
theorem d_Program_copy_69 : decode prog_5_method_12_code 69 = .ok (.aload_n 0, 1) := by decide +kernel
theorem d_Program_copy_70 : decode prog_5_method_12_code 70 = .ok (.aload_n 1, 1) := by decide +kernel
theorem d_Program_copy_71 : decode prog_5_method_12_code 71 = .ok (.iload_n 3, 1) := by decide +kernel
theorem d_Program_copy_72 : decode prog_5_method_12_code 72 = .ok (.invokevirtual 124, 3) := by decide +kernel
theorem d_Program_copy_75 : decode prog_5_method_12_code 75 = .ok (.aload_n 0, 1) := by decide +kernel
theorem d_Program_copy_76 : decode prog_5_method_12_code 76 = .ok (.aload_n 0, 1) := by decide +kernel
theorem d_Program_copy_77 : decode prog_5_method_12_code 77 = .ok (.getfield 50, 3) := by decide +kernel
theorem d_Program_copy_80 : decode prog_5_method_12_code 80 = .ok (.aload_n 1, 1) := by decide +kernel
theorem d_Program_copy_81 : decode prog_5_method_12_code 81 = .ok (.getfield 66, 3) := by decide +kernel
theorem d_Program_copy_84 : decode prog_5_method_12_code 84 = .ok (.invokevirtual 85, 3) := by decide +kernel
theorem d_Program_copy_87 : decode prog_5_method_12_code 87 = .ok (.putfield 66, 3) := by decide +kernel
theorem d_Program_copy_90 : decode prog_5_method_12_code 90 = .ok (.return_, 1) := by decide +kernel
def fm_Program_copy_l24 (o : Nat) (a1 : Nat) (a2 : Int) (a3 : Int) : Nat → Int → fa_W → Option fa_W
  | 0, _, _ => none
  | n + 1, x4, w => if fa_wr (fm_Program_things a1 w) ≤ fa_wr x4 then
  ((fm_Program_copyGlobals o a1 a3 w).bind fun w12 =>
  fa_let (fa_st w12 o 16 (fr_at (fa_rf o 11) (w12 a1 16) w12)) fun w14 =>
  some w14)
  else
  (if fa_wr (fr_at (fa_rf o 11) x4 w) = (-1) then
  (fa_let (x4 + 1) fun x4_17 =>
  fm_Program_copy_l24 o a1 a2 a3 n x4_17 w)
  else
  (fa_l2 (fm_Program_copyThing o a1 x4 a3 w) fun v19 w20 =>
  fa_let (fr_set (fa_rf o 11) x4 v19 w20) fun w22 =>
  fa_let (x4 + 1) fun x4_23 =>
  fm_Program_copy_l24 o a1 a2 a3 n x4_23 w22))
set_option maxHeartbeats 4000000 in
set_option maxRecDepth 100000 in
theorem c_Program_copy_l24 {p : Program} {l : Launch} {e : Env} {s : State} {m : MethodId} {args : Array Value} {below : List Frame} {meth : Method} {c : Code} {hh : Nat} {D : va_G} {b : Nat} {aC : Nat → ClassId} {H0 : Heap} {N T : Nat} (X : fa_GX p s m args meth c prog_5_method_12_code 5 ((Option.none : Option Jvm.ClassFile.FieldType)) y_Program_copy.cls D b aC) (hle : 3 ≤ hh) (hN : fa_NX ≤ N) (hT : fa_TX ≤ T) (o : Nat) (a1 : Nat) (a2 : Int) (a3 : Int) (ho : (fa_sh o).1 = 4) (ha1 : (fa_sh a1).1 = 4) {r : fa_W}  : ∀ (n : Nat) (x4 : Int) (w : fa_W), fm_Program_copy_l24 o a1 a2 a3 n x4 w = some r → fa_GJ p l e (fa_rm hh) s m args below meth c 0 0 (MQ below (fa_Qc D b aC H0 N T (none) r) args s 0 0 (fun q => b ≤ q)) D b aC H0 N T 5 w 24 [(0, .ref (b + o)), (1, .ref (b + a1)), (3, .int (fa_I a3)), (4, .int (fa_I x4))] [] := by
  intro n
  induction n with
  | zero => intro x4 w hM; exact fa_no hM
  | succ n ih =>
    intro x4 w hM
    rw [fm_Program_copy_l24] at hM
    refine g_iload X 3 rfl d_Program_copy_24 ?_
    refine g_aload_n X 1 rfl d_Program_copy_26 ?_
    refine g_callV_i X ck_4 ha1 (fa_xn ha1 (by decide) hN) rfl mi_Program_things (c_Program_things hN hT a1 ha1 w _ rfl) wd_734 rfl (Nat.le_trans (Nat.le_of_ble_eq_true rfl) hle) (st := [.int (fa_I x4)]) (Nat.le_of_ble_eq_true rfl) rfl d_Program_copy_27 ?_
    refine g_icmp_ge X 69 d_Program_copy_30 (by decide) (fun hc10 => ?_) (fun hc10 => ?_)
    · have hM := fa_if_t hM hc10
      refine g_aload_n X 0 rfl d_Program_copy_69 ?_
      refine g_aload_n X 1 rfl d_Program_copy_70 ?_
      refine g_iload_n X 2 rfl d_Program_copy_71 ?_
      obtain ⟨w12, e11, hM⟩ := fa_ob hM
      refine g_callV_v X ck_4 ho (fa_xn ho (by decide) hN) rfl mi_Program_copyGlobals (c_Program_copyGlobals hN hT o a1 a3 ho ha1 w _ e11) wd_754 rfl (Nat.le_trans (Nat.le_of_ble_eq_true rfl) hle) (st := []) (Nat.le_of_ble_eq_true rfl) rfl d_Program_copy_72 ?_
      refine g_aload_n X 0 rfl d_Program_copy_75 ?_
      refine g_aload_n X 0 rfl d_Program_copy_76 ?_
      refine g_get X ck_4 ho (fa_xn ho (by decide) hN) 11 (by decide) wd_89 rfl (fa_fvR rfl (fa_xt ho (by decide) hT 11)) d_Program_copy_77 ?_
      refine g_aload_n X 1 rfl d_Program_copy_80 ?_
      refine g_get X ck_4 ha1 (fa_xn ha1 (by decide) hN) 16 (by decide) wd_107 rfl (fa_fvI rfl) d_Program_copy_81 ?_
      refine g_callV_i X ck_6 (fa_r4_11 _ ho) (fa_xn (fa_r4_11 _ ho) (by decide) hN) rfl mi_Row_at (ct_Row_at (fa_rf o 11) (w12 a1 16) (fa_ro (fa_r4_11 _ ho) hN hT) w12 _ rfl) wd_427 rfl (Nat.le_trans (Nat.le_of_ble_eq_true rfl) hle) (st := [.ref (b + o)]) (Nat.le_of_ble_eq_true rfl) rfl d_Program_copy_84 ?_
      refine g_put X ck_4 ho (fa_xn ho (by decide) hN) 16 (z := (fr_at (fa_rf o 11) (w12 a1 16) w12)) (by decide) wd_107 rfl (fa_fvI' rfl) rfl rfl rfl d_Program_copy_87 (fun w14 ew14 => ?_)
      have hM := fa_let_to hM ew14
      cases hM
      exact g_vret X d_Program_copy_90
    · have hM := fa_if_f hM hc10
      refine g_aload_n X 0 rfl d_Program_copy_33 ?_
      refine g_get X ck_4 ho (fa_xn ho (by decide) hN) 11 (by decide) wd_89 rfl (fa_fvR rfl (fa_xt ho (by decide) hT 11)) d_Program_copy_34 ?_
      refine g_iload X 3 rfl d_Program_copy_37 ?_
      refine g_callV_i X ck_6 (fa_r4_11 _ ho) (fa_xn (fa_r4_11 _ ho) (by decide) hN) rfl mi_Row_at (ct_Row_at (fa_rf o 11) x4 (fa_ro (fa_r4_11 _ ho) hN hT) w _ rfl) wd_427 rfl (Nat.le_trans (Nat.le_of_ble_eq_true rfl) hle) (st := []) (Nat.le_of_ble_eq_true rfl) rfl d_Program_copy_39 ?_
      refine g_iconst X d_Program_copy_42 ?_
      refine g_icmp_eq X 63 d_Program_copy_43 (by decide) (fun hc16 => ?_) (fun hc16 => ?_)
      · have hM := fa_if_t hM hc16
        refine g_iinc X 3 (fun x4_17 => [(4, .int (fa_I x4_17)), (0, .ref (b + o)), (1, .ref (b + a1)), (3, .int (fa_I a3))]) d_Program_copy_63 rfl (by decide) (fun _ => rfl) (fun x4_17 ex4_17 => ?_)
        have hM := fa_let_to hM ex4_17
        refine g_goto X 24 d_Program_copy_66 (by decide) ?_
        exact g_lv [1, 2, 3, 0] rfl (ih _ _ hM)
      · have hM := fa_if_f hM hc16
        refine g_aload_n X 0 rfl d_Program_copy_46 ?_
        refine g_get X ck_4 ho (fa_xn ho (by decide) hN) 11 (by decide) wd_89 rfl (fa_fvR rfl (fa_xt ho (by decide) hT 11)) d_Program_copy_47 ?_
        refine g_iload X 3 rfl d_Program_copy_50 ?_
        refine g_aload_n X 0 rfl d_Program_copy_52 ?_
        refine g_aload_n X 1 rfl d_Program_copy_53 ?_
        refine g_iload X 3 rfl d_Program_copy_54 ?_
        refine g_iload_n X 2 rfl d_Program_copy_56 ?_
        obtain ⟨⟨v19, w20⟩, e18⟩ : ∃ q, fm_Program_copyThing o a1 x4 a3 w = q := ⟨_, rfl⟩
        have hM := fa_l2_e hM e18
        refine g_callV_i X ck_4 ho (fa_xn ho (by decide) hN) rfl mi_Program_copyThing (c_Program_copyThing hN hT o a1 x4 a3 ho ha1 w _ e18) wd_743 rfl (Nat.le_trans (Nat.le_of_ble_eq_true rfl) hle) (st := [.int (fa_I x4), .ref (b + (fa_rf o 11))]) (Nat.le_of_ble_eq_true rfl) rfl d_Program_copy_57 ?_
        obtain ⟨w22, e21⟩ : ∃ q, fr_set (fa_rf o 11) x4 v19 w20 = q := ⟨_, rfl⟩
        have hM := fa_let_to hM e21.symm
        refine g_callV_v X ck_6 (fa_r4_11 _ ho) (fa_xn (fa_r4_11 _ ho) (by decide) hN) rfl mi_Row_set (ct_Row_set (fa_rf o 11) x4 v19 (fa_ro (fa_r4_11 _ ho) hN hT) w20 _ e21) wd_431 rfl (Nat.le_trans (Nat.le_of_ble_eq_true rfl) hle) (st := []) (Nat.le_of_ble_eq_true rfl) rfl d_Program_copy_60 ?_
        refine g_iinc X 3 (fun x4_23 => [(4, .int (fa_I x4_23)), (0, .ref (b + o)), (1, .ref (b + a1)), (3, .int (fa_I a3))]) d_Program_copy_63 rfl (by decide) (fun _ => rfl) (fun x4_23 ex4_23 => ?_)
        have hM := fa_let_to hM ex4_23
        refine g_goto X 24 d_Program_copy_66 (by decide) ?_
        exact g_lv [1, 2, 3, 0] rfl (ih _ _ hM)
def fm_Program_copy (o : Nat) (a1 : Nat) (a2 : Int) (a3 : Int) (w : fa_W) : Option fa_W :=
  fa_let (fm_Program_clear o w) fun w2 =>
  (fm_Program_numberFunctions o a1 a2 w2).bind fun w4 =>
  (fm_Program_markThings o a1 a3 w4).bind fun w6 =>
  (fm_Program_numberSites o a1 w6).bind fun w8 =>
  fm_Program_copy_l24 o a1 a2 a3 fa_FU 0 w8
set_option maxHeartbeats 4000000 in
set_option maxRecDepth 100000 in
theorem c_Program_copy {l : Launch} {D : va_G} {b : Nat} {aC : Nat → ClassId} {H0 : Heap} {N T : Nat} (hN : fa_NX ≤ N) (hT : fa_TX ≤ T) (o : Nat) (a1 : Nat) (a2 : Int) (a3 : Int) (ho : (fa_sh o).1 = 4) (ha1 : (fa_sh a1).1 = 4)  (w : fa_W) (r : fa_W) (hM : fm_Program_copy o a1 a2 a3 w = some r) : fa_MC l D b aC H0 N T y_Program_copy prog_5_method_12_code 5 ((Option.none : Option Jvm.ClassFile.FieldType)) (3) [.ref (b + o), .ref (b + a1), .int (fa_I a2), .int (fa_I a3)] w (none) r := by
  refine fa_enter (lv := [(0, .ref (b + o)), (1, .ref (b + a1)), (2, .int (fa_I a2)), (3, .int (fa_I a3))]) (by decide +kernel) (Nat.le_of_ble_eq_true rfl) rfl (fun hh hle hnm X => ?_)
  unfold fm_Program_copy at hM
  refine g_aload_n X 0 rfl d_Program_copy_0 ?_
  obtain ⟨w2, e1⟩ : ∃ q, fm_Program_clear o w = q := ⟨_, rfl⟩
  have hM := fa_let_to hM e1.symm
  refine g_callV_v X ck_4 ho (fa_xn ho (by decide) hN) rfl mi_Program_clear (c_Program_clear hN hT o ho w _ e1) wd_412 rfl (Nat.le_trans (Nat.le_of_ble_eq_true rfl) hle) (st := []) (Nat.le_of_ble_eq_true rfl) rfl d_Program_copy_1 ?_
  refine g_aload_n X 0 rfl d_Program_copy_4 ?_
  refine g_aload_n X 1 rfl d_Program_copy_5 ?_
  refine g_iload_n X 2 rfl d_Program_copy_6 ?_
  obtain ⟨w4, e3, hM⟩ := fa_ob hM
  refine g_callV_v X ck_4 ho (fa_xn ho (by decide) hN) rfl mi_Program_numberFunctions (c_Program_numberFunctions hN hT o a1 a2 ho ha1 w2 _ e3) wd_725 rfl (Nat.le_trans (Nat.le_of_ble_eq_true rfl) hle) (st := []) (Nat.le_of_ble_eq_true rfl) rfl d_Program_copy_7 ?_
  refine g_aload_n X 0 rfl d_Program_copy_10 ?_
  refine g_aload_n X 1 rfl d_Program_copy_11 ?_
  refine g_iload_n X 3 rfl d_Program_copy_12 ?_
  obtain ⟨w6, e5, hM⟩ := fa_ob hM
  refine g_callV_v X ck_4 ho (fa_xn ho (by decide) hN) rfl mi_Program_markThings (c_Program_markThings hN hT o a1 a3 ho ha1 w4 _ e5) wd_730 rfl (Nat.le_trans (Nat.le_of_ble_eq_true rfl) hle) (st := []) (Nat.le_of_ble_eq_true rfl) rfl d_Program_copy_13 ?_
  refine g_aload_n X 0 rfl d_Program_copy_16 ?_
  refine g_aload_n X 1 rfl d_Program_copy_17 ?_
  obtain ⟨w8, e7, hM⟩ := fa_ob hM
  refine g_callV_v X ck_4 ho (fa_xn ho (by decide) hN) rfl mi_Program_numberSites (c_Program_numberSites hN hT o a1 ho ha1 w6 _ e7) wd_739 rfl (Nat.le_trans (Nat.le_of_ble_eq_true rfl) hle) (st := []) (Nat.le_of_ble_eq_true rfl) rfl d_Program_copy_18 ?_
  refine g_iconst X d_Program_copy_21 ?_
  refine g_istorec X [(4, .int (fa_I 0)), (0, .ref (b + o)), (1, .ref (b + a1)), (2, .int (fa_I a2)), (3, .int (fa_I a3))] d_Program_copy_22 (by decide) rfl ?_
  exact g_lv [1, 2, 4, 0] rfl (c_Program_copy_l24 X hle hN hT o a1 a2 a3 ho ha1   fa_FU _ _ hM)
