theorem d_Typing_arrow_0 : decode prog_9_method_5_code 0 = .ok (.aload_n 0, 1) := by decide +kernel
theorem d_Typing_arrow_1 : decode prog_9_method_5_code 1 = .ok (.getfield 14, 3) := by decide +kernel
theorem d_Typing_arrow_4 : decode prog_9_method_5_code 4 = .ok (.invokevirtual 93, 3) := by decide +kernel
theorem d_Typing_arrow_7 : decode prog_9_method_5_code 7 = .ok (.istore_n 3, 1) := by decide +kernel
theorem d_Typing_arrow_8 : decode prog_9_method_5_code 8 = .ok (.aload_n 0, 1) := by decide +kernel
theorem d_Typing_arrow_9 : decode prog_9_method_5_code 9 = .ok (.getfield 14, 3) := by decide +kernel
theorem d_Typing_arrow_12 : decode prog_9_method_5_code 12 = .ok (.iload_n 3, 1) := by decide +kernel
theorem d_Typing_arrow_13 : decode prog_9_method_5_code 13 = .ok (.invokevirtual 59, 3) := by decide +kernel
theorem d_Typing_arrow_16 : decode prog_9_method_5_code 16 = .ok (.aload_n 0, 1) := by decide +kernel
theorem d_Typing_arrow_17 : decode prog_9_method_5_code 17 = .ok (.getfield 20, 3) := by decide +kernel
theorem d_Typing_arrow_20 : decode prog_9_method_5_code 20 = .ok (.iload_n 1, 1) := by decide +kernel
theorem d_Typing_arrow_21 : decode prog_9_method_5_code 21 = .ok (.invokevirtual 59, 3) := by decide +kernel
theorem d_Typing_arrow_24 : decode prog_9_method_5_code 24 = .ok (.aload_n 0, 1) := by decide +kernel
theorem d_Typing_arrow_25 : decode prog_9_method_5_code 25 = .ok (.getfield 23, 3) := by decide +kernel
theorem d_Typing_arrow_28 : decode prog_9_method_5_code 28 = .ok (.iload_n 2, 1) := by decide +kernel
theorem d_Typing_arrow_29 : decode prog_9_method_5_code 29 = .ok (.invokevirtual 59, 3) := by decide +kernel
theorem d_Typing_arrow_32 : decode prog_9_method_5_code 32 = .ok (.iload_n 3, 1) := by decide +kernel
theorem d_Typing_arrow_33 : decode prog_9_method_5_code 33 = .ok (.ireturn, 1) := by decide +kernel
def fm_Typing_arrow (o : Nat) (a1 : Int) (a2 : Int) (w : fa_W) : Int × fa_W :=
  fa_let (fm_Row_size (fa_rf o 0) w) fun x3_2 =>
  fa_let (fr_add (fa_rf o 0) x3_2 w) fun w4 =>
  fa_let (fr_add (fa_rf o 1) a1 w4) fun w6 =>
  fa_let (fr_add (fa_rf o 2) a2 w6) fun w8 =>
  (x3_2, w8)
set_option maxHeartbeats 4000000 in
set_option maxRecDepth 100000 in
theorem c_Typing_arrow {l : Launch} {D : va_G} {b : Nat} {aC : Nat → ClassId} {H0 : Heap} {N T : Nat} (hN : fa_NX ≤ N) (hT : fa_TX ≤ T) (o : Nat) (a1 : Int) (a2 : Int) (ho : (fa_sh o).1 = 8)  (w : fa_W) (r : Int × fa_W) (hM : fm_Typing_arrow o a1 a2 w = r) : fa_MC l D b aC H0 N T y_Typing_arrow prog_9_method_5_code 4 ((Option.some Jvm.ClassFile.FieldType.int)) (1) [.ref (b + o), .int (fa_I a1), .int (fa_I a2)] w (some (.int (fa_I r.1))) r.2 := by
  refine fa_enter (lv := [(0, .ref (b + o)), (1, .int (fa_I a1)), (2, .int (fa_I a2))]) (by decide +kernel) (Nat.le_of_ble_eq_true rfl) rfl (fun hh hle hnm X => ?_)
  unfold fm_Typing_arrow at hM
  refine g_aload_n X 0 rfl d_Typing_arrow_0 ?_
  refine g_get X ck_8 ho (fa_xn ho (by decide) hN) 0 (by decide) wd_293 rfl (fa_fvR rfl (fa_xt ho (by decide) hT 0)) d_Typing_arrow_1 ?_
  refine g_callV_i X ck_6 (fa_r8_0 _ ho) (fa_xn (fa_r8_0 _ ho) (by decide) hN) rfl mi_Row_size (c_Row_size (fa_rf o 0) (fa_ro (fa_r8_0 _ ho) hN hT) w _ rfl) wd_456 rfl (Nat.le_trans (Nat.le_of_ble_eq_true rfl) hle) (st := []) (Nat.le_of_ble_eq_true rfl) rfl d_Typing_arrow_4 ?_
  refine g_istore_n X (fun x3_2 => [(3, .int (fa_I x3_2)), (0, .ref (b + o)), (1, .int (fa_I a1)), (2, .int (fa_I a2))]) d_Typing_arrow_7 (by decide) (fun _ => rfl) (fun x3_2 ex3_2 => ?_)
  have hM := fa_let_to hM ex3_2
  refine g_aload_n X 1 rfl d_Typing_arrow_8 ?_
  refine g_get X ck_8 ho (fa_xn ho (by decide) hN) 0 (by decide) wd_293 rfl (fa_fvR rfl (fa_xt ho (by decide) hT 0)) d_Typing_arrow_9 ?_
  refine g_iload_n X 0 rfl d_Typing_arrow_12 ?_
  obtain ⟨w4, e3⟩ : ∃ q, fr_add (fa_rf o 0) x3_2 w = q := ⟨_, rfl⟩
  have hM := fa_let_to hM e3.symm
  refine g_callV_v X ck_6 (fa_r8_0 _ ho) (fa_xn (fa_r8_0 _ ho) (by decide) hN) rfl mi_Row_add (ct_Row_add (fa_rf o 0) x3_2 (fa_ro (fa_r8_0 _ ho) hN hT) w _ e3) wd_457 rfl (Nat.le_trans (Nat.le_of_ble_eq_true rfl) hle) (st := []) (Nat.le_of_ble_eq_true rfl) rfl d_Typing_arrow_13 ?_
  refine g_aload_n X 1 rfl d_Typing_arrow_16 ?_
  refine g_get X ck_8 ho (fa_xn ho (by decide) hN) 1 (by decide) wd_294 rfl (fa_fvR rfl (fa_xt ho (by decide) hT 1)) d_Typing_arrow_17 ?_
  refine g_iload_n X 2 rfl d_Typing_arrow_20 ?_
  obtain ⟨w6, e5⟩ : ∃ q, fr_add (fa_rf o 1) a1 w4 = q := ⟨_, rfl⟩
  have hM := fa_let_to hM e5.symm
  refine g_callV_v X ck_6 (fa_r8_1 _ ho) (fa_xn (fa_r8_1 _ ho) (by decide) hN) rfl mi_Row_add (ct_Row_add (fa_rf o 1) a1 (fa_ro (fa_r8_1 _ ho) hN hT) w4 _ e5) wd_457 rfl (Nat.le_trans (Nat.le_of_ble_eq_true rfl) hle) (st := []) (Nat.le_of_ble_eq_true rfl) rfl d_Typing_arrow_21 ?_
  refine g_aload_n X 1 rfl d_Typing_arrow_24 ?_
  refine g_get X ck_8 ho (fa_xn ho (by decide) hN) 2 (by decide) wd_295 rfl (fa_fvR rfl (fa_xt ho (by decide) hT 2)) d_Typing_arrow_25 ?_
  refine g_iload_n X 3 rfl d_Typing_arrow_28 ?_
  obtain ⟨w8, e7⟩ : ∃ q, fr_add (fa_rf o 2) a2 w6 = q := ⟨_, rfl⟩
  have hM := fa_let_to hM e7.symm
  refine g_callV_v X ck_6 (fa_r8_2 _ ho) (fa_xn (fa_r8_2 _ ho) (by decide) hN) rfl mi_Row_add (ct_Row_add (fa_rf o 2) a2 (fa_ro (fa_r8_2 _ ho) hN hT) w6 _ e7) wd_457 rfl (Nat.le_trans (Nat.le_of_ble_eq_true rfl) hle) (st := []) (Nat.le_of_ble_eq_true rfl) rfl d_Typing_arrow_29 ?_
  refine g_iload_n X 0 rfl d_Typing_arrow_32 ?_
  subst hM
  exact g_iret X d_Typing_arrow_33
theorem d_Typing_open_0 : decode prog_9_method_4_code 0 = .ok (.aload_n 0, 1) := by decide +kernel
theorem d_Typing_open_1 : decode prog_9_method_4_code 1 = .ok (.iconst (-1), 1) := by decide +kernel
theorem d_Typing_open_2 : decode prog_9_method_4_code 2 = .ok (.iconst (-1), 1) := by decide +kernel
theorem d_Typing_open_3 : decode prog_9_method_4_code 3 = .ok (.invokevirtual 89, 3) := by decide +kernel
theorem d_Typing_open_6 : decode prog_9_method_4_code 6 = .ok (.ireturn, 1) := by decide +kernel
def fm_Typing_open (o : Nat) (w : fa_W) : Int × fa_W :=
  fa_l2 (fm_Typing_arrow o (-1) (-1) w) fun v2 w3 =>
  (v2, w3)
set_option maxHeartbeats 4000000 in
set_option maxRecDepth 100000 in
theorem c_Typing_open {l : Launch} {D : va_G} {b : Nat} {aC : Nat → ClassId} {H0 : Heap} {N T : Nat} (hN : fa_NX ≤ N) (hT : fa_TX ≤ T) (o : Nat) (ho : (fa_sh o).1 = 8)  (w : fa_W) (r : Int × fa_W) (hM : fm_Typing_open o w = r) : fa_MC l D b aC H0 N T y_Typing_open prog_9_method_4_code 1 ((Option.some Jvm.ClassFile.FieldType.int)) (2) [.ref (b + o)] w (some (.int (fa_I r.1))) r.2 := by
  refine fa_enter (lv := [(0, .ref (b + o))]) (by decide +kernel) (Nat.le_of_ble_eq_true rfl) rfl (fun hh hle hnm X => ?_)
  unfold fm_Typing_open at hM
  refine g_aload_n X 0 rfl d_Typing_open_0 ?_
  refine g_iconst X d_Typing_open_1 ?_
  refine g_iconst X d_Typing_open_2 ?_
  obtain ⟨⟨v2, w3⟩, e1⟩ : ∃ q, fm_Typing_arrow o (-1) (-1) w = q := ⟨_, rfl⟩
  have hM := fa_l2_e hM e1
  refine g_callV_i X ck_8 ho (fa_xn ho (by decide) hN) rfl mi_Typing_arrow (c_Typing_arrow hN hT o (-1) (-1) ho w _ e1) wd_452 rfl (Nat.le_trans (Nat.le_of_ble_eq_true rfl) hle) (st := []) (Nat.le_of_ble_eq_true rfl) rfl d_Typing_open_3 ?_
  subst hM
  exact g_iret X d_Typing_open_6
theorem d_Typing_clear_0 : decode prog_9_method_3_code 0 = .ok (.aload_n 0, 1) := by decide +kernel
theorem d_Typing_clear_1 : decode prog_9_method_3_code 1 = .ok (.iconst 0, 1) := by decide +kernel
theorem d_Typing_clear_2 : decode prog_9_method_3_code 2 = .ok (.putfield 41, 3) := by decide +kernel
theorem d_Typing_clear_5 : decode prog_9_method_3_code 5 = .ok (.aload_n 0, 1) := by decide +kernel
theorem d_Typing_clear_6 : decode prog_9_method_3_code 6 = .ok (.getfield 14, 3) := by decide +kernel
theorem d_Typing_clear_9 : decode prog_9_method_3_code 9 = .ok (.invokevirtual 81, 3) := by decide +kernel
theorem d_Typing_clear_12 : decode prog_9_method_3_code 12 = .ok (.aload_n 0, 1) := by decide +kernel
theorem d_Typing_clear_13 : decode prog_9_method_3_code 13 = .ok (.getfield 20, 3) := by decide +kernel
theorem d_Typing_clear_16 : decode prog_9_method_3_code 16 = .ok (.invokevirtual 81, 3) := by decide +kernel
theorem d_Typing_clear_19 : decode prog_9_method_3_code 19 = .ok (.aload_n 0, 1) := by decide +kernel
theorem d_Typing_clear_20 : decode prog_9_method_3_code 20 = .ok (.getfield 23, 3) := by decide +kernel
theorem d_Typing_clear_23 : decode prog_9_method_3_code 23 = .ok (.invokevirtual 81, 3) := by decide +kernel
theorem d_Typing_clear_26 : decode prog_9_method_3_code 26 = .ok (.aload_n 0, 1) := by decide +kernel
theorem d_Typing_clear_27 : decode prog_9_method_3_code 27 = .ok (.getfield 29, 3) := by decide +kernel
theorem d_Typing_clear_30 : decode prog_9_method_3_code 30 = .ok (.invokevirtual 81, 3) := by decide +kernel
theorem d_Typing_clear_33 : decode prog_9_method_3_code 33 = .ok (.aload_n 0, 1) := by decide +kernel
theorem d_Typing_clear_34 : decode prog_9_method_3_code 34 = .ok (.getfield 32, 3) := by decide +kernel
theorem d_Typing_clear_37 : decode prog_9_method_3_code 37 = .ok (.invokevirtual 81, 3) := by decide +kernel
theorem d_Typing_clear_40 : decode prog_9_method_3_code 40 = .ok (.aload_n 0, 1) := by decide +kernel
theorem d_Typing_clear_41 : decode prog_9_method_3_code 41 = .ok (.getfield 35, 3) := by decide +kernel
theorem d_Typing_clear_44 : decode prog_9_method_3_code 44 = .ok (.invokevirtual 81, 3) := by decide +kernel
theorem d_Typing_clear_47 : decode prog_9_method_3_code 47 = .ok (.aload_n 0, 1) := by decide +kernel
theorem d_Typing_clear_48 : decode prog_9_method_3_code 48 = .ok (.invokevirtual 83, 3) := by decide +kernel
theorem d_Typing_clear_51 : decode prog_9_method_3_code 51 = .ok (.pop, 1) := by decide +kernel
theorem d_Typing_clear_52 : decode prog_9_method_3_code 52 = .ok (.iconst 0, 1) := by decide +kernel
theorem d_Typing_clear_53 : decode prog_9_method_3_code 53 = .ok (.istore_n 2, 1) := by decide +kernel
theorem d_Typing_clear_54 : decode prog_9_method_3_code 54 = .ok (.iload_n 2, 1) := by decide +kernel
theorem d_Typing_clear_55 : decode prog_9_method_3_code 55 = .ok (.bipush 74, 2) := by decide +kernel
theorem d_Typing_clear_57 : decode prog_9_method_3_code 57 = .ok (.if_icmp .ge 20, 3) := by decide +kernel
theorem d_Typing_clear_60 : decode prog_9_method_3_code 60 = .ok (.aload_n 0, 1) := by decide +kernel
theorem d_Typing_clear_61 : decode prog_9_method_3_code 61 = .ok (.getfield 32, 3) := by decide +kernel
theorem d_Typing_clear_64 : decode prog_9_method_3_code 64 = .ok (.aload_n 0, 1) := by decide +kernel
theorem d_Typing_clear_65 : decode prog_9_method_3_code 65 = .ok (.invokevirtual 83, 3) := by decide +kernel
theorem d_Typing_clear_68 : decode prog_9_method_3_code 68 = .ok (.invokevirtual 59, 3) := by decide +kernel
theorem d_Typing_clear_71 : decode prog_9_method_3_code 71 = .ok (.iinc 2 1, 3) := by decide +kernel
theorem d_Typing_clear_74 : decode prog_9_method_3_code 74 = .ok (.goto (-20), 3) := by decide +kernel
theorem d_Typing_clear_77 : decode prog_9_method_3_code 77 = .ok (.iconst 0, 1) := by decide +kernel
theorem d_Typing_clear_78 : decode prog_9_method_3_code 78 = .ok (.istore_n 2, 1) := by decide +kernel
theorem d_Typing_clear_79 : decode prog_9_method_3_code 79 = .ok (.iload_n 2, 1) := by decide +kernel
theorem d_Typing_clear_80 : decode prog_9_method_3_code 80 = .ok (.aload_n 1, 1) := by decide +kernel
theorem d_Typing_clear_81 : decode prog_9_method_3_code 81 = .ok (.getfield 86, 3) := by decide +kernel
theorem d_Typing_clear_84 : decode prog_9_method_3_code 84 = .ok (.if_icmp .ge 32, 3) := by decide +kernel
theorem d_Typing_clear_87 : decode prog_9_method_3_code 87 = .ok (.aload_n 0, 1) := by decide +kernel
theorem d_Typing_clear_88 : decode prog_9_method_3_code 88 = .ok (.getfield 35, 3) := by decide +kernel
theorem d_Typing_clear_91 : decode prog_9_method_3_code 91 = .ok (.aload_n 0, 1) := by decide +kernel
theorem d_Typing_clear_92 : decode prog_9_method_3_code 92 = .ok (.aload_n 0, 1) := by decide +kernel
theorem d_Typing_clear_93 : decode prog_9_method_3_code 93 = .ok (.getfield 32, 3) := by decide +kernel
theorem d_Typing_clear_96 : decode prog_9_method_3_code 96 = .ok (.iload_n 2, 1) := by decide +kernel
theorem d_Typing_clear_97 : decode prog_9_method_3_code 97 = .ok (.invokevirtual 66, 3) := by decide +kernel
theorem d_Typing_clear_100 : decode prog_9_method_3_code 100 = .ok (.aload_n 0, 1) := by decide +kernel
theorem d_Typing_clear_101 : decode prog_9_method_3_code 101 = .ok (.invokevirtual 83, 3) := by decide +kernel
theorem d_Typing_clear_104 : decode prog_9_method_3_code 104 = .ok (.invokevirtual 89, 3) := by decide +kernel
theorem d_Typing_clear_107 : decode prog_9_method_3_code 107 = .ok (.invokevirtual 59, 3) := by decide +kernel
theorem d_Typing_clear_110 : decode prog_9_method_3_code 110 = .ok (.iinc 2 1, 3) := by decide +kernel
theorem d_Typing_clear_113 : decode prog_9_method_3_code 113 = .ok (.goto (-34), 3) := by decide +kernel
theorem d_Typing_clear_116 : decode prog_9_method_3_code 116 = .ok (.return_, 1) := by decide +kernel
def fm_Typing_clear_l79 (o : Nat) (a1 : Nat) : Nat → Int → fa_W → Option fa_W
  | 0, _, _ => none
  | n + 1, x2, w => if fa_wr (w a1 14) ≤ fa_wr x2 then
  some w
  else
  (fa_l2 (fm_Typing_open o w) fun v21 w22 =>
  fa_l2 (fm_Typing_arrow o (fr_at (fa_rf o 5) x2 w) v21 w22) fun v24 w25 =>
  fa_let (fr_add (fa_rf o 6) v24 w25) fun w27 =>
  fa_let (x2 + 1) fun x2_28 =>
  fm_Typing_clear_l79 o a1 n x2_28 w27)
set_option maxHeartbeats 4000000 in
set_option maxRecDepth 100000 in
theorem c_Typing_clear_l79 {p : Program} {l : Launch} {e : Env} {s : State} {m : MethodId} {args : Array Value} {below : List Frame} {meth : Method} {c : Code} {hh : Nat} {D : va_G} {b : Nat} {aC : Nat → ClassId} {H0 : Heap} {N T : Nat} (X : fa_GX p s m args meth c prog_9_method_3_code 3 ((Option.none : Option Jvm.ClassFile.FieldType)) y_Typing_clear.cls D b aC) (hle : 3 ≤ hh) (hN : fa_NX ≤ N) (hT : fa_TX ≤ T) (o : Nat) (a1 : Nat) (ho : (fa_sh o).1 = 8) (ha1 : (fa_sh a1).1 = 4) {r : fa_W}  : ∀ (n : Nat) (x2 : Int) (w : fa_W), fm_Typing_clear_l79 o a1 n x2 w = some r → fa_GJ p l e (fa_rm hh) s m args below meth c 0 0 (MQ below (fa_Qc D b aC H0 N T (none) r) args s 0 0 (fun q => b ≤ q)) D b aC H0 N T 3 w 79 [(0, .ref (b + o)), (1, .ref (b + a1)), (2, .int (fa_I x2))] [] := by
  intro n
  induction n with
  | zero => intro x2 w hM; exact fa_no hM
  | succ n ih =>
    intro x2 w hM
    rw [fm_Typing_clear_l79] at hM
    refine g_iload_n X 2 rfl d_Typing_clear_79 ?_
    refine g_aload_n X 1 rfl d_Typing_clear_80 ?_
    refine g_getN X ck_4 ha1 (fa_xn ha1 (by decide) hN) 14 (by decide) wd_98 rfl (fa_fvI rfl) d_Typing_clear_81 ?_
    refine g_icmp_ge X 116 d_Typing_clear_84 (by decide) (fun hc18 => ?_) (fun hc18 => ?_)
    · have hM := fa_if_t hM hc18
      cases hM
      exact g_vret X d_Typing_clear_116
    · have hM := fa_if_f hM hc18
      refine g_aload_n X 0 rfl d_Typing_clear_87 ?_
      refine g_get X ck_8 ho (fa_xn ho (by decide) hN) 6 (by decide) wd_301 rfl (fa_fvR rfl (fa_xt ho (by decide) hT 6)) d_Typing_clear_88 ?_
      refine g_aload_n X 0 rfl d_Typing_clear_91 ?_
      refine g_aload_n X 0 rfl d_Typing_clear_92 ?_
      refine g_get X ck_8 ho (fa_xn ho (by decide) hN) 5 (by decide) wd_300 rfl (fa_fvR rfl (fa_xt ho (by decide) hT 5)) d_Typing_clear_93 ?_
      refine g_iload_n X 2 rfl d_Typing_clear_96 ?_
      refine g_callV_i X ck_6 (fa_r8_5 _ ho) (fa_xn (fa_r8_5 _ ho) (by decide) hN) rfl mi_Row_at (ct_Row_at (fa_rf o 5) x2 (fa_ro (fa_r8_5 _ ho) hN hT) w _ rfl) wd_458 rfl (Nat.le_trans (Nat.le_of_ble_eq_true rfl) hle) (st := [.ref (b + o), .ref (b + (fa_rf o 6))]) (Nat.le_of_ble_eq_true rfl) rfl d_Typing_clear_97 ?_
      refine g_aload_n X 0 rfl d_Typing_clear_100 ?_
      obtain ⟨⟨v21, w22⟩, e20⟩ : ∃ q, fm_Typing_open o w = q := ⟨_, rfl⟩
      have hM := fa_l2_e hM e20
      refine g_callV_i X ck_8 ho (fa_xn ho (by decide) hN) rfl mi_Typing_open (c_Typing_open hN hT o ho w _ e20) wd_448 rfl (Nat.le_trans (Nat.le_of_ble_eq_true rfl) hle) (st := [.int (fa_I (fr_at (fa_rf o 5) x2 w)), .ref (b + o), .ref (b + (fa_rf o 6))]) (Nat.le_of_ble_eq_true rfl) rfl d_Typing_clear_101 ?_
      obtain ⟨⟨v24, w25⟩, e23⟩ : ∃ q, fm_Typing_arrow o (fr_at (fa_rf o 5) x2 w) v21 w22 = q := ⟨_, rfl⟩
      have hM := fa_l2_e hM e23
      refine g_callV_i X ck_8 ho (fa_xn ho (by decide) hN) rfl mi_Typing_arrow (c_Typing_arrow hN hT o (fr_at (fa_rf o 5) x2 w) v21 ho w22 _ e23) wd_452 rfl (Nat.le_trans (Nat.le_of_ble_eq_true rfl) hle) (st := [.ref (b + (fa_rf o 6))]) (Nat.le_of_ble_eq_true rfl) rfl d_Typing_clear_104 ?_
      obtain ⟨w27, e26⟩ : ∃ q, fr_add (fa_rf o 6) v24 w25 = q := ⟨_, rfl⟩
      have hM := fa_let_to hM e26.symm
      refine g_callV_v X ck_6 (fa_r8_6 _ ho) (fa_xn (fa_r8_6 _ ho) (by decide) hN) rfl mi_Row_add (ct_Row_add (fa_rf o 6) v24 (fa_ro (fa_r8_6 _ ho) hN hT) w25 _ e26) wd_457 rfl (Nat.le_trans (Nat.le_of_ble_eq_true rfl) hle) (st := []) (Nat.le_of_ble_eq_true rfl) rfl d_Typing_clear_107 ?_
      refine g_iinc X 2 (fun x2_28 => [(2, .int (fa_I x2_28)), (0, .ref (b + o)), (1, .ref (b + a1))]) d_Typing_clear_110 rfl (by decide) (fun _ => rfl) (fun x2_28 ex2_28 => ?_)
      have hM := fa_let_to hM ex2_28
      refine g_goto X 79 d_Typing_clear_113 (by decide) ?_
      exact g_lv [1, 2, 0] rfl (ih _ _ hM)
def fm_Typing_clear_l54 (o : Nat) (a1 : Nat) : Nat → Int → fa_W → Option fa_W
  | 0, _, _ => none
  | n + 1, x2, w => if 74 ≤ fa_wr x2 then
  fm_Typing_clear_l79 o a1 fa_FU 0 w
  else
  (fa_l2 (fm_Typing_open o w) fun v30 w31 =>
  fa_let (fr_add (fa_rf o 5) v30 w31) fun w33 =>
  fa_let (x2 + 1) fun x2_34 =>
  fm_Typing_clear_l54 o a1 n x2_34 w33)
set_option maxHeartbeats 4000000 in
set_option maxRecDepth 100000 in
theorem c_Typing_clear_l54 {p : Program} {l : Launch} {e : Env} {s : State} {m : MethodId} {args : Array Value} {below : List Frame} {meth : Method} {c : Code} {hh : Nat} {D : va_G} {b : Nat} {aC : Nat → ClassId} {H0 : Heap} {N T : Nat} (X : fa_GX p s m args meth c prog_9_method_3_code 3 ((Option.none : Option Jvm.ClassFile.FieldType)) y_Typing_clear.cls D b aC) (hle : 3 ≤ hh) (hN : fa_NX ≤ N) (hT : fa_TX ≤ T) (o : Nat) (a1 : Nat) (ho : (fa_sh o).1 = 8) (ha1 : (fa_sh a1).1 = 4) {r : fa_W}  : ∀ (n : Nat) (x2 : Int) (w : fa_W), fm_Typing_clear_l54 o a1 n x2 w = some r → fa_GJ p l e (fa_rm hh) s m args below meth c 0 0 (MQ below (fa_Qc D b aC H0 N T (none) r) args s 0 0 (fun q => b ≤ q)) D b aC H0 N T 3 w 54 [(0, .ref (b + o)), (1, .ref (b + a1)), (2, .int (fa_I x2))] [] := by
  intro n
  induction n with
  | zero => intro x2 w hM; exact fa_no hM
  | succ n ih =>
    intro x2 w hM
    rw [fm_Typing_clear_l54] at hM
    refine g_iload_n X 2 rfl d_Typing_clear_54 ?_
    refine g_bipush X (by decide) d_Typing_clear_55 ?_
    refine g_icmp_ge X 77 d_Typing_clear_57 (by decide) (fun hc17 => ?_) (fun hc17 => ?_)
    · have hM := fa_if_t hM hc17
      refine g_iconst X d_Typing_clear_77 ?_
      refine g_istorec_n X [(2, .int (fa_I 0)), (0, .ref (b + o)), (1, .ref (b + a1))] d_Typing_clear_78 (by decide) rfl ?_
      exact g_lv [1, 2, 0] rfl (c_Typing_clear_l79 X hle hN hT o a1 ho ha1   fa_FU _ _ hM)
    · have hM := fa_if_f hM hc17
      refine g_aload_n X 0 rfl d_Typing_clear_60 ?_
      refine g_get X ck_8 ho (fa_xn ho (by decide) hN) 5 (by decide) wd_300 rfl (fa_fvR rfl (fa_xt ho (by decide) hT 5)) d_Typing_clear_61 ?_
      refine g_aload_n X 0 rfl d_Typing_clear_64 ?_
      obtain ⟨⟨v30, w31⟩, e29⟩ : ∃ q, fm_Typing_open o w = q := ⟨_, rfl⟩
      have hM := fa_l2_e hM e29
      refine g_callV_i X ck_8 ho (fa_xn ho (by decide) hN) rfl mi_Typing_open (c_Typing_open hN hT o ho w _ e29) wd_448 rfl (Nat.le_trans (Nat.le_of_ble_eq_true rfl) hle) (st := [.ref (b + (fa_rf o 5))]) (Nat.le_of_ble_eq_true rfl) rfl d_Typing_clear_65 ?_
      obtain ⟨w33, e32⟩ : ∃ q, fr_add (fa_rf o 5) v30 w31 = q := ⟨_, rfl⟩
      have hM := fa_let_to hM e32.symm
      refine g_callV_v X ck_6 (fa_r8_5 _ ho) (fa_xn (fa_r8_5 _ ho) (by decide) hN) rfl mi_Row_add (ct_Row_add (fa_rf o 5) v30 (fa_ro (fa_r8_5 _ ho) hN hT) w31 _ e32) wd_457 rfl (Nat.le_trans (Nat.le_of_ble_eq_true rfl) hle) (st := []) (Nat.le_of_ble_eq_true rfl) rfl d_Typing_clear_68 ?_
      refine g_iinc X 2 (fun x2_34 => [(2, .int (fa_I x2_34)), (0, .ref (b + o)), (1, .ref (b + a1))]) d_Typing_clear_71 rfl (by decide) (fun _ => rfl) (fun x2_34 ex2_34 => ?_)
      have hM := fa_let_to hM ex2_34
      refine g_goto X 54 d_Typing_clear_74 (by decide) ?_
      exact g_lv [1, 2, 0] rfl (ih _ _ hM)
def fm_Typing_clear (o : Nat) (a1 : Nat) (w : fa_W) : Option fa_W :=
  fa_let (fa_st w o 8 (fa_bi false)) fun w1 =>
  fa_let (fm_Row_clear (fa_rf o 0) w1) fun w3 =>
  fa_let (fm_Row_clear (fa_rf o 1) w3) fun w5 =>
  fa_let (fm_Row_clear (fa_rf o 2) w5) fun w7 =>
  fa_let (fm_Row_clear (fa_rf o 4) w7) fun w9 =>
  fa_let (fm_Row_clear (fa_rf o 5) w9) fun w11 =>
  fa_let (fm_Row_clear (fa_rf o 6) w11) fun w13 =>
  fa_l2 (fm_Typing_open o w13) fun v15 w16 =>
  fm_Typing_clear_l54 o a1 fa_FU 0 w16
set_option maxHeartbeats 4000000 in
set_option maxRecDepth 100000 in
theorem c_Typing_clear {l : Launch} {D : va_G} {b : Nat} {aC : Nat → ClassId} {H0 : Heap} {N T : Nat} (hN : fa_NX ≤ N) (hT : fa_TX ≤ T) (o : Nat) (a1 : Nat) (ho : (fa_sh o).1 = 8) (ha1 : (fa_sh a1).1 = 4)  (w : fa_W) (r : fa_W) (hM : fm_Typing_clear o a1 w = some r) : fa_MC l D b aC H0 N T y_Typing_clear prog_9_method_3_code 3 ((Option.none : Option Jvm.ClassFile.FieldType)) (3) [.ref (b + o), .ref (b + a1)] w (none) r := by
  refine fa_enter (lv := [(0, .ref (b + o)), (1, .ref (b + a1))]) (by decide +kernel) (Nat.le_of_ble_eq_true rfl) rfl (fun hh hle hnm X => ?_)
  unfold fm_Typing_clear at hM
  refine g_aload_n X 0 rfl d_Typing_clear_0 ?_
  refine g_iconst X d_Typing_clear_1 ?_
  refine g_put X ck_8 ho (fa_xn ho (by decide) hN) 8 (z := (fa_bi false)) (by decide) wd_304 rfl (fa_fvB' rfl) rfl (fa_nb false).1 (fa_nb false).2 d_Typing_clear_2 (fun w1 ew1 => ?_)
  have hM := fa_let_to hM ew1
  refine g_aload_n X 0 rfl d_Typing_clear_5 ?_
  refine g_get X ck_8 ho (fa_xn ho (by decide) hN) 0 (by decide) wd_293 rfl (fa_fvR rfl (fa_xt ho (by decide) hT 0)) d_Typing_clear_6 ?_
  obtain ⟨w3, e2⟩ : ∃ q, fm_Row_clear (fa_rf o 0) w1 = q := ⟨_, rfl⟩
  have hM := fa_let_to hM e2.symm
  refine g_callV_v X ck_6 (fa_r8_0 _ ho) (fa_xn (fa_r8_0 _ ho) (by decide) hN) rfl mi_Row_clear (c_Row_clear (fa_rf o 0) (fa_ro (fa_r8_0 _ ho) hN hT) w1 _ e2) wd_447 rfl (Nat.le_trans (Nat.le_of_ble_eq_true rfl) hle) (st := []) (Nat.le_of_ble_eq_true rfl) rfl d_Typing_clear_9 ?_
  refine g_aload_n X 0 rfl d_Typing_clear_12 ?_
  refine g_get X ck_8 ho (fa_xn ho (by decide) hN) 1 (by decide) wd_294 rfl (fa_fvR rfl (fa_xt ho (by decide) hT 1)) d_Typing_clear_13 ?_
  obtain ⟨w5, e4⟩ : ∃ q, fm_Row_clear (fa_rf o 1) w3 = q := ⟨_, rfl⟩
  have hM := fa_let_to hM e4.symm
  refine g_callV_v X ck_6 (fa_r8_1 _ ho) (fa_xn (fa_r8_1 _ ho) (by decide) hN) rfl mi_Row_clear (c_Row_clear (fa_rf o 1) (fa_ro (fa_r8_1 _ ho) hN hT) w3 _ e4) wd_447 rfl (Nat.le_trans (Nat.le_of_ble_eq_true rfl) hle) (st := []) (Nat.le_of_ble_eq_true rfl) rfl d_Typing_clear_16 ?_
  refine g_aload_n X 0 rfl d_Typing_clear_19 ?_
  refine g_get X ck_8 ho (fa_xn ho (by decide) hN) 2 (by decide) wd_295 rfl (fa_fvR rfl (fa_xt ho (by decide) hT 2)) d_Typing_clear_20 ?_
  obtain ⟨w7, e6⟩ : ∃ q, fm_Row_clear (fa_rf o 2) w5 = q := ⟨_, rfl⟩
  have hM := fa_let_to hM e6.symm
  refine g_callV_v X ck_6 (fa_r8_2 _ ho) (fa_xn (fa_r8_2 _ ho) (by decide) hN) rfl mi_Row_clear (c_Row_clear (fa_rf o 2) (fa_ro (fa_r8_2 _ ho) hN hT) w5 _ e6) wd_447 rfl (Nat.le_trans (Nat.le_of_ble_eq_true rfl) hle) (st := []) (Nat.le_of_ble_eq_true rfl) rfl d_Typing_clear_23 ?_
  refine g_aload_n X 0 rfl d_Typing_clear_26 ?_
  refine g_get X ck_8 ho (fa_xn ho (by decide) hN) 4 (by decide) wd_297 rfl (fa_fvR rfl (fa_xt ho (by decide) hT 4)) d_Typing_clear_27 ?_
  obtain ⟨w9, e8⟩ : ∃ q, fm_Row_clear (fa_rf o 4) w7 = q := ⟨_, rfl⟩
  have hM := fa_let_to hM e8.symm
  refine g_callV_v X ck_6 (fa_r8_4 _ ho) (fa_xn (fa_r8_4 _ ho) (by decide) hN) rfl mi_Row_clear (c_Row_clear (fa_rf o 4) (fa_ro (fa_r8_4 _ ho) hN hT) w7 _ e8) wd_447 rfl (Nat.le_trans (Nat.le_of_ble_eq_true rfl) hle) (st := []) (Nat.le_of_ble_eq_true rfl) rfl d_Typing_clear_30 ?_
  refine g_aload_n X 0 rfl d_Typing_clear_33 ?_
  refine g_get X ck_8 ho (fa_xn ho (by decide) hN) 5 (by decide) wd_300 rfl (fa_fvR rfl (fa_xt ho (by decide) hT 5)) d_Typing_clear_34 ?_
  obtain ⟨w11, e10⟩ : ∃ q, fm_Row_clear (fa_rf o 5) w9 = q := ⟨_, rfl⟩
  have hM := fa_let_to hM e10.symm
  refine g_callV_v X ck_6 (fa_r8_5 _ ho) (fa_xn (fa_r8_5 _ ho) (by decide) hN) rfl mi_Row_clear (c_Row_clear (fa_rf o 5) (fa_ro (fa_r8_5 _ ho) hN hT) w9 _ e10) wd_447 rfl (Nat.le_trans (Nat.le_of_ble_eq_true rfl) hle) (st := []) (Nat.le_of_ble_eq_true rfl) rfl d_Typing_clear_37 ?_
  refine g_aload_n X 0 rfl d_Typing_clear_40 ?_
  refine g_get X ck_8 ho (fa_xn ho (by decide) hN) 6 (by decide) wd_301 rfl (fa_fvR rfl (fa_xt ho (by decide) hT 6)) d_Typing_clear_41 ?_
  obtain ⟨w13, e12⟩ : ∃ q, fm_Row_clear (fa_rf o 6) w11 = q := ⟨_, rfl⟩
  have hM := fa_let_to hM e12.symm
  refine g_callV_v X ck_6 (fa_r8_6 _ ho) (fa_xn (fa_r8_6 _ ho) (by decide) hN) rfl mi_Row_clear (c_Row_clear (fa_rf o 6) (fa_ro (fa_r8_6 _ ho) hN hT) w11 _ e12) wd_447 rfl (Nat.le_trans (Nat.le_of_ble_eq_true rfl) hle) (st := []) (Nat.le_of_ble_eq_true rfl) rfl d_Typing_clear_44 ?_
  refine g_aload_n X 0 rfl d_Typing_clear_47 ?_
  obtain ⟨⟨v15, w16⟩, e14⟩ : ∃ q, fm_Typing_open o w13 = q := ⟨_, rfl⟩
  have hM := fa_l2_e hM e14
  refine g_callV_i X ck_8 ho (fa_xn ho (by decide) hN) rfl mi_Typing_open (c_Typing_open hN hT o ho w13 _ e14) wd_448 rfl (Nat.le_trans (Nat.le_of_ble_eq_true rfl) hle) (st := []) (Nat.le_of_ble_eq_true rfl) rfl d_Typing_clear_48 ?_
  refine g_pop X rfl d_Typing_clear_51 ?_
  refine g_iconst X d_Typing_clear_52 ?_
  refine g_istorec_n X [(2, .int (fa_I 0)), (0, .ref (b + o)), (1, .ref (b + a1))] d_Typing_clear_53 (by decide) rfl ?_
  exact g_lv [1, 2, 0] rfl (c_Typing_clear_l54 X hle hN hT o a1 ho ha1   fa_FU _ _ hM)
theorem d_Typing_root_0 : decode prog_9_method_7_code 0 = .ok (.iload_n 1, 1) := by decide +kernel
theorem d_Typing_root_1 : decode prog_9_method_7_code 1 = .ok (.istore_n 2, 1) := by decide +kernel
theorem d_Typing_root_2 : decode prog_9_method_7_code 2 = .ok (.iconst 0, 1) := by decide +kernel
theorem d_Typing_root_3 : decode prog_9_method_7_code 3 = .ok (.istore_n 3, 1) := by decide +kernel
theorem d_Typing_root_4 : decode prog_9_method_7_code 4 = .ok (.iload_n 3, 1) := by decide +kernel
theorem d_Typing_root_5 : decode prog_9_method_7_code 5 = .ok (.sipush 400, 3) := by decide +kernel
theorem d_Typing_root_8 : decode prog_9_method_7_code 8 = .ok (.if_icmp .ge 30, 3) := by decide +kernel
theorem d_Typing_root_11 : decode prog_9_method_7_code 11 = .ok (.aload_n 0, 1) := by decide +kernel
theorem d_Typing_root_12 : decode prog_9_method_7_code 12 = .ok (.getfield 14, 3) := by decide +kernel
theorem d_Typing_root_15 : decode prog_9_method_7_code 15 = .ok (.iload_n 2, 1) := by decide +kernel
theorem d_Typing_root_16 : decode prog_9_method_7_code 16 = .ok (.invokevirtual 66, 3) := by decide +kernel
theorem d_Typing_root_19 : decode prog_9_method_7_code 19 = .ok (.iload_n 2, 1) := by decide +kernel
theorem d_Typing_root_20 : decode prog_9_method_7_code 20 = .ok (.if_icmp .eq 18, 3) := by decide +kernel
theorem d_Typing_root_23 : decode prog_9_method_7_code 23 = .ok (.aload_n 0, 1) := by decide +kernel
theorem d_Typing_root_24 : decode prog_9_method_7_code 24 = .ok (.getfield 14, 3) := by decide +kernel
theorem d_Typing_root_27 : decode prog_9_method_7_code 27 = .ok (.iload_n 2, 1) := by decide +kernel
theorem d_Typing_root_28 : decode prog_9_method_7_code 28 = .ok (.invokevirtual 66, 3) := by decide +kernel
theorem d_Typing_root_31 : decode prog_9_method_7_code 31 = .ok (.istore_n 2, 1) := by decide +kernel
theorem d_Typing_root_32 : decode prog_9_method_7_code 32 = .ok (.iinc 3 1, 3) := by decide +kernel
theorem d_Typing_root_35 : decode prog_9_method_7_code 35 = .ok (.goto (-31), 3) := by decide +kernel
theorem d_Typing_root_38 : decode prog_9_method_7_code 38 = .ok (.iload_n 2, 1) := by decide +kernel
theorem d_Typing_root_39 : decode prog_9_method_7_code 39 = .ok (.ireturn, 1) := by decide +kernel
def fm_Typing_root_l4 (o : Nat) (a1 : Int) (w : fa_W) : Nat → Int → Int → Option Int
  | 0, _, _ => none
  | n + 1, x2, x3 => if 400 ≤ fa_wr x3 then
  some x2
  else
  (if fa_wr (fr_at (fa_rf o 0) x2 w) = fa_wr x2 then
  some x2
  else
  (fa_let (fr_at (fa_rf o 0) x2 w) fun x2_5 =>
  fa_let (x3 + 1) fun x3_6 =>
  fm_Typing_root_l4 o a1 w n x2_5 x3_6))
set_option maxHeartbeats 4000000 in
set_option maxRecDepth 100000 in
theorem c_Typing_root_l4 {p : Program} {l : Launch} {e : Env} {s : State} {m : MethodId} {args : Array Value} {below : List Frame} {meth : Method} {c : Code} {hh : Nat} {D : va_G} {b : Nat} {aC : Nat → ClassId} {H0 : Heap} {N T : Nat} (X : fa_GX p s m args meth c prog_9_method_7_code 4 ((Option.some Jvm.ClassFile.FieldType.int)) y_Typing_root.cls D b aC) (hle : 1 ≤ hh) (hN : fa_NX ≤ N) (hT : fa_TX ≤ T) (o : Nat) (a1 : Int) (ho : (fa_sh o).1 = 8) {r : Int} (w : fa_W) : ∀ (n : Nat) (x2 : Int) (x3 : Int), fm_Typing_root_l4 o a1 w n x2 x3 = some r → fa_GJ p l e (fa_rm hh) s m args below meth c 0 0 (MQ below (fa_Qc D b aC H0 N T (some (.int (fa_I r))) w) args s 0 0 (fun q => b ≤ q)) D b aC H0 N T 4 w 4 [(0, .ref (b + o)), (2, .int (fa_I x2)), (3, .int (fa_I x3))] [] := by
  intro n
  induction n with
  | zero => intro x2 x3 hM; exact fa_no hM
  | succ n ih =>
    intro x2 x3 hM
    rw [fm_Typing_root_l4] at hM
    refine g_iload_n X 2 rfl d_Typing_root_4 ?_
    refine g_sipush X (by decide) d_Typing_root_5 ?_
    refine g_icmp_ge X 38 d_Typing_root_8 (by decide) (fun hc1 => ?_) (fun hc1 => ?_)
    · have hM := fa_if_t hM hc1
      refine g_iload_n X 1 rfl d_Typing_root_38 ?_
      cases hM
      exact g_iret X d_Typing_root_39
    · have hM := fa_if_f hM hc1
      refine g_aload_n X 0 rfl d_Typing_root_11 ?_
      refine g_get X ck_8 ho (fa_xn ho (by decide) hN) 0 (by decide) wd_293 rfl (fa_fvR rfl (fa_xt ho (by decide) hT 0)) d_Typing_root_12 ?_
      refine g_iload_n X 1 rfl d_Typing_root_15 ?_
      refine g_callV_i X ck_6 (fa_r8_0 _ ho) (fa_xn (fa_r8_0 _ ho) (by decide) hN) rfl mi_Row_at (ct_Row_at (fa_rf o 0) x2 (fa_ro (fa_r8_0 _ ho) hN hT) w _ rfl) wd_458 rfl (Nat.le_trans (Nat.le_of_ble_eq_true rfl) hle) (st := []) (Nat.le_of_ble_eq_true rfl) rfl d_Typing_root_16 ?_
      refine g_iload_n X 1 rfl d_Typing_root_19 ?_
      refine g_icmp_eq X 38 d_Typing_root_20 (by decide) (fun hc3 => ?_) (fun hc3 => ?_)
      · have hM := fa_if_t hM hc3
        refine g_iload_n X 1 rfl d_Typing_root_38 ?_
        cases hM
        exact g_iret X d_Typing_root_39
      · have hM := fa_if_f hM hc3
        refine g_aload_n X 0 rfl d_Typing_root_23 ?_
        refine g_get X ck_8 ho (fa_xn ho (by decide) hN) 0 (by decide) wd_293 rfl (fa_fvR rfl (fa_xt ho (by decide) hT 0)) d_Typing_root_24 ?_
        refine g_iload_n X 1 rfl d_Typing_root_27 ?_
        refine g_callV_i X ck_6 (fa_r8_0 _ ho) (fa_xn (fa_r8_0 _ ho) (by decide) hN) rfl mi_Row_at (ct_Row_at (fa_rf o 0) x2 (fa_ro (fa_r8_0 _ ho) hN hT) w _ rfl) wd_458 rfl (Nat.le_trans (Nat.le_of_ble_eq_true rfl) hle) (st := []) (Nat.le_of_ble_eq_true rfl) rfl d_Typing_root_28 ?_
        refine g_istore_n X (fun x2_5 => [(2, .int (fa_I x2_5)), (0, .ref (b + o)), (3, .int (fa_I x3))]) d_Typing_root_31 (by decide) (fun _ => rfl) (fun x2_5 ex2_5 => ?_)
        have hM := fa_let_to hM ex2_5
        refine g_iinc X 2 (fun x3_6 => [(3, .int (fa_I x3_6)), (2, .int (fa_I x2_5)), (0, .ref (b + o))]) d_Typing_root_32 rfl (by decide) (fun _ => rfl) (fun x3_6 ex3_6 => ?_)
        have hM := fa_let_to hM ex3_6
        refine g_goto X 4 d_Typing_root_35 (by decide) ?_
        exact g_lv [2, 1, 0] rfl (ih _ _ hM)
def fm_Typing_root (o : Nat) (a1 : Int) (w : fa_W) : Option Int :=
  fm_Typing_root_l4 o a1 w fa_FU a1 0
set_option maxHeartbeats 4000000 in
set_option maxRecDepth 100000 in
theorem c_Typing_root {l : Launch} {D : va_G} {b : Nat} {aC : Nat → ClassId} {H0 : Heap} {N T : Nat} (hN : fa_NX ≤ N) (hT : fa_TX ≤ T) (o : Nat) (a1 : Int) (ho : (fa_sh o).1 = 8)  (w : fa_W) (r : Int) (hM : fm_Typing_root o a1 w = some r) : fa_MC l D b aC H0 N T y_Typing_root prog_9_method_7_code 4 ((Option.some Jvm.ClassFile.FieldType.int)) (1) [.ref (b + o), .int (fa_I a1)] w (some (.int (fa_I r))) w := by
  refine fa_enter (lv := [(0, .ref (b + o)), (1, .int (fa_I a1))]) (by decide +kernel) (Nat.le_of_ble_eq_true rfl) rfl (fun hh hle hnm X => ?_)
  unfold fm_Typing_root at hM
  refine g_iload_n X 1 rfl d_Typing_root_0 ?_
  refine g_istorec_n X [(2, .int (fa_I a1)), (0, .ref (b + o)), (1, .int (fa_I a1))] d_Typing_root_1 (by decide) rfl ?_
  refine g_iconst X d_Typing_root_2 ?_
  refine g_istorec_n X [(3, .int (fa_I 0)), (2, .int (fa_I a1)), (0, .ref (b + o)), (1, .int (fa_I a1))] d_Typing_root_3 (by decide) rfl ?_
  exact g_lv [2, 1, 0] rfl (c_Typing_root_l4 X hle hN hT o a1 ho w  fa_FU _ _ hM)
theorem d_Typing_isOpen_0 : decode prog_9_method_13_code 0 = .ok (.iload_n 1, 1) := by decide +kernel
theorem d_Typing_isOpen_1 : decode prog_9_method_13_code 1 = .ok (.ifCond .eq 19, 3) := by decide +kernel
theorem d_Typing_isOpen_4 : decode prog_9_method_13_code 4 = .ok (.aload_n 0, 1) := by decide +kernel
theorem d_Typing_isOpen_5 : decode prog_9_method_13_code 5 = .ok (.getfield 20, 3) := by decide +kernel
theorem d_Typing_isOpen_8 : decode prog_9_method_13_code 8 = .ok (.iload_n 1, 1) := by decide +kernel
theorem d_Typing_isOpen_9 : decode prog_9_method_13_code 9 = .ok (.invokevirtual 66, 3) := by decide +kernel
theorem d_Typing_isOpen_12 : decode prog_9_method_13_code 12 = .ok (.iconst (-1), 1) := by decide +kernel
theorem d_Typing_isOpen_13 : decode prog_9_method_13_code 13 = .ok (.if_icmp .ne 7, 3) := by decide +kernel
theorem d_Typing_isOpen_16 : decode prog_9_method_13_code 16 = .ok (.iconst 1, 1) := by decide +kernel
theorem d_Typing_isOpen_17 : decode prog_9_method_13_code 17 = .ok (.goto 4, 3) := by decide +kernel
theorem d_Typing_isOpen_20 : decode prog_9_method_13_code 20 = .ok (.iconst 0, 1) := by decide +kernel
theorem d_Typing_isOpen_21 : decode prog_9_method_13_code 21 = .ok (.ireturn, 1) := by decide +kernel
def fm_Typing_isOpen (o : Nat) (a1 : Int) (w : fa_W) : Bool :=
  if fa_wr a1 = 0 then
  false
  else
  (if fa_wr (fr_at (fa_rf o 1) a1 w) = (-1) then
  true
  else
  false)
set_option maxHeartbeats 4000000 in
set_option maxRecDepth 100000 in
theorem c_Typing_isOpen {l : Launch} {D : va_G} {b : Nat} {aC : Nat → ClassId} {H0 : Heap} {N T : Nat} (hN : fa_NX ≤ N) (hT : fa_TX ≤ T) (o : Nat) (a1 : Int) (ho : (fa_sh o).1 = 8)  (w : fa_W) (r : Bool) (hM : fm_Typing_isOpen o a1 w = r) : fa_MC l D b aC H0 N T y_Typing_isOpen prog_9_method_13_code 2 ((Option.some Jvm.ClassFile.FieldType.boolean)) (1) [.ref (b + o), .int (fa_I a1)] w (some (.int (fa_I (fa_bi r)))) w := by
  refine fa_enter (lv := [(0, .ref (b + o)), (1, .int (fa_I a1))]) (by decide +kernel) (Nat.le_of_ble_eq_true rfl) rfl (fun hh hle hnm X => ?_)
  unfold fm_Typing_isOpen at hM
  refine g_iload_n X 1 rfl d_Typing_isOpen_0 ?_
  refine g_if_eq X 20 d_Typing_isOpen_1 (by decide) (fun hc1 => ?_) (fun hc1 => ?_)
  · have hM := fa_if_t hM hc1
    refine g_iconst X d_Typing_isOpen_20 ?_
    subst hM
    exact g_zret X rfl d_Typing_isOpen_21
  · have hM := fa_if_f hM hc1
    refine g_aload_n X 0 rfl d_Typing_isOpen_4 ?_
    refine g_get X ck_8 ho (fa_xn ho (by decide) hN) 1 (by decide) wd_294 rfl (fa_fvR rfl (fa_xt ho (by decide) hT 1)) d_Typing_isOpen_5 ?_
    refine g_iload_n X 1 rfl d_Typing_isOpen_8 ?_
    refine g_callV_i X ck_6 (fa_r8_1 _ ho) (fa_xn (fa_r8_1 _ ho) (by decide) hN) rfl mi_Row_at (ct_Row_at (fa_rf o 1) a1 (fa_ro (fa_r8_1 _ ho) hN hT) w _ rfl) wd_458 rfl (Nat.le_trans (Nat.le_of_ble_eq_true rfl) hle) (st := []) (Nat.le_of_ble_eq_true rfl) rfl d_Typing_isOpen_9 ?_
    refine g_iconst X d_Typing_isOpen_12 ?_
    refine g_icmp_ne X 20 d_Typing_isOpen_13 (by decide) (fun hc3 => ?_) (fun hc3 => ?_)
    · have hM := fa_if_f hM hc3
      refine g_iconst X d_Typing_isOpen_20 ?_
      subst hM
      exact g_zret X rfl d_Typing_isOpen_21
    · have hM := fa_if_t hM hc3
      refine g_iconst X d_Typing_isOpen_16 ?_
      refine g_goto X 21 d_Typing_isOpen_17 (by decide) ?_
      subst hM
      exact g_zret X rfl d_Typing_isOpen_21
theorem d_Typing_isArrow_0 : decode prog_9_method_9_code 0 = .ok (.aload_n 0, 1) := by decide +kernel
theorem d_Typing_isArrow_1 : decode prog_9_method_9_code 1 = .ok (.getfield 20, 3) := by decide +kernel
theorem d_Typing_isArrow_4 : decode prog_9_method_9_code 4 = .ok (.iload_n 1, 1) := by decide +kernel
theorem d_Typing_isArrow_5 : decode prog_9_method_9_code 5 = .ok (.invokevirtual 66, 3) := by decide +kernel
theorem d_Typing_isArrow_8 : decode prog_9_method_9_code 8 = .ok (.iconst (-1), 1) := by decide +kernel
theorem d_Typing_isArrow_9 : decode prog_9_method_9_code 9 = .ok (.if_icmp .eq 7, 3) := by decide +kernel
theorem d_Typing_isArrow_12 : decode prog_9_method_9_code 12 = .ok (.iconst 1, 1) := by decide +kernel
theorem d_Typing_isArrow_13 : decode prog_9_method_9_code 13 = .ok (.goto 4, 3) := by decide +kernel
theorem d_Typing_isArrow_16 : decode prog_9_method_9_code 16 = .ok (.iconst 0, 1) := by decide +kernel
theorem d_Typing_isArrow_17 : decode prog_9_method_9_code 17 = .ok (.ireturn, 1) := by decide +kernel
def fm_Typing_isArrow (o : Nat) (a1 : Int) (w : fa_W) : Bool :=
  if fa_wr (fr_at (fa_rf o 1) a1 w) = (-1) then
  false
  else
  true
set_option maxHeartbeats 4000000 in
set_option maxRecDepth 100000 in
theorem c_Typing_isArrow {l : Launch} {D : va_G} {b : Nat} {aC : Nat → ClassId} {H0 : Heap} {N T : Nat} (hN : fa_NX ≤ N) (hT : fa_TX ≤ T) (o : Nat) (a1 : Int) (ho : (fa_sh o).1 = 8)  (w : fa_W) (r : Bool) (hM : fm_Typing_isArrow o a1 w = r) : fa_MC l D b aC H0 N T y_Typing_isArrow prog_9_method_9_code 2 ((Option.some Jvm.ClassFile.FieldType.boolean)) (1) [.ref (b + o), .int (fa_I a1)] w (some (.int (fa_I (fa_bi r)))) w := by
  refine fa_enter (lv := [(0, .ref (b + o)), (1, .int (fa_I a1))]) (by decide +kernel) (Nat.le_of_ble_eq_true rfl) rfl (fun hh hle hnm X => ?_)
  unfold fm_Typing_isArrow at hM
  refine g_aload_n X 0 rfl d_Typing_isArrow_0 ?_
  refine g_get X ck_8 ho (fa_xn ho (by decide) hN) 1 (by decide) wd_294 rfl (fa_fvR rfl (fa_xt ho (by decide) hT 1)) d_Typing_isArrow_1 ?_
  refine g_iload_n X 1 rfl d_Typing_isArrow_4 ?_
  refine g_callV_i X ck_6 (fa_r8_1 _ ho) (fa_xn (fa_r8_1 _ ho) (by decide) hN) rfl mi_Row_at (ct_Row_at (fa_rf o 1) a1 (fa_ro (fa_r8_1 _ ho) hN hT) w _ rfl) wd_458 rfl (Nat.le_trans (Nat.le_of_ble_eq_true rfl) hle) (st := []) (Nat.le_of_ble_eq_true rfl) rfl d_Typing_isArrow_5 ?_
  refine g_iconst X d_Typing_isArrow_8 ?_
  refine g_icmp_eq X 16 d_Typing_isArrow_9 (by decide) (fun hc2 => ?_) (fun hc2 => ?_)
  · have hM := fa_if_t hM hc2
    refine g_iconst X d_Typing_isArrow_16 ?_
    subst hM
    exact g_zret X rfl d_Typing_isArrow_17
  · have hM := fa_if_f hM hc2
    refine g_iconst X d_Typing_isArrow_12 ?_
    refine g_goto X 17 d_Typing_isArrow_13 (by decide) ?_
    subst hM
    exact g_zret X rfl d_Typing_isArrow_17
theorem d_Typing_unify_0 : decode prog_9_method_12_code 0 = .ok (.aload_n 0, 1) := by decide +kernel
theorem d_Typing_unify_1 : decode prog_9_method_12_code 1 = .ok (.getfield 38, 3) := by decide +kernel
theorem d_Typing_unify_4 : decode prog_9_method_12_code 4 = .ok (.invokevirtual 81, 3) := by decide +kernel
theorem d_Typing_unify_7 : decode prog_9_method_12_code 7 = .ok (.aload_n 0, 1) := by decide +kernel
theorem d_Typing_unify_8 : decode prog_9_method_12_code 8 = .ok (.getfield 38, 3) := by decide +kernel
theorem d_Typing_unify_11 : decode prog_9_method_12_code 11 = .ok (.iload_n 1, 1) := by decide +kernel
theorem d_Typing_unify_12 : decode prog_9_method_12_code 12 = .ok (.invokevirtual 59, 3) := by decide +kernel
theorem d_Typing_unify_15 : decode prog_9_method_12_code 15 = .ok (.aload_n 0, 1) := by decide +kernel
theorem d_Typing_unify_16 : decode prog_9_method_12_code 16 = .ok (.getfield 38, 3) := by decide +kernel
theorem d_Typing_unify_19 : decode prog_9_method_12_code 19 = .ok (.iload_n 2, 1) := by decide +kernel
theorem d_Typing_unify_20 : decode prog_9_method_12_code 20 = .ok (.invokevirtual 59, 3) := by decide +kernel
theorem d_Typing_unify_23 : decode prog_9_method_12_code 23 = .ok (.iconst 0, 1) := by decide +kernel
theorem d_Typing_unify_24 : decode prog_9_method_12_code 24 = .ok (.istore_n 3, 1) := by decide +kernel
theorem d_Typing_unify_25 : decode prog_9_method_12_code 25 = .ok (.iload_n 3, 1) := by decide +kernel
theorem d_Typing_unify_26 : decode prog_9_method_12_code 26 = .ok (.ldc 108, 2) := by decide +kernel
theorem d_Typing_unify_28 : decode prog_9_method_12_code 28 = .ok (.if_icmp .ge 202, 3) := by decide +kernel
theorem d_Typing_unify_31 : decode prog_9_method_12_code 31 = .ok (.aload_n 0, 1) := by decide +kernel
theorem d_Typing_unify_32 : decode prog_9_method_12_code 32 = .ok (.getfield 38, 3) := by decide +kernel
theorem d_Typing_unify_35 : decode prog_9_method_12_code 35 = .ok (.invokevirtual 93, 3) := by decide +kernel
theorem d_Typing_unify_38 : decode prog_9_method_12_code 38 = .ok (.ifCond .le 192, 3) := by decide +kernel
theorem d_Typing_unify_41 : decode prog_9_method_12_code 41 = .ok (.aload_n 0, 1) := by decide +kernel
theorem d_Typing_unify_42 : decode prog_9_method_12_code 42 = .ok (.aload_n 0, 1) := by decide +kernel
theorem d_Typing_unify_43 : decode prog_9_method_12_code 43 = .ok (.getfield 38, 3) := by decide +kernel
theorem d_Typing_unify_46 : decode prog_9_method_12_code 46 = .ok (.invokevirtual 109, 3) := by decide +kernel
theorem d_Typing_unify_49 : decode prog_9_method_12_code 49 = .ok (.invokevirtual 105, 3) := by decide +kernel
theorem d_Typing_unify_52 : decode prog_9_method_12_code 52 = .ok (.istore 4, 2) := by decide +kernel
theorem d_Typing_unify_54 : decode prog_9_method_12_code 54 = .ok (.aload_n 0, 1) := by decide +kernel
theorem d_Typing_unify_55 : decode prog_9_method_12_code 55 = .ok (.aload_n 0, 1) := by decide +kernel
theorem d_Typing_unify_56 : decode prog_9_method_12_code 56 = .ok (.getfield 38, 3) := by decide +kernel
theorem d_Typing_unify_59 : decode prog_9_method_12_code 59 = .ok (.invokevirtual 109, 3) := by decide +kernel
theorem d_Typing_unify_62 : decode prog_9_method_12_code 62 = .ok (.invokevirtual 105, 3) := by decide +kernel
theorem d_Typing_unify_65 : decode prog_9_method_12_code 65 = .ok (.istore 5, 2) := by decide +kernel
theorem d_Typing_unify_67 : decode prog_9_method_12_code 67 = .ok (.iload 5, 2) := by decide +kernel
theorem d_Typing_unify_69 : decode prog_9_method_12_code 69 = .ok (.iload 4, 2) := by decide +kernel
theorem d_Typing_unify_71 : decode prog_9_method_12_code 71 = .ok (.if_icmp .ne 6, 3) := by decide +kernel
theorem d_Typing_unify_74 : decode prog_9_method_12_code 74 = .ok (.goto 150, 3) := by decide +kernel
theorem d_Typing_unify_77 : decode prog_9_method_12_code 77 = .ok (.aload_n 0, 1) := by decide +kernel
theorem d_Typing_unify_78 : decode prog_9_method_12_code 78 = .ok (.iload 5, 2) := by decide +kernel
theorem d_Typing_unify_80 : decode prog_9_method_12_code 80 = .ok (.invokevirtual 112, 3) := by decide +kernel
theorem d_Typing_unify_83 : decode prog_9_method_12_code 83 = .ok (.ifCond .eq 17, 3) := by decide +kernel
theorem d_Typing_unify_86 : decode prog_9_method_12_code 86 = .ok (.aload_n 0, 1) := by decide +kernel
theorem d_Typing_unify_87 : decode prog_9_method_12_code 87 = .ok (.getfield 14, 3) := by decide +kernel
theorem d_Typing_unify_90 : decode prog_9_method_12_code 90 = .ok (.iload 5, 2) := by decide +kernel
theorem d_Typing_unify_92 : decode prog_9_method_12_code 92 = .ok (.iload 4, 2) := by decide +kernel
theorem d_Typing_unify_94 : decode prog_9_method_12_code 94 = .ok (.invokevirtual 116, 3) := by decide +kernel
theorem d_Typing_unify_97 : decode prog_9_method_12_code 97 = .ok (.goto 127, 3) := by decide +kernel
theorem d_Typing_unify_100 : decode prog_9_method_12_code 100 = .ok (.aload_n 0, 1) := by decide +kernel
theorem d_Typing_unify_101 : decode prog_9_method_12_code 101 = .ok (.iload 4, 2) := by decide +kernel
theorem d_Typing_unify_103 : decode prog_9_method_12_code 103 = .ok (.invokevirtual 112, 3) := by decide +kernel
theorem d_Typing_unify_106 : decode prog_9_method_12_code 106 = .ok (.ifCond .eq 17, 3) := by decide +kernel
theorem d_Typing_unify_109 : decode prog_9_method_12_code 109 = .ok (.aload_n 0, 1) := by decide +kernel
theorem d_Typing_unify_110 : decode prog_9_method_12_code 110 = .ok (.getfield 14, 3) := by decide +kernel
theorem d_Typing_unify_113 : decode prog_9_method_12_code 113 = .ok (.iload 4, 2) := by decide +kernel
theorem d_Typing_unify_115 : decode prog_9_method_12_code 115 = .ok (.iload 5, 2) := by decide +kernel
theorem d_Typing_unify_117 : decode prog_9_method_12_code 117 = .ok (.invokevirtual 116, 3) := by decide +kernel
theorem d_Typing_unify_120 : decode prog_9_method_12_code 120 = .ok (.goto 104, 3) := by decide +kernel
theorem d_Typing_unify_123 : decode prog_9_method_12_code 123 = .ok (.aload_n 0, 1) := by decide +kernel
theorem d_Typing_unify_124 : decode prog_9_method_12_code 124 = .ok (.iload 5, 2) := by decide +kernel
theorem d_Typing_unify_126 : decode prog_9_method_12_code 126 = .ok (.invokevirtual 119, 3) := by decide +kernel
theorem d_Typing_unify_129 : decode prog_9_method_12_code 129 = .ok (.ifCond .eq 90, 3) := by decide +kernel
theorem d_Typing_unify_132 : decode prog_9_method_12_code 132 = .ok (.aload_n 0, 1) := by decide +kernel
theorem d_Typing_unify_133 : decode prog_9_method_12_code 133 = .ok (.iload 4, 2) := by decide +kernel
theorem d_Typing_unify_135 : decode prog_9_method_12_code 135 = .ok (.invokevirtual 119, 3) := by decide +kernel
theorem d_Typing_unify_138 : decode prog_9_method_12_code 138 = .ok (.ifCond .eq 81, 3) := by decide +kernel
theorem d_Typing_unify_141 : decode prog_9_method_12_code 141 = .ok (.aload_n 0, 1) := by decide +kernel
theorem d_Typing_unify_142 : decode prog_9_method_12_code 142 = .ok (.getfield 14, 3) := by decide +kernel
theorem d_Typing_unify_145 : decode prog_9_method_12_code 145 = .ok (.iload 5, 2) := by decide +kernel
theorem d_Typing_unify_147 : decode prog_9_method_12_code 147 = .ok (.iload 4, 2) := by decide +kernel
theorem d_Typing_unify_149 : decode prog_9_method_12_code 149 = .ok (.invokevirtual 116, 3) := by decide +kernel
theorem d_Typing_unify_152 : decode prog_9_method_12_code 152 = .ok (.aload_n 0, 1) := by decide +kernel
theorem d_Typing_unify_153 : decode prog_9_method_12_code 153 = .ok (.getfield 38, 3) := by decide +kernel
theorem d_Typing_unify_156 : decode prog_9_method_12_code 156 = .ok (.aload_n 0, 1) := by decide +kernel
theorem d_Typing_unify_157 : decode prog_9_method_12_code 157 = .ok (.getfield 20, 3) := by decide +kernel
theorem d_Typing_unify_160 : decode prog_9_method_12_code 160 = .ok (.iload 5, 2) := by decide +kernel
theorem d_Typing_unify_162 : decode prog_9_method_12_code 162 = .ok (.invokevirtual 66, 3) := by decide +kernel
theorem d_Typing_unify_165 : decode prog_9_method_12_code 165 = .ok (.invokevirtual 59, 3) := by decide +kernel
theorem d_Typing_unify_168 : decode prog_9_method_12_code 168 = .ok (.aload_n 0, 1) := by decide +kernel
theorem d_Typing_unify_169 : decode prog_9_method_12_code 169 = .ok (.getfield 38, 3) := by decide +kernel
theorem d_Typing_unify_172 : decode prog_9_method_12_code 172 = .ok (.aload_n 0, 1) := by decide +kernel
theorem d_Typing_unify_173 : decode prog_9_method_12_code 173 = .ok (.getfield 20, 3) := by decide +kernel
theorem d_Typing_unify_176 : decode prog_9_method_12_code 176 = .ok (.iload 4, 2) := by decide +kernel
theorem d_Typing_unify_178 : decode prog_9_method_12_code 178 = .ok (.invokevirtual 66, 3) := by decide +kernel
theorem d_Typing_unify_181 : decode prog_9_method_12_code 181 = .ok (.invokevirtual 59, 3) := by decide +kernel
theorem d_Typing_unify_184 : decode prog_9_method_12_code 184 = .ok (.aload_n 0, 1) := by decide +kernel
theorem d_Typing_unify_185 : decode prog_9_method_12_code 185 = .ok (.getfield 38, 3) := by decide +kernel
theorem d_Typing_unify_188 : decode prog_9_method_12_code 188 = .ok (.aload_n 0, 1) := by decide +kernel
theorem d_Typing_unify_189 : decode prog_9_method_12_code 189 = .ok (.getfield 23, 3) := by decide +kernel
theorem d_Typing_unify_192 : decode prog_9_method_12_code 192 = .ok (.iload 5, 2) := by decide +kernel
theorem d_Typing_unify_194 : decode prog_9_method_12_code 194 = .ok (.invokevirtual 66, 3) := by decide +kernel
theorem d_Typing_unify_197 : decode prog_9_method_12_code 197 = .ok (.invokevirtual 59, 3) := by decide +kernel
theorem d_Typing_unify_200 : decode prog_9_method_12_code 200 = .ok (.aload_n 0, 1) := by decide +kernel
theorem d_Typing_unify_201 : decode prog_9_method_12_code 201 = .ok (.getfield 38, 3) := by decide +kernel
theorem d_Typing_unify_204 : decode prog_9_method_12_code 204 = .ok (.aload_n 0, 1) := by decide +kernel
theorem d_Typing_unify_205 : decode prog_9_method_12_code 205 = .ok (.getfield 23, 3) := by decide +kernel
theorem d_Typing_unify_208 : decode prog_9_method_12_code 208 = .ok (.iload 4, 2) := by decide +kernel
theorem d_Typing_unify_210 : decode prog_9_method_12_code 210 = .ok (.invokevirtual 66, 3) := by decide +kernel
theorem d_Typing_unify_213 : decode prog_9_method_12_code 213 = .ok (.invokevirtual 59, 3) := by decide +kernel
theorem d_Typing_unify_216 : decode prog_9_method_12_code 216 = .ok (.goto 8, 3) := by decide +kernel
theorem d_Typing_unify_219 : decode prog_9_method_12_code 219 = .ok (.aload_n 0, 1) := by decide +kernel
theorem d_Typing_unify_220 : decode prog_9_method_12_code 220 = .ok (.iconst 1, 1) := by decide +kernel
theorem d_Typing_unify_221 : decode prog_9_method_12_code 221 = .ok (.putfield 41, 3) := by decide +kernel
theorem d_Typing_unify_224 : decode prog_9_method_12_code 224 = .ok (.iinc 3 1, 3) := by decide +kernel
theorem d_Typing_unify_227 : decode prog_9_method_12_code 227 = .ok (.goto (-202), 3) := by decide +kernel
theorem d_Typing_unify_230 : decode prog_9_method_12_code 230 = .ok (.return_, 1) := by decide +kernel
def fm_Typing_unify_j219 (o : Nat) (a1 : Int) (a2 : Int) (k25 : Int → fa_W → Option fa_W) (x3 : Int) (w : fa_W) : Option fa_W :=
  fa_let (fa_st w o 8 (fa_bi true)) fun w27 =>
  fa_let (x3 + 1) fun x3_28 =>
  k25 x3_28 w27
set_option maxHeartbeats 4000000 in
set_option maxRecDepth 100000 in
theorem c_Typing_unify_j219 {p : Program} {l : Launch} {e : Env} {s : State} {m : MethodId} {args : Array Value} {below : List Frame} {meth : Method} {c : Code} {hh : Nat} {D : va_G} {b : Nat} {aC : Nat → ClassId} {H0 : Heap} {N T : Nat} (X : fa_GX p s m args meth c prog_9_method_12_code 6 ((Option.none : Option Jvm.ClassFile.FieldType)) y_Typing_unify.cls D b aC) (hle : 2 ≤ hh) (hN : fa_NX ≤ N) (hT : fa_TX ≤ T) (o : Nat) (a1 : Int) (a2 : Int) (ho : (fa_sh o).1 = 8) {r : fa_W} (k25 : Int → fa_W → Option fa_W) (K25 : ∀ (x3 : Int) (w : fa_W), k25 x3 w = some r → fa_GJ p l e (fa_rm hh) s m args below meth c 0 0 (MQ below (fa_Qc D b aC H0 N T (none) r) args s 0 0 (fun q => b ≤ q)) D b aC H0 N T 6 w 25 [(0, .ref (b + o)), (3, .int (fa_I x3))] []) : ∀ (x3 : Int) (w : fa_W) (_ : fm_Typing_unify_j219 o a1 a2 k25 x3 w = some r), fa_GJ p l e (fa_rm hh) s m args below meth c 0 0 (MQ below (fa_Qc D b aC H0 N T (none) r) args s 0 0 (fun q => b ≤ q)) D b aC H0 N T 6 w 219 [(0, .ref (b + o)), (3, .int (fa_I x3))] [] := by
  intro x3 w hM
  unfold fm_Typing_unify_j219 at hM
  refine g_aload_n X 0 rfl d_Typing_unify_219 ?_
  refine g_iconst X d_Typing_unify_220 ?_
  refine g_put X ck_8 ho (fa_xn ho (by decide) hN) 8 (z := (fa_bi true)) (by decide) wd_304 rfl (fa_fvB' rfl) rfl (fa_nb true).1 (fa_nb true).2 d_Typing_unify_221 (fun w27 ew27 => ?_)
  have hM := fa_let_to hM ew27
  refine g_iinc X 1 (fun x3_28 => [(3, .int (fa_I x3_28)), (0, .ref (b + o))]) d_Typing_unify_224 rfl (by decide) (fun _ => rfl) (fun x3_28 ex3_28 => ?_)
  have hM := fa_let_to hM ex3_28
  refine g_goto X 25 d_Typing_unify_227 (by decide) ?_
  exact g_lv [1, 0] rfl (K25 _ _ hM)
def fm_Typing_unify_l25 (o : Nat) (a1 : Int) (a2 : Int) : Nat → Int → fa_W → Option fa_W
  | 0, _, _ => none
  | n + 1, x3, w => if 1000000 ≤ fa_wr x3 then
  some w
  else
  (if fa_wr (fm_Row_size (fa_rf o 7) w) ≤ 0 then
  some w
  else
  (fa_l2 (fr_drop (fa_rf o 7) w) fun v11 w12 =>
  (fm_Typing_root o v11 w12).bind fun v14 =>
  fa_l2 (fr_drop (fa_rf o 7) w12) fun v16 w17 =>
  (fm_Typing_root o v16 w17).bind fun v19 =>
  if fa_wr v19 = fa_wr v14 then
  (fa_let (x3 + 1) fun x3_52 =>
  fm_Typing_unify_l25 o a1 a2 n x3_52 w17)
  else
  (if fm_Typing_isOpen o v19 w17 = true then
  (fa_let (fr_set (fa_rf o 0) v19 v14 w17) fun w50 =>
  fa_let (x3 + 1) fun x3_51 =>
  fm_Typing_unify_l25 o a1 a2 n x3_51 w50)
  else
  (if fm_Typing_isOpen o v14 w17 = true then
  (fa_let (fr_set (fa_rf o 0) v14 v19 w17) fun w47 =>
  fa_let (x3 + 1) fun x3_48 =>
  fm_Typing_unify_l25 o a1 a2 n x3_48 w47)
  else
  (if fm_Typing_isArrow o v19 w17 = true then
  (if fm_Typing_isArrow o v14 w17 = true then
  (fa_let (fr_set (fa_rf o 0) v19 v14 w17) fun w32 =>
  fa_let (fr_add (fa_rf o 7) (fr_at (fa_rf o 1) v19 w32) w32) fun w35 =>
  fa_let (fr_add (fa_rf o 7) (fr_at (fa_rf o 1) v14 w35) w35) fun w38 =>
  fa_let (fr_add (fa_rf o 7) (fr_at (fa_rf o 2) v19 w38) w38) fun w41 =>
  fa_let (fr_add (fa_rf o 7) (fr_at (fa_rf o 2) v14 w41) w41) fun w44 =>
  fa_let (x3 + 1) fun x3_45 =>
  fm_Typing_unify_l25 o a1 a2 n x3_45 w44)
  else
  fm_Typing_unify_j219 o a1 a2 (fun x3 w9 => fm_Typing_unify_l25 o a1 a2 n x3 w9) x3 w17)
  else
  fm_Typing_unify_j219 o a1 a2 (fun x3 w9 => fm_Typing_unify_l25 o a1 a2 n x3 w9) x3 w17)))))
set_option maxHeartbeats 4000000 in
set_option maxRecDepth 100000 in
theorem c_Typing_unify_l25 {p : Program} {l : Launch} {e : Env} {s : State} {m : MethodId} {args : Array Value} {below : List Frame} {meth : Method} {c : Code} {hh : Nat} {D : va_G} {b : Nat} {aC : Nat → ClassId} {H0 : Heap} {N T : Nat} (X : fa_GX p s m args meth c prog_9_method_12_code 6 ((Option.none : Option Jvm.ClassFile.FieldType)) y_Typing_unify.cls D b aC) (hle : 2 ≤ hh) (hN : fa_NX ≤ N) (hT : fa_TX ≤ T) (o : Nat) (a1 : Int) (a2 : Int) (ho : (fa_sh o).1 = 8) {r : fa_W}  : ∀ (n : Nat) (x3 : Int) (w : fa_W), fm_Typing_unify_l25 o a1 a2 n x3 w = some r → fa_GJ p l e (fa_rm hh) s m args below meth c 0 0 (MQ below (fa_Qc D b aC H0 N T (none) r) args s 0 0 (fun q => b ≤ q)) D b aC H0 N T 6 w 25 [(0, .ref (b + o)), (3, .int (fa_I x3))] [] := by
  intro n
  induction n with
  | zero => intro x3 w hM; exact fa_no hM
  | succ n ih =>
    intro x3 w hM
    rw [fm_Typing_unify_l25] at hM
    refine g_iload_n X 1 rfl d_Typing_unify_25 ?_
    refine g_ldc X (n := 1000000) wd_483 (by decide) d_Typing_unify_26 ?_
    refine g_icmp_ge X 230 d_Typing_unify_28 (by decide) (fun hc7 => ?_) (fun hc7 => ?_)
    · have hM := fa_if_t hM hc7
      cases hM
      exact g_vret X d_Typing_unify_230
    · have hM := fa_if_f hM hc7
      refine g_aload_n X 0 rfl d_Typing_unify_31 ?_
      refine g_get X ck_8 ho (fa_xn ho (by decide) hN) 7 (by decide) wd_303 rfl (fa_fvR rfl (fa_xt ho (by decide) hT 7)) d_Typing_unify_32 ?_
      refine g_callV_i X ck_6 (fa_r8_7 _ ho) (fa_xn (fa_r8_7 _ ho) (by decide) hN) rfl mi_Row_size (c_Row_size (fa_rf o 7) (fa_ro (fa_r8_7 _ ho) hN hT) w _ rfl) wd_456 rfl (Nat.le_trans (Nat.le_of_ble_eq_true rfl) hle) (st := []) (Nat.le_of_ble_eq_true rfl) rfl d_Typing_unify_35 ?_
      refine g_if_le X 230 d_Typing_unify_38 (by decide) (fun hc9 => ?_) (fun hc9 => ?_)
      · have hM := fa_if_t hM hc9
        cases hM
        exact g_vret X d_Typing_unify_230
      · have hM := fa_if_f hM hc9
        refine g_aload_n X 0 rfl d_Typing_unify_41 ?_
        refine g_aload_n X 0 rfl d_Typing_unify_42 ?_
        refine g_get X ck_8 ho (fa_xn ho (by decide) hN) 7 (by decide) wd_303 rfl (fa_fvR rfl (fa_xt ho (by decide) hT 7)) d_Typing_unify_43 ?_
        obtain ⟨⟨v11, w12⟩, e10⟩ : ∃ q, fr_drop (fa_rf o 7) w = q := ⟨_, rfl⟩
        have hM := fa_l2_e hM e10
        refine g_callV_i X ck_6 (fa_r8_7 _ ho) (fa_xn (fa_r8_7 _ ho) (by decide) hN) rfl mi_Row_drop (ct_Row_drop (fa_rf o 7) (fa_ro (fa_r8_7 _ ho) hN hT) w _ e10) wd_484 rfl (Nat.le_trans (Nat.le_of_ble_eq_true rfl) hle) (st := [.ref (b + o)]) (Nat.le_of_ble_eq_true rfl) rfl d_Typing_unify_46 ?_
        obtain ⟨v14, e13, hM⟩ := fa_ob hM
        refine g_callV_i X ck_8 ho (fa_xn ho (by decide) hN) rfl mi_Typing_root (c_Typing_root hN hT o v11 ho w12 _ e13) wd_493 rfl (Nat.le_trans (Nat.le_of_ble_eq_true rfl) hle) (st := []) (Nat.le_of_ble_eq_true rfl) rfl d_Typing_unify_49 ?_
        refine g_istorec X [(4, .int (fa_I v14)), (0, .ref (b + o)), (3, .int (fa_I x3))] d_Typing_unify_52 (by decide) rfl ?_
        refine g_aload_n X 1 rfl d_Typing_unify_54 ?_
        refine g_aload_n X 1 rfl d_Typing_unify_55 ?_
        refine g_get X ck_8 ho (fa_xn ho (by decide) hN) 7 (by decide) wd_303 rfl (fa_fvR rfl (fa_xt ho (by decide) hT 7)) d_Typing_unify_56 ?_
        obtain ⟨⟨v16, w17⟩, e15⟩ : ∃ q, fr_drop (fa_rf o 7) w12 = q := ⟨_, rfl⟩
        have hM := fa_l2_e hM e15
        refine g_callV_i X ck_6 (fa_r8_7 _ ho) (fa_xn (fa_r8_7 _ ho) (by decide) hN) rfl mi_Row_drop (ct_Row_drop (fa_rf o 7) (fa_ro (fa_r8_7 _ ho) hN hT) w12 _ e15) wd_484 rfl (Nat.le_trans (Nat.le_of_ble_eq_true rfl) hle) (st := [.ref (b + o)]) (Nat.le_of_ble_eq_true rfl) rfl d_Typing_unify_59 ?_
        obtain ⟨v19, e18, hM⟩ := fa_ob hM
        refine g_callV_i X ck_8 ho (fa_xn ho (by decide) hN) rfl mi_Typing_root (c_Typing_root hN hT o v16 ho w17 _ e18) wd_493 rfl (Nat.le_trans (Nat.le_of_ble_eq_true rfl) hle) (st := []) (Nat.le_of_ble_eq_true rfl) rfl d_Typing_unify_62 ?_
        refine g_istorec X [(5, .int (fa_I v19)), (4, .int (fa_I v14)), (0, .ref (b + o)), (3, .int (fa_I x3))] d_Typing_unify_65 (by decide) rfl ?_
        refine g_iload X 0 rfl d_Typing_unify_67 ?_
        refine g_iload X 1 rfl d_Typing_unify_69 ?_
        refine g_icmp_ne X 77 d_Typing_unify_71 (by decide) (fun hc20 => ?_) (fun hc20 => ?_)
        · have hM := fa_if_f hM hc20
          refine g_aload_n X 2 rfl d_Typing_unify_77 ?_
          refine g_iload X 0 rfl d_Typing_unify_78 ?_
          refine g_callV_i X ck_8 ho (fa_xn ho (by decide) hN) rfl mi_Typing_isOpen (c_Typing_isOpen hN hT o v19 ho w17 _ rfl) wd_497 rfl (Nat.le_trans (Nat.le_of_ble_eq_true rfl) hle) (st := []) (Nat.le_of_ble_eq_true rfl) rfl d_Typing_unify_80 ?_
          refine g_ifb_eq X 100 d_Typing_unify_83 (by decide) (fun hc22 => ?_) (fun hc22 => ?_)
          · have hM := fa_ifb_f hM hc22
            refine g_aload_n X 2 rfl d_Typing_unify_100 ?_
            refine g_iload X 1 rfl d_Typing_unify_101 ?_
            refine g_callV_i X ck_8 ho (fa_xn ho (by decide) hN) rfl mi_Typing_isOpen (c_Typing_isOpen hN hT o v14 ho w17 _ rfl) wd_497 rfl (Nat.le_trans (Nat.le_of_ble_eq_true rfl) hle) (st := []) (Nat.le_of_ble_eq_true rfl) rfl d_Typing_unify_103 ?_
            refine g_ifb_eq X 123 d_Typing_unify_106 (by decide) (fun hc24 => ?_) (fun hc24 => ?_)
            · have hM := fa_ifb_f hM hc24
              refine g_aload_n X 2 rfl d_Typing_unify_123 ?_
              refine g_iload X 0 rfl d_Typing_unify_124 ?_
              refine g_callV_i X ck_8 ho (fa_xn ho (by decide) hN) rfl mi_Typing_isArrow (c_Typing_isArrow hN hT o v19 ho w17 _ rfl) wd_502 rfl (Nat.le_trans (Nat.le_of_ble_eq_true rfl) hle) (st := []) (Nat.le_of_ble_eq_true rfl) rfl d_Typing_unify_126 ?_
              refine g_ifb_eq X 219 d_Typing_unify_129 (by decide) (fun hc26 => ?_) (fun hc26 => ?_)
              · have hM := fa_ifb_f hM hc26
                exact g_lv [2, 3] rfl (c_Typing_unify_j219 X hle hN hT o a1 a2 ho  (fun x3 w9 => fm_Typing_unify_l25 o a1 a2 n x3 w9) (fun _ _ h => ih _ _ h)  _ _ hM)
              · have hM := fa_ifb_t hM hc26
                refine g_aload_n X 2 rfl d_Typing_unify_132 ?_
                refine g_iload X 1 rfl d_Typing_unify_133 ?_
                refine g_callV_i X ck_8 ho (fa_xn ho (by decide) hN) rfl mi_Typing_isArrow (c_Typing_isArrow hN hT o v14 ho w17 _ rfl) wd_502 rfl (Nat.le_trans (Nat.le_of_ble_eq_true rfl) hle) (st := []) (Nat.le_of_ble_eq_true rfl) rfl d_Typing_unify_135 ?_
                refine g_ifb_eq X 219 d_Typing_unify_138 (by decide) (fun hc30 => ?_) (fun hc30 => ?_)
                · have hM := fa_ifb_f hM hc30
                  exact g_lv [2, 3] rfl (c_Typing_unify_j219 X hle hN hT o a1 a2 ho  (fun x3 w9 => fm_Typing_unify_l25 o a1 a2 n x3 w9) (fun _ _ h => ih _ _ h)  _ _ hM)
                · have hM := fa_ifb_t hM hc30
                  refine g_aload_n X 2 rfl d_Typing_unify_141 ?_
                  refine g_get X ck_8 ho (fa_xn ho (by decide) hN) 0 (by decide) wd_293 rfl (fa_fvR rfl (fa_xt ho (by decide) hT 0)) d_Typing_unify_142 ?_
                  refine g_iload X 0 rfl d_Typing_unify_145 ?_
                  refine g_iload X 1 rfl d_Typing_unify_147 ?_
                  obtain ⟨w32, e31⟩ : ∃ q, fr_set (fa_rf o 0) v19 v14 w17 = q := ⟨_, rfl⟩
                  have hM := fa_let_to hM e31.symm
                  refine g_callV_v X ck_6 (fa_r8_0 _ ho) (fa_xn (fa_r8_0 _ ho) (by decide) hN) rfl mi_Row_set (ct_Row_set (fa_rf o 0) v19 v14 (fa_ro (fa_r8_0 _ ho) hN hT) w17 _ e31) wd_501 rfl (Nat.le_trans (Nat.le_of_ble_eq_true rfl) hle) (st := []) (Nat.le_of_ble_eq_true rfl) rfl d_Typing_unify_149 ?_
                  refine g_aload_n X 2 rfl d_Typing_unify_152 ?_
                  refine g_get X ck_8 ho (fa_xn ho (by decide) hN) 7 (by decide) wd_303 rfl (fa_fvR rfl (fa_xt ho (by decide) hT 7)) d_Typing_unify_153 ?_
                  refine g_aload_n X 2 rfl d_Typing_unify_156 ?_
                  refine g_get X ck_8 ho (fa_xn ho (by decide) hN) 1 (by decide) wd_294 rfl (fa_fvR rfl (fa_xt ho (by decide) hT 1)) d_Typing_unify_157 ?_
                  refine g_iload X 0 rfl d_Typing_unify_160 ?_
                  refine g_callV_i X ck_6 (fa_r8_1 _ ho) (fa_xn (fa_r8_1 _ ho) (by decide) hN) rfl mi_Row_at (ct_Row_at (fa_rf o 1) v19 (fa_ro (fa_r8_1 _ ho) hN hT) w32 _ rfl) wd_458 rfl (Nat.le_trans (Nat.le_of_ble_eq_true rfl) hle) (st := [.ref (b + (fa_rf o 7))]) (Nat.le_of_ble_eq_true rfl) rfl d_Typing_unify_162 ?_
                  obtain ⟨w35, e34⟩ : ∃ q, fr_add (fa_rf o 7) (fr_at (fa_rf o 1) v19 w32) w32 = q := ⟨_, rfl⟩
                  have hM := fa_let_to hM e34.symm
                  refine g_callV_v X ck_6 (fa_r8_7 _ ho) (fa_xn (fa_r8_7 _ ho) (by decide) hN) rfl mi_Row_add (ct_Row_add (fa_rf o 7) (fr_at (fa_rf o 1) v19 w32) (fa_ro (fa_r8_7 _ ho) hN hT) w32 _ e34) wd_457 rfl (Nat.le_trans (Nat.le_of_ble_eq_true rfl) hle) (st := []) (Nat.le_of_ble_eq_true rfl) rfl d_Typing_unify_165 ?_
                  refine g_aload_n X 2 rfl d_Typing_unify_168 ?_
                  refine g_get X ck_8 ho (fa_xn ho (by decide) hN) 7 (by decide) wd_303 rfl (fa_fvR rfl (fa_xt ho (by decide) hT 7)) d_Typing_unify_169 ?_
                  refine g_aload_n X 2 rfl d_Typing_unify_172 ?_
                  refine g_get X ck_8 ho (fa_xn ho (by decide) hN) 1 (by decide) wd_294 rfl (fa_fvR rfl (fa_xt ho (by decide) hT 1)) d_Typing_unify_173 ?_
                  refine g_iload X 1 rfl d_Typing_unify_176 ?_
                  refine g_callV_i X ck_6 (fa_r8_1 _ ho) (fa_xn (fa_r8_1 _ ho) (by decide) hN) rfl mi_Row_at (ct_Row_at (fa_rf o 1) v14 (fa_ro (fa_r8_1 _ ho) hN hT) w35 _ rfl) wd_458 rfl (Nat.le_trans (Nat.le_of_ble_eq_true rfl) hle) (st := [.ref (b + (fa_rf o 7))]) (Nat.le_of_ble_eq_true rfl) rfl d_Typing_unify_178 ?_
                  obtain ⟨w38, e37⟩ : ∃ q, fr_add (fa_rf o 7) (fr_at (fa_rf o 1) v14 w35) w35 = q := ⟨_, rfl⟩
                  have hM := fa_let_to hM e37.symm
                  refine g_callV_v X ck_6 (fa_r8_7 _ ho) (fa_xn (fa_r8_7 _ ho) (by decide) hN) rfl mi_Row_add (ct_Row_add (fa_rf o 7) (fr_at (fa_rf o 1) v14 w35) (fa_ro (fa_r8_7 _ ho) hN hT) w35 _ e37) wd_457 rfl (Nat.le_trans (Nat.le_of_ble_eq_true rfl) hle) (st := []) (Nat.le_of_ble_eq_true rfl) rfl d_Typing_unify_181 ?_
                  refine g_aload_n X 2 rfl d_Typing_unify_184 ?_
                  refine g_get X ck_8 ho (fa_xn ho (by decide) hN) 7 (by decide) wd_303 rfl (fa_fvR rfl (fa_xt ho (by decide) hT 7)) d_Typing_unify_185 ?_
                  refine g_aload_n X 2 rfl d_Typing_unify_188 ?_
                  refine g_get X ck_8 ho (fa_xn ho (by decide) hN) 2 (by decide) wd_295 rfl (fa_fvR rfl (fa_xt ho (by decide) hT 2)) d_Typing_unify_189 ?_
                  refine g_iload X 0 rfl d_Typing_unify_192 ?_
                  refine g_callV_i X ck_6 (fa_r8_2 _ ho) (fa_xn (fa_r8_2 _ ho) (by decide) hN) rfl mi_Row_at (ct_Row_at (fa_rf o 2) v19 (fa_ro (fa_r8_2 _ ho) hN hT) w38 _ rfl) wd_458 rfl (Nat.le_trans (Nat.le_of_ble_eq_true rfl) hle) (st := [.ref (b + (fa_rf o 7))]) (Nat.le_of_ble_eq_true rfl) rfl d_Typing_unify_194 ?_
                  obtain ⟨w41, e40⟩ : ∃ q, fr_add (fa_rf o 7) (fr_at (fa_rf o 2) v19 w38) w38 = q := ⟨_, rfl⟩
                  have hM := fa_let_to hM e40.symm
                  refine g_callV_v X ck_6 (fa_r8_7 _ ho) (fa_xn (fa_r8_7 _ ho) (by decide) hN) rfl mi_Row_add (ct_Row_add (fa_rf o 7) (fr_at (fa_rf o 2) v19 w38) (fa_ro (fa_r8_7 _ ho) hN hT) w38 _ e40) wd_457 rfl (Nat.le_trans (Nat.le_of_ble_eq_true rfl) hle) (st := []) (Nat.le_of_ble_eq_true rfl) rfl d_Typing_unify_197 ?_
                  refine g_aload_n X 2 rfl d_Typing_unify_200 ?_
                  refine g_get X ck_8 ho (fa_xn ho (by decide) hN) 7 (by decide) wd_303 rfl (fa_fvR rfl (fa_xt ho (by decide) hT 7)) d_Typing_unify_201 ?_
                  refine g_aload_n X 2 rfl d_Typing_unify_204 ?_
                  refine g_get X ck_8 ho (fa_xn ho (by decide) hN) 2 (by decide) wd_295 rfl (fa_fvR rfl (fa_xt ho (by decide) hT 2)) d_Typing_unify_205 ?_
                  refine g_iload X 1 rfl d_Typing_unify_208 ?_
                  refine g_callV_i X ck_6 (fa_r8_2 _ ho) (fa_xn (fa_r8_2 _ ho) (by decide) hN) rfl mi_Row_at (ct_Row_at (fa_rf o 2) v14 (fa_ro (fa_r8_2 _ ho) hN hT) w41 _ rfl) wd_458 rfl (Nat.le_trans (Nat.le_of_ble_eq_true rfl) hle) (st := [.ref (b + (fa_rf o 7))]) (Nat.le_of_ble_eq_true rfl) rfl d_Typing_unify_210 ?_
                  obtain ⟨w44, e43⟩ : ∃ q, fr_add (fa_rf o 7) (fr_at (fa_rf o 2) v14 w41) w41 = q := ⟨_, rfl⟩
                  have hM := fa_let_to hM e43.symm
                  refine g_callV_v X ck_6 (fa_r8_7 _ ho) (fa_xn (fa_r8_7 _ ho) (by decide) hN) rfl mi_Row_add (ct_Row_add (fa_rf o 7) (fr_at (fa_rf o 2) v14 w41) (fa_ro (fa_r8_7 _ ho) hN hT) w41 _ e43) wd_457 rfl (Nat.le_trans (Nat.le_of_ble_eq_true rfl) hle) (st := []) (Nat.le_of_ble_eq_true rfl) rfl d_Typing_unify_213 ?_
                  refine g_goto X 224 d_Typing_unify_216 (by decide) ?_
                  refine g_iinc X 3 (fun x3_45 => [(3, .int (fa_I x3_45)), (5, .int (fa_I v19)), (4, .int (fa_I v14)), (0, .ref (b + o))]) d_Typing_unify_224 rfl (by decide) (fun _ => rfl) (fun x3_45 ex3_45 => ?_)
                  have hM := fa_let_to hM ex3_45
                  refine g_goto X 25 d_Typing_unify_227 (by decide) ?_
                  exact g_lv [3, 0] rfl (ih _ _ hM)
            · have hM := fa_ifb_t hM hc24
              refine g_aload_n X 2 rfl d_Typing_unify_109 ?_
              refine g_get X ck_8 ho (fa_xn ho (by decide) hN) 0 (by decide) wd_293 rfl (fa_fvR rfl (fa_xt ho (by decide) hT 0)) d_Typing_unify_110 ?_
              refine g_iload X 1 rfl d_Typing_unify_113 ?_
              refine g_iload X 0 rfl d_Typing_unify_115 ?_
              obtain ⟨w47, e46⟩ : ∃ q, fr_set (fa_rf o 0) v14 v19 w17 = q := ⟨_, rfl⟩
              have hM := fa_let_to hM e46.symm
              refine g_callV_v X ck_6 (fa_r8_0 _ ho) (fa_xn (fa_r8_0 _ ho) (by decide) hN) rfl mi_Row_set (ct_Row_set (fa_rf o 0) v14 v19 (fa_ro (fa_r8_0 _ ho) hN hT) w17 _ e46) wd_501 rfl (Nat.le_trans (Nat.le_of_ble_eq_true rfl) hle) (st := []) (Nat.le_of_ble_eq_true rfl) rfl d_Typing_unify_117 ?_
              refine g_goto X 224 d_Typing_unify_120 (by decide) ?_
              refine g_iinc X 3 (fun x3_48 => [(3, .int (fa_I x3_48)), (5, .int (fa_I v19)), (4, .int (fa_I v14)), (0, .ref (b + o))]) d_Typing_unify_224 rfl (by decide) (fun _ => rfl) (fun x3_48 ex3_48 => ?_)
              have hM := fa_let_to hM ex3_48
              refine g_goto X 25 d_Typing_unify_227 (by decide) ?_
              exact g_lv [3, 0] rfl (ih _ _ hM)
          · have hM := fa_ifb_t hM hc22
            refine g_aload_n X 2 rfl d_Typing_unify_86 ?_
            refine g_get X ck_8 ho (fa_xn ho (by decide) hN) 0 (by decide) wd_293 rfl (fa_fvR rfl (fa_xt ho (by decide) hT 0)) d_Typing_unify_87 ?_
            refine g_iload X 0 rfl d_Typing_unify_90 ?_
            refine g_iload X 1 rfl d_Typing_unify_92 ?_
            obtain ⟨w50, e49⟩ : ∃ q, fr_set (fa_rf o 0) v19 v14 w17 = q := ⟨_, rfl⟩
            have hM := fa_let_to hM e49.symm
            refine g_callV_v X ck_6 (fa_r8_0 _ ho) (fa_xn (fa_r8_0 _ ho) (by decide) hN) rfl mi_Row_set (ct_Row_set (fa_rf o 0) v19 v14 (fa_ro (fa_r8_0 _ ho) hN hT) w17 _ e49) wd_501 rfl (Nat.le_trans (Nat.le_of_ble_eq_true rfl) hle) (st := []) (Nat.le_of_ble_eq_true rfl) rfl d_Typing_unify_94 ?_
            refine g_goto X 224 d_Typing_unify_97 (by decide) ?_
            refine g_iinc X 3 (fun x3_51 => [(3, .int (fa_I x3_51)), (5, .int (fa_I v19)), (4, .int (fa_I v14)), (0, .ref (b + o))]) d_Typing_unify_224 rfl (by decide) (fun _ => rfl) (fun x3_51 ex3_51 => ?_)
            have hM := fa_let_to hM ex3_51
            refine g_goto X 25 d_Typing_unify_227 (by decide) ?_
            exact g_lv [3, 0] rfl (ih _ _ hM)
        · have hM := fa_if_t hM hc20
          refine g_goto X 224 d_Typing_unify_74 (by decide) ?_
          refine g_iinc X 3 (fun x3_52 => [(3, .int (fa_I x3_52)), (5, .int (fa_I v19)), (4, .int (fa_I v14)), (0, .ref (b + o))]) d_Typing_unify_224 rfl (by decide) (fun _ => rfl) (fun x3_52 ex3_52 => ?_)
          have hM := fa_let_to hM ex3_52
          refine g_goto X 25 d_Typing_unify_227 (by decide) ?_
          exact g_lv [3, 0] rfl (ih _ _ hM)
def fm_Typing_unify (o : Nat) (a1 : Int) (a2 : Int) (w : fa_W) : Option fa_W :=
  fa_let (fm_Row_clear (fa_rf o 7) w) fun w2 =>
  fa_let (fr_add (fa_rf o 7) a1 w2) fun w4 =>
  fa_let (fr_add (fa_rf o 7) a2 w4) fun w6 =>
  fm_Typing_unify_l25 o a1 a2 fa_FU 0 w6
set_option maxHeartbeats 4000000 in
set_option maxRecDepth 100000 in
theorem c_Typing_unify {l : Launch} {D : va_G} {b : Nat} {aC : Nat → ClassId} {H0 : Heap} {N T : Nat} (hN : fa_NX ≤ N) (hT : fa_TX ≤ T) (o : Nat) (a1 : Int) (a2 : Int) (ho : (fa_sh o).1 = 8)  (w : fa_W) (r : fa_W) (hM : fm_Typing_unify o a1 a2 w = some r) : fa_MC l D b aC H0 N T y_Typing_unify prog_9_method_12_code 6 ((Option.none : Option Jvm.ClassFile.FieldType)) (2) [.ref (b + o), .int (fa_I a1), .int (fa_I a2)] w (none) r := by
  refine fa_enter (lv := [(0, .ref (b + o)), (1, .int (fa_I a1)), (2, .int (fa_I a2))]) (by decide +kernel) (Nat.le_of_ble_eq_true rfl) rfl (fun hh hle hnm X => ?_)
  unfold fm_Typing_unify at hM
  refine g_aload_n X 0 rfl d_Typing_unify_0 ?_
  refine g_get X ck_8 ho (fa_xn ho (by decide) hN) 7 (by decide) wd_303 rfl (fa_fvR rfl (fa_xt ho (by decide) hT 7)) d_Typing_unify_1 ?_
  obtain ⟨w2, e1⟩ : ∃ q, fm_Row_clear (fa_rf o 7) w = q := ⟨_, rfl⟩
  have hM := fa_let_to hM e1.symm
  refine g_callV_v X ck_6 (fa_r8_7 _ ho) (fa_xn (fa_r8_7 _ ho) (by decide) hN) rfl mi_Row_clear (c_Row_clear (fa_rf o 7) (fa_ro (fa_r8_7 _ ho) hN hT) w _ e1) wd_447 rfl (Nat.le_trans (Nat.le_of_ble_eq_true rfl) hle) (st := []) (Nat.le_of_ble_eq_true rfl) rfl d_Typing_unify_4 ?_
  refine g_aload_n X 0 rfl d_Typing_unify_7 ?_
  refine g_get X ck_8 ho (fa_xn ho (by decide) hN) 7 (by decide) wd_303 rfl (fa_fvR rfl (fa_xt ho (by decide) hT 7)) d_Typing_unify_8 ?_
  refine g_iload_n X 1 rfl d_Typing_unify_11 ?_
  obtain ⟨w4, e3⟩ : ∃ q, fr_add (fa_rf o 7) a1 w2 = q := ⟨_, rfl⟩
  have hM := fa_let_to hM e3.symm
  refine g_callV_v X ck_6 (fa_r8_7 _ ho) (fa_xn (fa_r8_7 _ ho) (by decide) hN) rfl mi_Row_add (ct_Row_add (fa_rf o 7) a1 (fa_ro (fa_r8_7 _ ho) hN hT) w2 _ e3) wd_457 rfl (Nat.le_trans (Nat.le_of_ble_eq_true rfl) hle) (st := []) (Nat.le_of_ble_eq_true rfl) rfl d_Typing_unify_12 ?_
  refine g_aload_n X 0 rfl d_Typing_unify_15 ?_
  refine g_get X ck_8 ho (fa_xn ho (by decide) hN) 7 (by decide) wd_303 rfl (fa_fvR rfl (fa_xt ho (by decide) hT 7)) d_Typing_unify_16 ?_
  refine g_iload_n X 2 rfl d_Typing_unify_19 ?_
  obtain ⟨w6, e5⟩ : ∃ q, fr_add (fa_rf o 7) a2 w4 = q := ⟨_, rfl⟩
  have hM := fa_let_to hM e5.symm
  refine g_callV_v X ck_6 (fa_r8_7 _ ho) (fa_xn (fa_r8_7 _ ho) (by decide) hN) rfl mi_Row_add (ct_Row_add (fa_rf o 7) a2 (fa_ro (fa_r8_7 _ ho) hN hT) w4 _ e5) wd_457 rfl (Nat.le_trans (Nat.le_of_ble_eq_true rfl) hle) (st := []) (Nat.le_of_ble_eq_true rfl) rfl d_Typing_unify_20 ?_
  refine g_iconst X d_Typing_unify_23 ?_
  refine g_istorec_n X [(3, .int (fa_I 0)), (0, .ref (b + o)), (1, .int (fa_I a1)), (2, .int (fa_I a2))] d_Typing_unify_24 (by decide) rfl ?_
  exact g_lv [1, 0] rfl (c_Typing_unify_l25 X hle hN hT o a1 a2 ho   fa_FU _ _ hM)
theorem d_Typing_typed_0 : decode prog_9_method_6_code 0 = .ok (.aload_n 0, 1) := by decide +kernel
theorem d_Typing_typed_1 : decode prog_9_method_6_code 1 = .ok (.getfield 29, 3) := by decide +kernel
theorem d_Typing_typed_4 : decode prog_9_method_6_code 4 = .ok (.aload_n 1, 1) := by decide +kernel
theorem d_Typing_typed_5 : decode prog_9_method_6_code 5 = .ok (.iload_n 2, 1) := by decide +kernel
theorem d_Typing_typed_6 : decode prog_9_method_6_code 6 = .ok (.iconst 0, 1) := by decide +kernel
theorem d_Typing_typed_7 : decode prog_9_method_6_code 7 = .ok (.invokevirtual 96, 3) := by decide +kernel
theorem d_Typing_typed_10 : decode prog_9_method_6_code 10 = .ok (.invokevirtual 66, 3) := by decide +kernel
theorem d_Typing_typed_13 : decode prog_9_method_6_code 13 = .ok (.istore_n 3, 1) := by decide +kernel
theorem d_Typing_typed_14 : decode prog_9_method_6_code 14 = .ok (.aload_n 0, 1) := by decide +kernel
theorem d_Typing_typed_15 : decode prog_9_method_6_code 15 = .ok (.getfield 29, 3) := by decide +kernel
theorem d_Typing_typed_18 : decode prog_9_method_6_code 18 = .ok (.aload_n 1, 1) := by decide +kernel
theorem d_Typing_typed_19 : decode prog_9_method_6_code 19 = .ok (.iload_n 2, 1) := by decide +kernel
theorem d_Typing_typed_20 : decode prog_9_method_6_code 20 = .ok (.iconst 1, 1) := by decide +kernel
theorem d_Typing_typed_21 : decode prog_9_method_6_code 21 = .ok (.invokevirtual 96, 3) := by decide +kernel
theorem d_Typing_typed_24 : decode prog_9_method_6_code 24 = .ok (.invokevirtual 66, 3) := by decide +kernel
theorem d_Typing_typed_27 : decode prog_9_method_6_code 27 = .ok (.istore 4, 2) := by decide +kernel
theorem d_Typing_typed_29 : decode prog_9_method_6_code 29 = .ok (.aload_n 1, 1) := by decide +kernel
theorem d_Typing_typed_30 : decode prog_9_method_6_code 30 = .ok (.iload_n 2, 1) := by decide +kernel
theorem d_Typing_typed_31 : decode prog_9_method_6_code 31 = .ok (.invokevirtual 99, 3) := by decide +kernel
theorem d_Typing_typed_34 : decode prog_9_method_6_code 34 = .ok (.tableswitch 193 2 9 #[46, 59, 72, 77, 108, 136, 156, 171], 46) := by decide +kernel
theorem d_Typing_typed_80 : decode prog_9_method_6_code 80 = .ok (.aload_n 0, 1) := by decide +kernel
theorem d_Typing_typed_81 : decode prog_9_method_6_code 81 = .ok (.getfield 32, 3) := by decide +kernel
theorem d_Typing_typed_84 : decode prog_9_method_6_code 84 = .ok (.aload_n 1, 1) := by decide +kernel
theorem d_Typing_typed_85 : decode prog_9_method_6_code 85 = .ok (.iload_n 2, 1) := by decide +kernel
theorem d_Typing_typed_86 : decode prog_9_method_6_code 86 = .ok (.invokevirtual 102, 3) := by decide +kernel
theorem d_Typing_typed_89 : decode prog_9_method_6_code 89 = .ok (.invokevirtual 66, 3) := by decide +kernel
theorem d_Typing_typed_92 : decode prog_9_method_6_code 92 = .ok (.ireturn, 1) := by decide +kernel
theorem d_Typing_typed_93 : decode prog_9_method_6_code 93 = .ok (.aload_n 0, 1) := by decide +kernel
theorem d_Typing_typed_94 : decode prog_9_method_6_code 94 = .ok (.getfield 35, 3) := by decide +kernel
theorem d_Typing_typed_97 : decode prog_9_method_6_code 97 = .ok (.aload_n 1, 1) := by decide +kernel
theorem d_Typing_typed_98 : decode prog_9_method_6_code 98 = .ok (.iload_n 2, 1) := by decide +kernel
theorem d_Typing_typed_99 : decode prog_9_method_6_code 99 = .ok (.invokevirtual 102, 3) := by decide +kernel
theorem d_Typing_typed_102 : decode prog_9_method_6_code 102 = .ok (.invokevirtual 66, 3) := by decide +kernel
theorem d_Typing_typed_105 : decode prog_9_method_6_code 105 = .ok (.ireturn, 1) := by decide +kernel
theorem d_Typing_typed_106 : decode prog_9_method_6_code 106 = .ok (.aload_n 0, 1) := by decide +kernel
theorem d_Typing_typed_107 : decode prog_9_method_6_code 107 = .ok (.invokevirtual 83, 3) := by decide +kernel
theorem d_Typing_typed_110 : decode prog_9_method_6_code 110 = .ok (.ireturn, 1) := by decide +kernel
theorem d_Typing_typed_111 : decode prog_9_method_6_code 111 = .ok (.aload_n 0, 1) := by decide +kernel
theorem d_Typing_typed_112 : decode prog_9_method_6_code 112 = .ok (.getfield 35, 3) := by decide +kernel
theorem d_Typing_typed_115 : decode prog_9_method_6_code 115 = .ok (.aload_n 1, 1) := by decide +kernel
theorem d_Typing_typed_116 : decode prog_9_method_6_code 116 = .ok (.iload_n 2, 1) := by decide +kernel
theorem d_Typing_typed_117 : decode prog_9_method_6_code 117 = .ok (.invokevirtual 102, 3) := by decide +kernel
theorem d_Typing_typed_120 : decode prog_9_method_6_code 120 = .ok (.invokevirtual 66, 3) := by decide +kernel
theorem d_Typing_typed_123 : decode prog_9_method_6_code 123 = .ok (.istore 5, 2) := by decide +kernel
theorem d_Typing_typed_125 : decode prog_9_method_6_code 125 = .ok (.aload_n 0, 1) := by decide +kernel
theorem d_Typing_typed_126 : decode prog_9_method_6_code 126 = .ok (.aload_n 0, 1) := by decide +kernel
theorem d_Typing_typed_127 : decode prog_9_method_6_code 127 = .ok (.getfield 23, 3) := by decide +kernel
theorem d_Typing_typed_130 : decode prog_9_method_6_code 130 = .ok (.iload 5, 2) := by decide +kernel
theorem d_Typing_typed_132 : decode prog_9_method_6_code 132 = .ok (.invokevirtual 66, 3) := by decide +kernel
theorem d_Typing_typed_135 : decode prog_9_method_6_code 135 = .ok (.iload_n 3, 1) := by decide +kernel
theorem d_Typing_typed_136 : decode prog_9_method_6_code 136 = .ok (.invokevirtual 73, 3) := by decide +kernel
theorem d_Typing_typed_139 : decode prog_9_method_6_code 139 = .ok (.iload 5, 2) := by decide +kernel
theorem d_Typing_typed_141 : decode prog_9_method_6_code 141 = .ok (.ireturn, 1) := by decide +kernel
theorem d_Typing_typed_142 : decode prog_9_method_6_code 142 = .ok (.aload_n 0, 1) := by decide +kernel
theorem d_Typing_typed_143 : decode prog_9_method_6_code 143 = .ok (.iload_n 3, 1) := by decide +kernel
theorem d_Typing_typed_144 : decode prog_9_method_6_code 144 = .ok (.iconst 0, 1) := by decide +kernel
theorem d_Typing_typed_145 : decode prog_9_method_6_code 145 = .ok (.invokevirtual 73, 3) := by decide +kernel
theorem d_Typing_typed_148 : decode prog_9_method_6_code 148 = .ok (.aload_n 0, 1) := by decide +kernel
theorem d_Typing_typed_149 : decode prog_9_method_6_code 149 = .ok (.iload 4, 2) := by decide +kernel
theorem d_Typing_typed_151 : decode prog_9_method_6_code 151 = .ok (.aload_n 0, 1) := by decide +kernel
theorem d_Typing_typed_152 : decode prog_9_method_6_code 152 = .ok (.getfield 29, 3) := by decide +kernel
theorem d_Typing_typed_155 : decode prog_9_method_6_code 155 = .ok (.aload_n 1, 1) := by decide +kernel
theorem d_Typing_typed_156 : decode prog_9_method_6_code 156 = .ok (.iload_n 2, 1) := by decide +kernel
theorem d_Typing_typed_157 : decode prog_9_method_6_code 157 = .ok (.iconst 2, 1) := by decide +kernel
theorem d_Typing_typed_158 : decode prog_9_method_6_code 158 = .ok (.invokevirtual 96, 3) := by decide +kernel
theorem d_Typing_typed_161 : decode prog_9_method_6_code 161 = .ok (.invokevirtual 66, 3) := by decide +kernel
theorem d_Typing_typed_164 : decode prog_9_method_6_code 164 = .ok (.invokevirtual 73, 3) := by decide +kernel
theorem d_Typing_typed_167 : decode prog_9_method_6_code 167 = .ok (.iload 4, 2) := by decide +kernel
theorem d_Typing_typed_169 : decode prog_9_method_6_code 169 = .ok (.ireturn, 1) := by decide +kernel
theorem d_Typing_typed_170 : decode prog_9_method_6_code 170 = .ok (.aload_n 0, 1) := by decide +kernel
theorem d_Typing_typed_171 : decode prog_9_method_6_code 171 = .ok (.aload_n 0, 1) := by decide +kernel
theorem d_Typing_typed_172 : decode prog_9_method_6_code 172 = .ok (.getfield 32, 3) := by decide +kernel
theorem d_Typing_typed_175 : decode prog_9_method_6_code 175 = .ok (.aload_n 1, 1) := by decide +kernel
theorem d_Typing_typed_176 : decode prog_9_method_6_code 176 = .ok (.iload_n 2, 1) := by decide +kernel
theorem d_Typing_typed_177 : decode prog_9_method_6_code 177 = .ok (.invokevirtual 102, 3) := by decide +kernel
theorem d_Typing_typed_180 : decode prog_9_method_6_code 180 = .ok (.invokevirtual 66, 3) := by decide +kernel
theorem d_Typing_typed_183 : decode prog_9_method_6_code 183 = .ok (.iload_n 3, 1) := by decide +kernel
theorem d_Typing_typed_184 : decode prog_9_method_6_code 184 = .ok (.invokevirtual 73, 3) := by decide +kernel
theorem d_Typing_typed_187 : decode prog_9_method_6_code 187 = .ok (.iload 4, 2) := by decide +kernel
theorem d_Typing_typed_189 : decode prog_9_method_6_code 189 = .ok (.ireturn, 1) := by decide +kernel
theorem d_Typing_typed_190 : decode prog_9_method_6_code 190 = .ok (.aload_n 0, 1) := by decide +kernel
theorem d_Typing_typed_191 : decode prog_9_method_6_code 191 = .ok (.iload_n 3, 1) := by decide +kernel
theorem d_Typing_typed_192 : decode prog_9_method_6_code 192 = .ok (.iconst 0, 1) := by decide +kernel
theorem d_Typing_typed_193 : decode prog_9_method_6_code 193 = .ok (.invokevirtual 73, 3) := by decide +kernel
theorem d_Typing_typed_196 : decode prog_9_method_6_code 196 = .ok (.aload_n 0, 1) := by decide +kernel
theorem d_Typing_typed_197 : decode prog_9_method_6_code 197 = .ok (.iload 4, 2) := by decide +kernel
theorem d_Typing_typed_199 : decode prog_9_method_6_code 199 = .ok (.iconst 0, 1) := by decide +kernel
theorem d_Typing_typed_200 : decode prog_9_method_6_code 200 = .ok (.invokevirtual 73, 3) := by decide +kernel
theorem d_Typing_typed_203 : decode prog_9_method_6_code 203 = .ok (.iconst 0, 1) := by decide +kernel
theorem d_Typing_typed_204 : decode prog_9_method_6_code 204 = .ok (.ireturn, 1) := by decide +kernel
theorem d_Typing_typed_205 : decode prog_9_method_6_code 205 = .ok (.aload_n 0, 1) := by decide +kernel
theorem d_Typing_typed_206 : decode prog_9_method_6_code 206 = .ok (.invokevirtual 83, 3) := by decide +kernel
theorem d_Typing_typed_209 : decode prog_9_method_6_code 209 = .ok (.istore 5, 2) := by decide +kernel
theorem d_Typing_typed_211 : decode prog_9_method_6_code 211 = .ok (.aload_n 0, 1) := by decide +kernel
theorem d_Typing_typed_212 : decode prog_9_method_6_code 212 = .ok (.iload_n 3, 1) := by decide +kernel
theorem d_Typing_typed_213 : decode prog_9_method_6_code 213 = .ok (.aload_n 0, 1) := by decide +kernel
theorem d_Typing_typed_214 : decode prog_9_method_6_code 214 = .ok (.iload 4, 2) := by decide +kernel
theorem d_Typing_typed_216 : decode prog_9_method_6_code 216 = .ok (.iload 5, 2) := by decide +kernel
theorem d_Typing_typed_218 : decode prog_9_method_6_code 218 = .ok (.invokevirtual 89, 3) := by decide +kernel
theorem d_Typing_typed_221 : decode prog_9_method_6_code 221 = .ok (.invokevirtual 73, 3) := by decide +kernel
theorem d_Typing_typed_224 : decode prog_9_method_6_code 224 = .ok (.iload 5, 2) := by decide +kernel
theorem d_Typing_typed_226 : decode prog_9_method_6_code 226 = .ok (.ireturn, 1) := by decide +kernel
theorem d_Typing_typed_227 : decode prog_9_method_6_code 227 = .ok (.iconst 0, 1) := by decide +kernel
theorem d_Typing_typed_228 : decode prog_9_method_6_code 228 = .ok (.ireturn, 1) := by decide +kernel
def fm_Typing_typed (o : Nat) (a1 : Nat) (a2 : Int) (w : fa_W) : Option (Int × fa_W) :=
  fa_let (fr_at (fa_rf o 4) (fm_Program_part a1 a2 0 w) w) fun x3_3 =>
  fa_let (fr_at (fa_rf o 4) (fm_Program_part a1 a2 1 w) w) fun x4_6 =>
  if fa_wr (fm_Program_kind a1 a2 w) = 2 then
  some (fr_at (fa_rf o 5) (fm_Program_value a1 a2 w) w, w)
  else
  if fa_wr (fm_Program_kind a1 a2 w) = 3 then
  some (fr_at (fa_rf o 6) (fm_Program_value a1 a2 w) w, w)
  else
  if fa_wr (fm_Program_kind a1 a2 w) = 4 then
  (fa_l2 (fm_Typing_open o w) fun v16 w17 =>
  some (v16, w17))
  else
  if fa_wr (fm_Program_kind a1 a2 w) = 5 then
  (fa_let (fr_at (fa_rf o 6) (fm_Program_value a1 a2 w) w) fun x5_21 =>
  (fm_Typing_unify o (fr_at (fa_rf o 2) x5_21 w) x3_3 w).bind fun w24 =>
  some (x5_21, w24))
  else
  if fa_wr (fm_Program_kind a1 a2 w) = 6 then
  ((fm_Typing_unify o x3_3 0 w).bind fun w27 =>
  (fm_Typing_unify o x4_6 (fr_at (fa_rf o 4) (fm_Program_part a1 a2 2 w27) w27) w27).bind fun w31 =>
  some (x4_6, w31))
  else
  if fa_wr (fm_Program_kind a1 a2 w) = 7 then
  ((fm_Typing_unify o (fr_at (fa_rf o 5) (fm_Program_value a1 a2 w) w) x3_3 w).bind fun w36 =>
  some (x4_6, w36))
  else
  if fa_wr (fm_Program_kind a1 a2 w) = 8 then
  ((fm_Typing_unify o x3_3 0 w).bind fun w39 =>
  (fm_Typing_unify o x4_6 0 w39).bind fun w41 =>
  some (0, w41))
  else
  if fa_wr (fm_Program_kind a1 a2 w) = 9 then
  (fa_l2 (fm_Typing_open o w) fun v44 w45 =>
  fa_l2 (fm_Typing_arrow o x4_6 v44 w45) fun v47 w48 =>
  (fm_Typing_unify o x3_3 v47 w48).bind fun w50 =>
  some (v44, w50))
  else
  some (0, w)
set_option maxHeartbeats 4000000 in
set_option maxRecDepth 100000 in
theorem c_Typing_typed {l : Launch} {D : va_G} {b : Nat} {aC : Nat → ClassId} {H0 : Heap} {N T : Nat} (hN : fa_NX ≤ N) (hT : fa_TX ≤ T) (o : Nat) (a1 : Nat) (a2 : Int) (ho : (fa_sh o).1 = 8) (ha1 : (fa_sh a1).1 = 4)  (w : fa_W) (r : Int × fa_W) (hM : fm_Typing_typed o a1 a2 w = some r) : fa_MC l D b aC H0 N T y_Typing_typed prog_9_method_6_code 6 ((Option.some Jvm.ClassFile.FieldType.int)) (3) [.ref (b + o), .ref (b + a1), .int (fa_I a2)] w (some (.int (fa_I r.1))) r.2 := by
  refine fa_enter (lv := [(0, .ref (b + o)), (1, .ref (b + a1)), (2, .int (fa_I a2))]) (by decide +kernel) (Nat.le_of_ble_eq_true rfl) rfl (fun hh hle hnm X => ?_)
  unfold fm_Typing_typed at hM
  refine g_aload_n X 0 rfl d_Typing_typed_0 ?_
  refine g_get X ck_8 ho (fa_xn ho (by decide) hN) 4 (by decide) wd_297 rfl (fa_fvR rfl (fa_xt ho (by decide) hT 4)) d_Typing_typed_1 ?_
  refine g_aload_n X 1 rfl d_Typing_typed_4 ?_
  refine g_iload_n X 2 rfl d_Typing_typed_5 ?_
  refine g_iconst X d_Typing_typed_6 ?_
  refine g_callV_i X ck_4 ha1 (fa_xn ha1 (by decide) hN) rfl mi_Program_part (c_Program_part hN hT a1 a2 0 ha1 w _ rfl) wd_467 rfl (Nat.le_trans (Nat.le_of_ble_eq_true rfl) hle) (st := [.ref (b + (fa_rf o 4))]) (Nat.le_of_ble_eq_true rfl) rfl d_Typing_typed_7 ?_
  refine g_callV_i X ck_6 (fa_r8_4 _ ho) (fa_xn (fa_r8_4 _ ho) (by decide) hN) rfl mi_Row_at (ct_Row_at (fa_rf o 4) (fm_Program_part a1 a2 0 w) (fa_ro (fa_r8_4 _ ho) hN hT) w _ rfl) wd_458 rfl (Nat.le_trans (Nat.le_of_ble_eq_true rfl) hle) (st := []) (Nat.le_of_ble_eq_true rfl) rfl d_Typing_typed_10 ?_
  refine g_istore_n X (fun x3_3 => [(3, .int (fa_I x3_3)), (0, .ref (b + o)), (1, .ref (b + a1)), (2, .int (fa_I a2))]) d_Typing_typed_13 (by decide) (fun _ => rfl) (fun x3_3 ex3_3 => ?_)
  have hM := fa_let_to hM ex3_3
  refine g_aload_n X 1 rfl d_Typing_typed_14 ?_
  refine g_get X ck_8 ho (fa_xn ho (by decide) hN) 4 (by decide) wd_297 rfl (fa_fvR rfl (fa_xt ho (by decide) hT 4)) d_Typing_typed_15 ?_
  refine g_aload_n X 2 rfl d_Typing_typed_18 ?_
  refine g_iload_n X 3 rfl d_Typing_typed_19 ?_
  refine g_iconst X d_Typing_typed_20 ?_
  refine g_callV_i X ck_4 ha1 (fa_xn ha1 (by decide) hN) rfl mi_Program_part (c_Program_part hN hT a1 a2 1 ha1 w _ rfl) wd_467 rfl (Nat.le_trans (Nat.le_of_ble_eq_true rfl) hle) (st := [.ref (b + (fa_rf o 4))]) (Nat.le_of_ble_eq_true rfl) rfl d_Typing_typed_21 ?_
  refine g_callV_i X ck_6 (fa_r8_4 _ ho) (fa_xn (fa_r8_4 _ ho) (by decide) hN) rfl mi_Row_at (ct_Row_at (fa_rf o 4) (fm_Program_part a1 a2 1 w) (fa_ro (fa_r8_4 _ ho) hN hT) w _ rfl) wd_458 rfl (Nat.le_trans (Nat.le_of_ble_eq_true rfl) hle) (st := []) (Nat.le_of_ble_eq_true rfl) rfl d_Typing_typed_24 ?_
  refine g_istore X (fun x4_6 => [(4, .int (fa_I x4_6)), (3, .int (fa_I x3_3)), (0, .ref (b + o)), (1, .ref (b + a1)), (2, .int (fa_I a2))]) d_Typing_typed_27 (by decide) (fun _ => rfl) (fun x4_6 ex4_6 => ?_)
  have hM := fa_let_to hM ex4_6
  refine g_aload_n X 3 rfl d_Typing_typed_29 ?_
  refine g_iload_n X 4 rfl d_Typing_typed_30 ?_
  refine g_callV_i X ck_4 ha1 (fa_xn ha1 (by decide) hN) rfl mi_Program_kind (c_Program_kind hN hT a1 a2 ha1 w _ rfl) wd_471 rfl (Nat.le_trans (Nat.le_of_ble_eq_true rfl) hle) (st := []) (Nat.le_of_ble_eq_true rfl) rfl d_Typing_typed_31 ?_
  by_cases hc8 : fa_wr (fm_Program_kind a1 a2 w) = 2
  · have hM := fa_if_t hM hc8
    refine g_tableIn X 2 80 d_Typing_typed_34 hc8 (by decide) (by decide) rfl (by decide) ?_
    refine g_aload_n X 2 rfl d_Typing_typed_80 ?_
    refine g_get X ck_8 ho (fa_xn ho (by decide) hN) 5 (by decide) wd_300 rfl (fa_fvR rfl (fa_xt ho (by decide) hT 5)) d_Typing_typed_81 ?_
    refine g_aload_n X 3 rfl d_Typing_typed_84 ?_
    refine g_iload_n X 4 rfl d_Typing_typed_85 ?_
    refine g_callV_i X ck_4 ha1 (fa_xn ha1 (by decide) hN) rfl mi_Program_value (c_Program_value hN hT a1 a2 ha1 w _ rfl) wd_475 rfl (Nat.le_trans (Nat.le_of_ble_eq_true rfl) hle) (st := [.ref (b + (fa_rf o 5))]) (Nat.le_of_ble_eq_true rfl) rfl d_Typing_typed_86 ?_
    refine g_callV_i X ck_6 (fa_r8_5 _ ho) (fa_xn (fa_r8_5 _ ho) (by decide) hN) rfl mi_Row_at (ct_Row_at (fa_rf o 5) (fm_Program_value a1 a2 w) (fa_ro (fa_r8_5 _ ho) hN hT) w _ rfl) wd_458 rfl (Nat.le_trans (Nat.le_of_ble_eq_true rfl) hle) (st := []) (Nat.le_of_ble_eq_true rfl) rfl d_Typing_typed_89 ?_
    cases hM
    exact g_iret X d_Typing_typed_92
  have hM := fa_if_f hM hc8
  by_cases hc11 : fa_wr (fm_Program_kind a1 a2 w) = 3
  · have hM := fa_if_t hM hc11
    refine g_tableIn X 3 93 d_Typing_typed_34 hc11 (by decide) (by decide) rfl (by decide) ?_
    refine g_aload_n X 2 rfl d_Typing_typed_93 ?_
    refine g_get X ck_8 ho (fa_xn ho (by decide) hN) 6 (by decide) wd_301 rfl (fa_fvR rfl (fa_xt ho (by decide) hT 6)) d_Typing_typed_94 ?_
    refine g_aload_n X 3 rfl d_Typing_typed_97 ?_
    refine g_iload_n X 4 rfl d_Typing_typed_98 ?_
    refine g_callV_i X ck_4 ha1 (fa_xn ha1 (by decide) hN) rfl mi_Program_value (c_Program_value hN hT a1 a2 ha1 w _ rfl) wd_475 rfl (Nat.le_trans (Nat.le_of_ble_eq_true rfl) hle) (st := [.ref (b + (fa_rf o 6))]) (Nat.le_of_ble_eq_true rfl) rfl d_Typing_typed_99 ?_
    refine g_callV_i X ck_6 (fa_r8_6 _ ho) (fa_xn (fa_r8_6 _ ho) (by decide) hN) rfl mi_Row_at (ct_Row_at (fa_rf o 6) (fm_Program_value a1 a2 w) (fa_ro (fa_r8_6 _ ho) hN hT) w _ rfl) wd_458 rfl (Nat.le_trans (Nat.le_of_ble_eq_true rfl) hle) (st := []) (Nat.le_of_ble_eq_true rfl) rfl d_Typing_typed_102 ?_
    cases hM
    exact g_iret X d_Typing_typed_105
  have hM := fa_if_f hM hc11
  by_cases hc14 : fa_wr (fm_Program_kind a1 a2 w) = 4
  · have hM := fa_if_t hM hc14
    refine g_tableIn X 4 106 d_Typing_typed_34 hc14 (by decide) (by decide) rfl (by decide) ?_
    refine g_aload_n X 2 rfl d_Typing_typed_106 ?_
    obtain ⟨⟨v16, w17⟩, e15⟩ : ∃ q, fm_Typing_open o w = q := ⟨_, rfl⟩
    have hM := fa_l2_e hM e15
    refine g_callV_i X ck_8 ho (fa_xn ho (by decide) hN) rfl mi_Typing_open (c_Typing_open hN hT o ho w _ e15) wd_448 rfl (Nat.le_trans (Nat.le_of_ble_eq_true rfl) hle) (st := []) (Nat.le_of_ble_eq_true rfl) rfl d_Typing_typed_107 ?_
    cases hM
    exact g_iret X d_Typing_typed_110
  have hM := fa_if_f hM hc14
  by_cases hc18 : fa_wr (fm_Program_kind a1 a2 w) = 5
  · have hM := fa_if_t hM hc18
    refine g_tableIn X 5 111 d_Typing_typed_34 hc18 (by decide) (by decide) rfl (by decide) ?_
    refine g_aload_n X 2 rfl d_Typing_typed_111 ?_
    refine g_get X ck_8 ho (fa_xn ho (by decide) hN) 6 (by decide) wd_301 rfl (fa_fvR rfl (fa_xt ho (by decide) hT 6)) d_Typing_typed_112 ?_
    refine g_aload_n X 3 rfl d_Typing_typed_115 ?_
    refine g_iload_n X 4 rfl d_Typing_typed_116 ?_
    refine g_callV_i X ck_4 ha1 (fa_xn ha1 (by decide) hN) rfl mi_Program_value (c_Program_value hN hT a1 a2 ha1 w _ rfl) wd_475 rfl (Nat.le_trans (Nat.le_of_ble_eq_true rfl) hle) (st := [.ref (b + (fa_rf o 6))]) (Nat.le_of_ble_eq_true rfl) rfl d_Typing_typed_117 ?_
    refine g_callV_i X ck_6 (fa_r8_6 _ ho) (fa_xn (fa_r8_6 _ ho) (by decide) hN) rfl mi_Row_at (ct_Row_at (fa_rf o 6) (fm_Program_value a1 a2 w) (fa_ro (fa_r8_6 _ ho) hN hT) w _ rfl) wd_458 rfl (Nat.le_trans (Nat.le_of_ble_eq_true rfl) hle) (st := []) (Nat.le_of_ble_eq_true rfl) rfl d_Typing_typed_120 ?_
    refine g_istore X (fun x5_21 => [(5, .int (fa_I x5_21)), (4, .int (fa_I x4_6)), (3, .int (fa_I x3_3)), (0, .ref (b + o)), (1, .ref (b + a1)), (2, .int (fa_I a2))]) d_Typing_typed_123 (by decide) (fun _ => rfl) (fun x5_21 ex5_21 => ?_)
    have hM := fa_let_to hM ex5_21
    refine g_aload_n X 3 rfl d_Typing_typed_125 ?_
    refine g_aload_n X 3 rfl d_Typing_typed_126 ?_
    refine g_get X ck_8 ho (fa_xn ho (by decide) hN) 2 (by decide) wd_295 rfl (fa_fvR rfl (fa_xt ho (by decide) hT 2)) d_Typing_typed_127 ?_
    refine g_iload X 0 rfl d_Typing_typed_130 ?_
    refine g_callV_i X ck_6 (fa_r8_2 _ ho) (fa_xn (fa_r8_2 _ ho) (by decide) hN) rfl mi_Row_at (ct_Row_at (fa_rf o 2) x5_21 (fa_ro (fa_r8_2 _ ho) hN hT) w _ rfl) wd_458 rfl (Nat.le_trans (Nat.le_of_ble_eq_true rfl) hle) (st := [.ref (b + o)]) (Nat.le_of_ble_eq_true rfl) rfl d_Typing_typed_132 ?_
    refine g_iload_n X 2 rfl d_Typing_typed_135 ?_
    obtain ⟨w24, e23, hM⟩ := fa_ob hM
    refine g_callV_v X ck_8 ho (fa_xn ho (by decide) hN) rfl mi_Typing_unify (c_Typing_unify hN hT o (fr_at (fa_rf o 2) x5_21 w) x3_3 ho w _ e23) wd_479 rfl (Nat.le_trans (Nat.le_of_ble_eq_true rfl) hle) (st := []) (Nat.le_of_ble_eq_true rfl) rfl d_Typing_typed_136 ?_
    refine g_iload X 0 rfl d_Typing_typed_139 ?_
    cases hM
    exact g_iret X d_Typing_typed_141
  have hM := fa_if_f hM hc18
  by_cases hc25 : fa_wr (fm_Program_kind a1 a2 w) = 6
  · have hM := fa_if_t hM hc25
    refine g_tableIn X 6 142 d_Typing_typed_34 hc25 (by decide) (by decide) rfl (by decide) ?_
    refine g_aload_n X 2 rfl d_Typing_typed_142 ?_
    refine g_iload_n X 1 rfl d_Typing_typed_143 ?_
    refine g_iconst X d_Typing_typed_144 ?_
    obtain ⟨w27, e26, hM⟩ := fa_ob hM
    refine g_callV_v X ck_8 ho (fa_xn ho (by decide) hN) rfl mi_Typing_unify (c_Typing_unify hN hT o x3_3 0 ho w _ e26) wd_479 rfl (Nat.le_trans (Nat.le_of_ble_eq_true rfl) hle) (st := []) (Nat.le_of_ble_eq_true rfl) rfl d_Typing_typed_145 ?_
    refine g_aload_n X 2 rfl d_Typing_typed_148 ?_
    refine g_iload X 0 rfl d_Typing_typed_149 ?_
    refine g_aload_n X 2 rfl d_Typing_typed_151 ?_
    refine g_get X ck_8 ho (fa_xn ho (by decide) hN) 4 (by decide) wd_297 rfl (fa_fvR rfl (fa_xt ho (by decide) hT 4)) d_Typing_typed_152 ?_
    refine g_aload_n X 3 rfl d_Typing_typed_155 ?_
    refine g_iload_n X 4 rfl d_Typing_typed_156 ?_
    refine g_iconst X d_Typing_typed_157 ?_
    refine g_callV_i X ck_4 ha1 (fa_xn ha1 (by decide) hN) rfl mi_Program_part (c_Program_part hN hT a1 a2 2 ha1 w27 _ rfl) wd_467 rfl (Nat.le_trans (Nat.le_of_ble_eq_true rfl) hle) (st := [.ref (b + (fa_rf o 4)), .int (fa_I x4_6), .ref (b + o)]) (Nat.le_of_ble_eq_true rfl) rfl d_Typing_typed_158 ?_
    refine g_callV_i X ck_6 (fa_r8_4 _ ho) (fa_xn (fa_r8_4 _ ho) (by decide) hN) rfl mi_Row_at (ct_Row_at (fa_rf o 4) (fm_Program_part a1 a2 2 w27) (fa_ro (fa_r8_4 _ ho) hN hT) w27 _ rfl) wd_458 rfl (Nat.le_trans (Nat.le_of_ble_eq_true rfl) hle) (st := [.int (fa_I x4_6), .ref (b + o)]) (Nat.le_of_ble_eq_true rfl) rfl d_Typing_typed_161 ?_
    obtain ⟨w31, e30, hM⟩ := fa_ob hM
    refine g_callV_v X ck_8 ho (fa_xn ho (by decide) hN) rfl mi_Typing_unify (c_Typing_unify hN hT o x4_6 (fr_at (fa_rf o 4) (fm_Program_part a1 a2 2 w27) w27) ho w27 _ e30) wd_479 rfl (Nat.le_trans (Nat.le_of_ble_eq_true rfl) hle) (st := []) (Nat.le_of_ble_eq_true rfl) rfl d_Typing_typed_164 ?_
    refine g_iload X 0 rfl d_Typing_typed_167 ?_
    cases hM
    exact g_iret X d_Typing_typed_169
  have hM := fa_if_f hM hc25
  by_cases hc32 : fa_wr (fm_Program_kind a1 a2 w) = 7
  · have hM := fa_if_t hM hc32
    refine g_tableIn X 7 170 d_Typing_typed_34 hc32 (by decide) (by decide) rfl (by decide) ?_
    refine g_aload_n X 2 rfl d_Typing_typed_170 ?_
    refine g_aload_n X 2 rfl d_Typing_typed_171 ?_
    refine g_get X ck_8 ho (fa_xn ho (by decide) hN) 5 (by decide) wd_300 rfl (fa_fvR rfl (fa_xt ho (by decide) hT 5)) d_Typing_typed_172 ?_
    refine g_aload_n X 3 rfl d_Typing_typed_175 ?_
    refine g_iload_n X 4 rfl d_Typing_typed_176 ?_
    refine g_callV_i X ck_4 ha1 (fa_xn ha1 (by decide) hN) rfl mi_Program_value (c_Program_value hN hT a1 a2 ha1 w _ rfl) wd_475 rfl (Nat.le_trans (Nat.le_of_ble_eq_true rfl) hle) (st := [.ref (b + (fa_rf o 5)), .ref (b + o)]) (Nat.le_of_ble_eq_true rfl) rfl d_Typing_typed_177 ?_
    refine g_callV_i X ck_6 (fa_r8_5 _ ho) (fa_xn (fa_r8_5 _ ho) (by decide) hN) rfl mi_Row_at (ct_Row_at (fa_rf o 5) (fm_Program_value a1 a2 w) (fa_ro (fa_r8_5 _ ho) hN hT) w _ rfl) wd_458 rfl (Nat.le_trans (Nat.le_of_ble_eq_true rfl) hle) (st := [.ref (b + o)]) (Nat.le_of_ble_eq_true rfl) rfl d_Typing_typed_180 ?_
    refine g_iload_n X 1 rfl d_Typing_typed_183 ?_
    obtain ⟨w36, e35, hM⟩ := fa_ob hM
    refine g_callV_v X ck_8 ho (fa_xn ho (by decide) hN) rfl mi_Typing_unify (c_Typing_unify hN hT o (fr_at (fa_rf o 5) (fm_Program_value a1 a2 w) w) x3_3 ho w _ e35) wd_479 rfl (Nat.le_trans (Nat.le_of_ble_eq_true rfl) hle) (st := []) (Nat.le_of_ble_eq_true rfl) rfl d_Typing_typed_184 ?_
    refine g_iload X 0 rfl d_Typing_typed_187 ?_
    cases hM
    exact g_iret X d_Typing_typed_189
  have hM := fa_if_f hM hc32
  by_cases hc37 : fa_wr (fm_Program_kind a1 a2 w) = 8
  · have hM := fa_if_t hM hc37
    refine g_tableIn X 8 190 d_Typing_typed_34 hc37 (by decide) (by decide) rfl (by decide) ?_
    refine g_aload_n X 2 rfl d_Typing_typed_190 ?_
    refine g_iload_n X 1 rfl d_Typing_typed_191 ?_
    refine g_iconst X d_Typing_typed_192 ?_
    obtain ⟨w39, e38, hM⟩ := fa_ob hM
    refine g_callV_v X ck_8 ho (fa_xn ho (by decide) hN) rfl mi_Typing_unify (c_Typing_unify hN hT o x3_3 0 ho w _ e38) wd_479 rfl (Nat.le_trans (Nat.le_of_ble_eq_true rfl) hle) (st := []) (Nat.le_of_ble_eq_true rfl) rfl d_Typing_typed_193 ?_
    refine g_aload_n X 2 rfl d_Typing_typed_196 ?_
    refine g_iload X 0 rfl d_Typing_typed_197 ?_
    refine g_iconst X d_Typing_typed_199 ?_
    obtain ⟨w41, e40, hM⟩ := fa_ob hM
    refine g_callV_v X ck_8 ho (fa_xn ho (by decide) hN) rfl mi_Typing_unify (c_Typing_unify hN hT o x4_6 0 ho w39 _ e40) wd_479 rfl (Nat.le_trans (Nat.le_of_ble_eq_true rfl) hle) (st := []) (Nat.le_of_ble_eq_true rfl) rfl d_Typing_typed_200 ?_
    refine g_iconst X d_Typing_typed_203 ?_
    cases hM
    exact g_iret X d_Typing_typed_204
  have hM := fa_if_f hM hc37
  by_cases hc42 : fa_wr (fm_Program_kind a1 a2 w) = 9
  · have hM := fa_if_t hM hc42
    refine g_tableIn X 9 205 d_Typing_typed_34 hc42 (by decide) (by decide) rfl (by decide) ?_
    refine g_aload_n X 2 rfl d_Typing_typed_205 ?_
    obtain ⟨⟨v44, w45⟩, e43⟩ : ∃ q, fm_Typing_open o w = q := ⟨_, rfl⟩
    have hM := fa_l2_e hM e43
    refine g_callV_i X ck_8 ho (fa_xn ho (by decide) hN) rfl mi_Typing_open (c_Typing_open hN hT o ho w _ e43) wd_448 rfl (Nat.le_trans (Nat.le_of_ble_eq_true rfl) hle) (st := []) (Nat.le_of_ble_eq_true rfl) rfl d_Typing_typed_206 ?_
    refine g_istorec X [(5, .int (fa_I v44)), (4, .int (fa_I x4_6)), (3, .int (fa_I x3_3)), (0, .ref (b + o)), (1, .ref (b + a1)), (2, .int (fa_I a2))] d_Typing_typed_209 (by decide) rfl ?_
    refine g_aload_n X 3 rfl d_Typing_typed_211 ?_
    refine g_iload_n X 2 rfl d_Typing_typed_212 ?_
    refine g_aload_n X 3 rfl d_Typing_typed_213 ?_
    refine g_iload X 1 rfl d_Typing_typed_214 ?_
    refine g_iload X 0 rfl d_Typing_typed_216 ?_
    obtain ⟨⟨v47, w48⟩, e46⟩ : ∃ q, fm_Typing_arrow o x4_6 v44 w45 = q := ⟨_, rfl⟩
    have hM := fa_l2_e hM e46
    refine g_callV_i X ck_8 ho (fa_xn ho (by decide) hN) rfl mi_Typing_arrow (c_Typing_arrow hN hT o x4_6 v44 ho w45 _ e46) wd_452 rfl (Nat.le_trans (Nat.le_of_ble_eq_true rfl) hle) (st := [.int (fa_I x3_3), .ref (b + o)]) (Nat.le_of_ble_eq_true rfl) rfl d_Typing_typed_218 ?_
    obtain ⟨w50, e49, hM⟩ := fa_ob hM
    refine g_callV_v X ck_8 ho (fa_xn ho (by decide) hN) rfl mi_Typing_unify (c_Typing_unify hN hT o x3_3 v47 ho w48 _ e49) wd_479 rfl (Nat.le_trans (Nat.le_of_ble_eq_true rfl) hle) (st := []) (Nat.le_of_ble_eq_true rfl) rfl d_Typing_typed_221 ?_
    refine g_iload X 0 rfl d_Typing_typed_224 ?_
    cases hM
    exact g_iret X d_Typing_typed_226
  have hM := fa_if_f hM hc42
  refine g_tableDef X 227 d_Typing_typed_34 (by
    exact Or.inl (by omega)) (by decide) ?_
  refine g_iconst X d_Typing_typed_227 ?_
  cases hM
  exact g_iret X d_Typing_typed_228
theorem d_Typing_shapeOf_0 : decode prog_9_method_15_code 0 = .ok (.aload_n 0, 1) := by decide +kernel
theorem d_Typing_shapeOf_1 : decode prog_9_method_15_code 1 = .ok (.iload_n 1, 1) := by decide +kernel
theorem d_Typing_shapeOf_2 : decode prog_9_method_15_code 2 = .ok (.invokevirtual 119, 3) := by decide +kernel
theorem d_Typing_shapeOf_5 : decode prog_9_method_15_code 5 = .ok (.ifCond .ne 5, 3) := by decide +kernel
theorem d_Typing_shapeOf_8 : decode prog_9_method_15_code 8 = .ok (.iload_n 1, 1) := by decide +kernel
theorem d_Typing_shapeOf_9 : decode prog_9_method_15_code 9 = .ok (.ireturn, 1) := by decide +kernel
theorem d_Typing_shapeOf_10 : decode prog_9_method_15_code 10 = .ok (.aload_n 0, 1) := by decide +kernel
theorem d_Typing_shapeOf_11 : decode prog_9_method_15_code 11 = .ok (.getfield 26, 3) := by decide +kernel
theorem d_Typing_shapeOf_14 : decode prog_9_method_15_code 14 = .ok (.aload_n 0, 1) := by decide +kernel
theorem d_Typing_shapeOf_15 : decode prog_9_method_15_code 15 = .ok (.aload_n 0, 1) := by decide +kernel
theorem d_Typing_shapeOf_16 : decode prog_9_method_15_code 16 = .ok (.getfield 20, 3) := by decide +kernel
theorem d_Typing_shapeOf_19 : decode prog_9_method_15_code 19 = .ok (.iload_n 1, 1) := by decide +kernel
theorem d_Typing_shapeOf_20 : decode prog_9_method_15_code 20 = .ok (.invokevirtual 66, 3) := by decide +kernel
theorem d_Typing_shapeOf_23 : decode prog_9_method_15_code 23 = .ok (.invokevirtual 105, 3) := by decide +kernel
theorem d_Typing_shapeOf_26 : decode prog_9_method_15_code 26 = .ok (.invokevirtual 66, 3) := by decide +kernel
theorem d_Typing_shapeOf_29 : decode prog_9_method_15_code 29 = .ok (.istore_n 2, 1) := by decide +kernel
theorem d_Typing_shapeOf_30 : decode prog_9_method_15_code 30 = .ok (.aload_n 0, 1) := by decide +kernel
theorem d_Typing_shapeOf_31 : decode prog_9_method_15_code 31 = .ok (.getfield 26, 3) := by decide +kernel
theorem d_Typing_shapeOf_34 : decode prog_9_method_15_code 34 = .ok (.aload_n 0, 1) := by decide +kernel
theorem d_Typing_shapeOf_35 : decode prog_9_method_15_code 35 = .ok (.aload_n 0, 1) := by decide +kernel
theorem d_Typing_shapeOf_36 : decode prog_9_method_15_code 36 = .ok (.getfield 23, 3) := by decide +kernel
theorem d_Typing_shapeOf_39 : decode prog_9_method_15_code 39 = .ok (.iload_n 1, 1) := by decide +kernel
theorem d_Typing_shapeOf_40 : decode prog_9_method_15_code 40 = .ok (.invokevirtual 66, 3) := by decide +kernel
theorem d_Typing_shapeOf_43 : decode prog_9_method_15_code 43 = .ok (.invokevirtual 105, 3) := by decide +kernel
theorem d_Typing_shapeOf_46 : decode prog_9_method_15_code 46 = .ok (.invokevirtual 66, 3) := by decide +kernel
theorem d_Typing_shapeOf_49 : decode prog_9_method_15_code 49 = .ok (.istore_n 3, 1) := by decide +kernel
theorem d_Typing_shapeOf_50 : decode prog_9_method_15_code 50 = .ok (.iload_n 2, 1) := by decide +kernel
theorem d_Typing_shapeOf_51 : decode prog_9_method_15_code 51 = .ok (.iconst (-1), 1) := by decide +kernel
theorem d_Typing_shapeOf_52 : decode prog_9_method_15_code 52 = .ok (.if_icmp .eq 8, 3) := by decide +kernel
theorem d_Typing_shapeOf_55 : decode prog_9_method_15_code 55 = .ok (.iload_n 3, 1) := by decide +kernel
theorem d_Typing_shapeOf_56 : decode prog_9_method_15_code 56 = .ok (.iconst (-1), 1) := by decide +kernel
theorem d_Typing_shapeOf_57 : decode prog_9_method_15_code 57 = .ok (.if_icmp .ne 5, 3) := by decide +kernel
theorem d_Typing_shapeOf_60 : decode prog_9_method_15_code 60 = .ok (.iconst (-1), 1) := by decide +kernel
theorem d_Typing_shapeOf_61 : decode prog_9_method_15_code 61 = .ok (.ireturn, 1) := by decide +kernel
theorem d_Typing_shapeOf_62 : decode prog_9_method_15_code 62 = .ok (.iconst 0, 1) := by decide +kernel
theorem d_Typing_shapeOf_63 : decode prog_9_method_15_code 63 = .ok (.istore 4, 2) := by decide +kernel
theorem d_Typing_shapeOf_65 : decode prog_9_method_15_code 65 = .ok (.iload 4, 2) := by decide +kernel
theorem d_Typing_shapeOf_67 : decode prog_9_method_15_code 67 = .ok (.aload_n 0, 1) := by decide +kernel
theorem d_Typing_shapeOf_68 : decode prog_9_method_15_code 68 = .ok (.getfield 26, 3) := by decide +kernel
theorem d_Typing_shapeOf_71 : decode prog_9_method_15_code 71 = .ok (.invokevirtual 93, 3) := by decide +kernel
theorem d_Typing_shapeOf_74 : decode prog_9_method_15_code 74 = .ok (.if_icmp .ge 83, 3) := by decide +kernel
theorem d_Typing_shapeOf_77 : decode prog_9_method_15_code 77 = .ok (.aload_n 0, 1) := by decide +kernel
theorem d_Typing_shapeOf_78 : decode prog_9_method_15_code 78 = .ok (.getfield 26, 3) := by decide +kernel
theorem d_Typing_shapeOf_81 : decode prog_9_method_15_code 81 = .ok (.iload 4, 2) := by decide +kernel
theorem d_Typing_shapeOf_83 : decode prog_9_method_15_code 83 = .ok (.invokevirtual 66, 3) := by decide +kernel
theorem d_Typing_shapeOf_86 : decode prog_9_method_15_code 86 = .ok (.iload 4, 2) := by decide +kernel
theorem d_Typing_shapeOf_88 : decode prog_9_method_15_code 88 = .ok (.if_icmp .ne 63, 3) := by decide +kernel
theorem d_Typing_shapeOf_91 : decode prog_9_method_15_code 91 = .ok (.aload_n 0, 1) := by decide +kernel
theorem d_Typing_shapeOf_92 : decode prog_9_method_15_code 92 = .ok (.iload 4, 2) := by decide +kernel
theorem d_Typing_shapeOf_94 : decode prog_9_method_15_code 94 = .ok (.invokevirtual 119, 3) := by decide +kernel
theorem d_Typing_shapeOf_97 : decode prog_9_method_15_code 97 = .ok (.ifCond .eq 54, 3) := by decide +kernel
theorem d_Typing_shapeOf_100 : decode prog_9_method_15_code 100 = .ok (.aload_n 0, 1) := by decide +kernel
theorem d_Typing_shapeOf_101 : decode prog_9_method_15_code 101 = .ok (.getfield 26, 3) := by decide +kernel
theorem d_Typing_shapeOf_104 : decode prog_9_method_15_code 104 = .ok (.aload_n 0, 1) := by decide +kernel
theorem d_Typing_shapeOf_105 : decode prog_9_method_15_code 105 = .ok (.aload_n 0, 1) := by decide +kernel
theorem d_Typing_shapeOf_106 : decode prog_9_method_15_code 106 = .ok (.getfield 20, 3) := by decide +kernel
theorem d_Typing_shapeOf_109 : decode prog_9_method_15_code 109 = .ok (.iload 4, 2) := by decide +kernel
theorem d_Typing_shapeOf_111 : decode prog_9_method_15_code 111 = .ok (.invokevirtual 66, 3) := by decide +kernel
theorem d_Typing_shapeOf_114 : decode prog_9_method_15_code 114 = .ok (.invokevirtual 105, 3) := by decide +kernel
theorem d_Typing_shapeOf_117 : decode prog_9_method_15_code 117 = .ok (.invokevirtual 66, 3) := by decide +kernel
theorem d_Typing_shapeOf_120 : decode prog_9_method_15_code 120 = .ok (.iload_n 2, 1) := by decide +kernel
theorem d_Typing_shapeOf_121 : decode prog_9_method_15_code 121 = .ok (.if_icmp .ne 30, 3) := by decide +kernel
theorem d_Typing_shapeOf_124 : decode prog_9_method_15_code 124 = .ok (.aload_n 0, 1) := by decide +kernel
theorem d_Typing_shapeOf_125 : decode prog_9_method_15_code 125 = .ok (.getfield 26, 3) := by decide +kernel
theorem d_Typing_shapeOf_128 : decode prog_9_method_15_code 128 = .ok (.aload_n 0, 1) := by decide +kernel
theorem d_Typing_shapeOf_129 : decode prog_9_method_15_code 129 = .ok (.aload_n 0, 1) := by decide +kernel
theorem d_Typing_shapeOf_130 : decode prog_9_method_15_code 130 = .ok (.getfield 23, 3) := by decide +kernel
theorem d_Typing_shapeOf_133 : decode prog_9_method_15_code 133 = .ok (.iload 4, 2) := by decide +kernel
theorem d_Typing_shapeOf_135 : decode prog_9_method_15_code 135 = .ok (.invokevirtual 66, 3) := by decide +kernel
theorem d_Typing_shapeOf_138 : decode prog_9_method_15_code 138 = .ok (.invokevirtual 105, 3) := by decide +kernel
theorem d_Typing_shapeOf_141 : decode prog_9_method_15_code 141 = .ok (.invokevirtual 66, 3) := by decide +kernel
theorem d_Typing_shapeOf_144 : decode prog_9_method_15_code 144 = .ok (.iload_n 3, 1) := by decide +kernel
theorem d_Typing_shapeOf_145 : decode prog_9_method_15_code 145 = .ok (.if_icmp .ne 6, 3) := by decide +kernel
theorem d_Typing_shapeOf_148 : decode prog_9_method_15_code 148 = .ok (.iload 4, 2) := by decide +kernel
theorem d_Typing_shapeOf_150 : decode prog_9_method_15_code 150 = .ok (.ireturn, 1) := by decide +kernel
theorem d_Typing_shapeOf_151 : decode prog_9_method_15_code 151 = .ok (.iinc 4 1, 3) := by decide +kernel
theorem d_Typing_shapeOf_154 : decode prog_9_method_15_code 154 = .ok (.goto (-89), 3) := by decide +kernel
theorem d_Typing_shapeOf_157 : decode prog_9_method_15_code 157 = .ok (.iload_n 1, 1) := by decide +kernel
theorem d_Typing_shapeOf_158 : decode prog_9_method_15_code 158 = .ok (.ireturn, 1) := by decide +kernel
def fm_Typing_shapeOf_l65 (o : Nat) (a1 : Int) (w : fa_W) : Nat → Int → Int → Int → Option Int
  | 0, _, _, _ => none
  | n + 1, x2, x3, x4 => if fa_wr (fm_Row_size (fa_rf o 3) w) ≤ fa_wr x4 then
  some a1
  else
  (if fa_wr (fr_at (fa_rf o 3) x4 w) = fa_wr x4 then
  (if fm_Typing_isArrow o x4 w = true then
  ((fm_Typing_root o (fr_at (fa_rf o 1) x4 w) w).bind fun v25 =>
  if fa_wr (fr_at (fa_rf o 3) v25 w) = fa_wr x2 then
  ((fm_Typing_root o (fr_at (fa_rf o 2) x4 w) w).bind fun v31 =>
  if fa_wr (fr_at (fa_rf o 3) v31 w) = fa_wr x3 then
  some x4
  else
  (fa_let (x4 + 1) fun x4_34 =>
  fm_Typing_shapeOf_l65 o a1 w n x2 x3 x4_34))
  else
  (fa_let (x4 + 1) fun x4_28 =>
  fm_Typing_shapeOf_l65 o a1 w n x2 x3 x4_28))
  else
  (fa_let (x4 + 1) fun x4_22 =>
  fm_Typing_shapeOf_l65 o a1 w n x2 x3 x4_22))
  else
  (fa_let (x4 + 1) fun x4_19 =>
  fm_Typing_shapeOf_l65 o a1 w n x2 x3 x4_19))
set_option maxHeartbeats 4000000 in
set_option maxRecDepth 100000 in
theorem c_Typing_shapeOf_l65 {p : Program} {l : Launch} {e : Env} {s : State} {m : MethodId} {args : Array Value} {below : List Frame} {meth : Method} {c : Code} {hh : Nat} {D : va_G} {b : Nat} {aC : Nat → ClassId} {H0 : Heap} {N T : Nat} (X : fa_GX p s m args meth c prog_9_method_15_code 5 ((Option.some Jvm.ClassFile.FieldType.int)) y_Typing_shapeOf.cls D b aC) (hle : 2 ≤ hh) (hN : fa_NX ≤ N) (hT : fa_TX ≤ T) (o : Nat) (a1 : Int) (ho : (fa_sh o).1 = 8) {r : Int} (w : fa_W) : ∀ (n : Nat) (x2 : Int) (x3 : Int) (x4 : Int), fm_Typing_shapeOf_l65 o a1 w n x2 x3 x4 = some r → fa_GJ p l e (fa_rm hh) s m args below meth c 0 0 (MQ below (fa_Qc D b aC H0 N T (some (.int (fa_I r))) w) args s 0 0 (fun q => b ≤ q)) D b aC H0 N T 5 w 65 [(0, .ref (b + o)), (1, .int (fa_I a1)), (2, .int (fa_I x2)), (3, .int (fa_I x3)), (4, .int (fa_I x4))] [] := by
  intro n
  induction n with
  | zero => intro x2 x3 x4 hM; exact fa_no hM
  | succ n ih =>
    intro x2 x3 x4 hM
    rw [fm_Typing_shapeOf_l65] at hM
    refine g_iload X 4 rfl d_Typing_shapeOf_65 ?_
    refine g_aload_n X 0 rfl d_Typing_shapeOf_67 ?_
    refine g_get X ck_8 ho (fa_xn ho (by decide) hN) 3 (by decide) wd_296 rfl (fa_fvR rfl (fa_xt ho (by decide) hT 3)) d_Typing_shapeOf_68 ?_
    refine g_callV_i X ck_6 (fa_r8_3 _ ho) (fa_xn (fa_r8_3 _ ho) (by decide) hN) rfl mi_Row_size (c_Row_size (fa_rf o 3) (fa_ro (fa_r8_3 _ ho) hN hT) w _ rfl) wd_456 rfl (Nat.le_trans (Nat.le_of_ble_eq_true rfl) hle) (st := [.int (fa_I x4)]) (Nat.le_of_ble_eq_true rfl) rfl d_Typing_shapeOf_71 ?_
    refine g_icmp_ge X 157 d_Typing_shapeOf_74 (by decide) (fun hc16 => ?_) (fun hc16 => ?_)
    · have hM := fa_if_t hM hc16
      refine g_iload_n X 1 rfl d_Typing_shapeOf_157 ?_
      cases hM
      exact g_iret X d_Typing_shapeOf_158
    · have hM := fa_if_f hM hc16
      refine g_aload_n X 0 rfl d_Typing_shapeOf_77 ?_
      refine g_get X ck_8 ho (fa_xn ho (by decide) hN) 3 (by decide) wd_296 rfl (fa_fvR rfl (fa_xt ho (by decide) hT 3)) d_Typing_shapeOf_78 ?_
      refine g_iload X 4 rfl d_Typing_shapeOf_81 ?_
      refine g_callV_i X ck_6 (fa_r8_3 _ ho) (fa_xn (fa_r8_3 _ ho) (by decide) hN) rfl mi_Row_at (ct_Row_at (fa_rf o 3) x4 (fa_ro (fa_r8_3 _ ho) hN hT) w _ rfl) wd_458 rfl (Nat.le_trans (Nat.le_of_ble_eq_true rfl) hle) (st := []) (Nat.le_of_ble_eq_true rfl) rfl d_Typing_shapeOf_83 ?_
      refine g_iload X 4 rfl d_Typing_shapeOf_86 ?_
      refine g_icmp_ne X 151 d_Typing_shapeOf_88 (by decide) (fun hc18 => ?_) (fun hc18 => ?_)
      · have hM := fa_if_f hM hc18
        refine g_iinc X 4 (fun x4_19 => [(4, .int (fa_I x4_19)), (0, .ref (b + o)), (1, .int (fa_I a1)), (2, .int (fa_I x2)), (3, .int (fa_I x3))]) d_Typing_shapeOf_151 rfl (by decide) (fun _ => rfl) (fun x4_19 ex4_19 => ?_)
        have hM := fa_let_to hM ex4_19
        refine g_goto X 65 d_Typing_shapeOf_154 (by decide) ?_
        exact g_lv [1, 2, 3, 4, 0] rfl (ih _ _ _ hM)
      · have hM := fa_if_t hM hc18
        refine g_aload_n X 0 rfl d_Typing_shapeOf_91 ?_
        refine g_iload X 4 rfl d_Typing_shapeOf_92 ?_
        refine g_callV_i X ck_8 ho (fa_xn ho (by decide) hN) rfl mi_Typing_isArrow (c_Typing_isArrow hN hT o x4 ho w _ rfl) wd_502 rfl (Nat.le_trans (Nat.le_of_ble_eq_true rfl) hle) (st := []) (Nat.le_of_ble_eq_true rfl) rfl d_Typing_shapeOf_94 ?_
        refine g_ifb_eq X 151 d_Typing_shapeOf_97 (by decide) (fun hc21 => ?_) (fun hc21 => ?_)
        · have hM := fa_ifb_f hM hc21
          refine g_iinc X 4 (fun x4_22 => [(4, .int (fa_I x4_22)), (0, .ref (b + o)), (1, .int (fa_I a1)), (2, .int (fa_I x2)), (3, .int (fa_I x3))]) d_Typing_shapeOf_151 rfl (by decide) (fun _ => rfl) (fun x4_22 ex4_22 => ?_)
          have hM := fa_let_to hM ex4_22
          refine g_goto X 65 d_Typing_shapeOf_154 (by decide) ?_
          exact g_lv [1, 2, 3, 4, 0] rfl (ih _ _ _ hM)
        · have hM := fa_ifb_t hM hc21
          refine g_aload_n X 0 rfl d_Typing_shapeOf_100 ?_
          refine g_get X ck_8 ho (fa_xn ho (by decide) hN) 3 (by decide) wd_296 rfl (fa_fvR rfl (fa_xt ho (by decide) hT 3)) d_Typing_shapeOf_101 ?_
          refine g_aload_n X 0 rfl d_Typing_shapeOf_104 ?_
          refine g_aload_n X 0 rfl d_Typing_shapeOf_105 ?_
          refine g_get X ck_8 ho (fa_xn ho (by decide) hN) 1 (by decide) wd_294 rfl (fa_fvR rfl (fa_xt ho (by decide) hT 1)) d_Typing_shapeOf_106 ?_
          refine g_iload X 4 rfl d_Typing_shapeOf_109 ?_
          refine g_callV_i X ck_6 (fa_r8_1 _ ho) (fa_xn (fa_r8_1 _ ho) (by decide) hN) rfl mi_Row_at (ct_Row_at (fa_rf o 1) x4 (fa_ro (fa_r8_1 _ ho) hN hT) w _ rfl) wd_458 rfl (Nat.le_trans (Nat.le_of_ble_eq_true rfl) hle) (st := [.ref (b + o), .ref (b + (fa_rf o 3))]) (Nat.le_of_ble_eq_true rfl) rfl d_Typing_shapeOf_111 ?_
          obtain ⟨v25, e24, hM⟩ := fa_ob hM
          refine g_callV_i X ck_8 ho (fa_xn ho (by decide) hN) rfl mi_Typing_root (c_Typing_root hN hT o (fr_at (fa_rf o 1) x4 w) ho w _ e24) wd_493 rfl (Nat.le_trans (Nat.le_of_ble_eq_true rfl) hle) (st := [.ref (b + (fa_rf o 3))]) (Nat.le_of_ble_eq_true rfl) rfl d_Typing_shapeOf_114 ?_
          refine g_callV_i X ck_6 (fa_r8_3 _ ho) (fa_xn (fa_r8_3 _ ho) (by decide) hN) rfl mi_Row_at (ct_Row_at (fa_rf o 3) v25 (fa_ro (fa_r8_3 _ ho) hN hT) w _ rfl) wd_458 rfl (Nat.le_trans (Nat.le_of_ble_eq_true rfl) hle) (st := []) (Nat.le_of_ble_eq_true rfl) rfl d_Typing_shapeOf_117 ?_
          refine g_iload_n X 2 rfl d_Typing_shapeOf_120 ?_
          refine g_icmp_ne X 151 d_Typing_shapeOf_121 (by decide) (fun hc27 => ?_) (fun hc27 => ?_)
          · have hM := fa_if_f hM hc27
            refine g_iinc X 4 (fun x4_28 => [(4, .int (fa_I x4_28)), (0, .ref (b + o)), (1, .int (fa_I a1)), (2, .int (fa_I x2)), (3, .int (fa_I x3))]) d_Typing_shapeOf_151 rfl (by decide) (fun _ => rfl) (fun x4_28 ex4_28 => ?_)
            have hM := fa_let_to hM ex4_28
            refine g_goto X 65 d_Typing_shapeOf_154 (by decide) ?_
            exact g_lv [1, 2, 3, 4, 0] rfl (ih _ _ _ hM)
          · have hM := fa_if_t hM hc27
            refine g_aload_n X 0 rfl d_Typing_shapeOf_124 ?_
            refine g_get X ck_8 ho (fa_xn ho (by decide) hN) 3 (by decide) wd_296 rfl (fa_fvR rfl (fa_xt ho (by decide) hT 3)) d_Typing_shapeOf_125 ?_
            refine g_aload_n X 0 rfl d_Typing_shapeOf_128 ?_
            refine g_aload_n X 0 rfl d_Typing_shapeOf_129 ?_
            refine g_get X ck_8 ho (fa_xn ho (by decide) hN) 2 (by decide) wd_295 rfl (fa_fvR rfl (fa_xt ho (by decide) hT 2)) d_Typing_shapeOf_130 ?_
            refine g_iload X 4 rfl d_Typing_shapeOf_133 ?_
            refine g_callV_i X ck_6 (fa_r8_2 _ ho) (fa_xn (fa_r8_2 _ ho) (by decide) hN) rfl mi_Row_at (ct_Row_at (fa_rf o 2) x4 (fa_ro (fa_r8_2 _ ho) hN hT) w _ rfl) wd_458 rfl (Nat.le_trans (Nat.le_of_ble_eq_true rfl) hle) (st := [.ref (b + o), .ref (b + (fa_rf o 3))]) (Nat.le_of_ble_eq_true rfl) rfl d_Typing_shapeOf_135 ?_
            obtain ⟨v31, e30, hM⟩ := fa_ob hM
            refine g_callV_i X ck_8 ho (fa_xn ho (by decide) hN) rfl mi_Typing_root (c_Typing_root hN hT o (fr_at (fa_rf o 2) x4 w) ho w _ e30) wd_493 rfl (Nat.le_trans (Nat.le_of_ble_eq_true rfl) hle) (st := [.ref (b + (fa_rf o 3))]) (Nat.le_of_ble_eq_true rfl) rfl d_Typing_shapeOf_138 ?_
            refine g_callV_i X ck_6 (fa_r8_3 _ ho) (fa_xn (fa_r8_3 _ ho) (by decide) hN) rfl mi_Row_at (ct_Row_at (fa_rf o 3) v31 (fa_ro (fa_r8_3 _ ho) hN hT) w _ rfl) wd_458 rfl (Nat.le_trans (Nat.le_of_ble_eq_true rfl) hle) (st := []) (Nat.le_of_ble_eq_true rfl) rfl d_Typing_shapeOf_141 ?_
            refine g_iload_n X 3 rfl d_Typing_shapeOf_144 ?_
            refine g_icmp_ne X 151 d_Typing_shapeOf_145 (by decide) (fun hc33 => ?_) (fun hc33 => ?_)
            · have hM := fa_if_f hM hc33
              refine g_iinc X 4 (fun x4_34 => [(4, .int (fa_I x4_34)), (0, .ref (b + o)), (1, .int (fa_I a1)), (2, .int (fa_I x2)), (3, .int (fa_I x3))]) d_Typing_shapeOf_151 rfl (by decide) (fun _ => rfl) (fun x4_34 ex4_34 => ?_)
              have hM := fa_let_to hM ex4_34
              refine g_goto X 65 d_Typing_shapeOf_154 (by decide) ?_
              exact g_lv [1, 2, 3, 4, 0] rfl (ih _ _ _ hM)
            · have hM := fa_if_t hM hc33
              refine g_iload X 4 rfl d_Typing_shapeOf_148 ?_
              cases hM
              exact g_iret X d_Typing_shapeOf_150
def fm_Typing_shapeOf (o : Nat) (a1 : Int) (w : fa_W) : Option Int :=
  if fm_Typing_isArrow o a1 w = true then
  ((fm_Typing_root o (fr_at (fa_rf o 1) a1 w) w).bind fun v5 =>
  fa_let (fr_at (fa_rf o 3) v5 w) fun x2_7 =>
  (fm_Typing_root o (fr_at (fa_rf o 2) a1 w) w).bind fun v10 =>
  fa_let (fr_at (fa_rf o 3) v10 w) fun x3_12 =>
  if fa_wr x2_7 = (-1) then
  some (-1)
  else
  (if fa_wr x3_12 = (-1) then
  some (-1)
  else
  fm_Typing_shapeOf_l65 o a1 w fa_FU x2_7 x3_12 0))
  else
  some a1
set_option maxHeartbeats 4000000 in
set_option maxRecDepth 100000 in
theorem c_Typing_shapeOf {l : Launch} {D : va_G} {b : Nat} {aC : Nat → ClassId} {H0 : Heap} {N T : Nat} (hN : fa_NX ≤ N) (hT : fa_TX ≤ T) (o : Nat) (a1 : Int) (ho : (fa_sh o).1 = 8)  (w : fa_W) (r : Int) (hM : fm_Typing_shapeOf o a1 w = some r) : fa_MC l D b aC H0 N T y_Typing_shapeOf prog_9_method_15_code 5 ((Option.some Jvm.ClassFile.FieldType.int)) (2) [.ref (b + o), .int (fa_I a1)] w (some (.int (fa_I r))) w := by
  refine fa_enter (lv := [(0, .ref (b + o)), (1, .int (fa_I a1))]) (by decide +kernel) (Nat.le_of_ble_eq_true rfl) rfl (fun hh hle hnm X => ?_)
  unfold fm_Typing_shapeOf at hM
  refine g_aload_n X 0 rfl d_Typing_shapeOf_0 ?_
  refine g_iload_n X 1 rfl d_Typing_shapeOf_1 ?_
  refine g_callV_i X ck_8 ho (fa_xn ho (by decide) hN) rfl mi_Typing_isArrow (c_Typing_isArrow hN hT o a1 ho w _ rfl) wd_502 rfl (Nat.le_trans (Nat.le_of_ble_eq_true rfl) hle) (st := []) (Nat.le_of_ble_eq_true rfl) rfl d_Typing_shapeOf_2 ?_
  refine g_ifb_ne X 10 d_Typing_shapeOf_5 (by decide) (fun hc2 => ?_) (fun hc2 => ?_)
  · have hM := fa_ifb_t hM hc2
    refine g_aload_n X 0 rfl d_Typing_shapeOf_10 ?_
    refine g_get X ck_8 ho (fa_xn ho (by decide) hN) 3 (by decide) wd_296 rfl (fa_fvR rfl (fa_xt ho (by decide) hT 3)) d_Typing_shapeOf_11 ?_
    refine g_aload_n X 0 rfl d_Typing_shapeOf_14 ?_
    refine g_aload_n X 0 rfl d_Typing_shapeOf_15 ?_
    refine g_get X ck_8 ho (fa_xn ho (by decide) hN) 1 (by decide) wd_294 rfl (fa_fvR rfl (fa_xt ho (by decide) hT 1)) d_Typing_shapeOf_16 ?_
    refine g_iload_n X 1 rfl d_Typing_shapeOf_19 ?_
    refine g_callV_i X ck_6 (fa_r8_1 _ ho) (fa_xn (fa_r8_1 _ ho) (by decide) hN) rfl mi_Row_at (ct_Row_at (fa_rf o 1) a1 (fa_ro (fa_r8_1 _ ho) hN hT) w _ rfl) wd_458 rfl (Nat.le_trans (Nat.le_of_ble_eq_true rfl) hle) (st := [.ref (b + o), .ref (b + (fa_rf o 3))]) (Nat.le_of_ble_eq_true rfl) rfl d_Typing_shapeOf_20 ?_
    obtain ⟨v5, e4, hM⟩ := fa_ob hM
    refine g_callV_i X ck_8 ho (fa_xn ho (by decide) hN) rfl mi_Typing_root (c_Typing_root hN hT o (fr_at (fa_rf o 1) a1 w) ho w _ e4) wd_493 rfl (Nat.le_trans (Nat.le_of_ble_eq_true rfl) hle) (st := [.ref (b + (fa_rf o 3))]) (Nat.le_of_ble_eq_true rfl) rfl d_Typing_shapeOf_23 ?_
    refine g_callV_i X ck_6 (fa_r8_3 _ ho) (fa_xn (fa_r8_3 _ ho) (by decide) hN) rfl mi_Row_at (ct_Row_at (fa_rf o 3) v5 (fa_ro (fa_r8_3 _ ho) hN hT) w _ rfl) wd_458 rfl (Nat.le_trans (Nat.le_of_ble_eq_true rfl) hle) (st := []) (Nat.le_of_ble_eq_true rfl) rfl d_Typing_shapeOf_26 ?_
    refine g_istore_n X (fun x2_7 => [(2, .int (fa_I x2_7)), (0, .ref (b + o)), (1, .int (fa_I a1))]) d_Typing_shapeOf_29 (by decide) (fun _ => rfl) (fun x2_7 ex2_7 => ?_)
    have hM := fa_let_to hM ex2_7
    refine g_aload_n X 1 rfl d_Typing_shapeOf_30 ?_
    refine g_get X ck_8 ho (fa_xn ho (by decide) hN) 3 (by decide) wd_296 rfl (fa_fvR rfl (fa_xt ho (by decide) hT 3)) d_Typing_shapeOf_31 ?_
    refine g_aload_n X 1 rfl d_Typing_shapeOf_34 ?_
    refine g_aload_n X 1 rfl d_Typing_shapeOf_35 ?_
    refine g_get X ck_8 ho (fa_xn ho (by decide) hN) 2 (by decide) wd_295 rfl (fa_fvR rfl (fa_xt ho (by decide) hT 2)) d_Typing_shapeOf_36 ?_
    refine g_iload_n X 2 rfl d_Typing_shapeOf_39 ?_
    refine g_callV_i X ck_6 (fa_r8_2 _ ho) (fa_xn (fa_r8_2 _ ho) (by decide) hN) rfl mi_Row_at (ct_Row_at (fa_rf o 2) a1 (fa_ro (fa_r8_2 _ ho) hN hT) w _ rfl) wd_458 rfl (Nat.le_trans (Nat.le_of_ble_eq_true rfl) hle) (st := [.ref (b + o), .ref (b + (fa_rf o 3))]) (Nat.le_of_ble_eq_true rfl) rfl d_Typing_shapeOf_40 ?_
    obtain ⟨v10, e9, hM⟩ := fa_ob hM
    refine g_callV_i X ck_8 ho (fa_xn ho (by decide) hN) rfl mi_Typing_root (c_Typing_root hN hT o (fr_at (fa_rf o 2) a1 w) ho w _ e9) wd_493 rfl (Nat.le_trans (Nat.le_of_ble_eq_true rfl) hle) (st := [.ref (b + (fa_rf o 3))]) (Nat.le_of_ble_eq_true rfl) rfl d_Typing_shapeOf_43 ?_
    refine g_callV_i X ck_6 (fa_r8_3 _ ho) (fa_xn (fa_r8_3 _ ho) (by decide) hN) rfl mi_Row_at (ct_Row_at (fa_rf o 3) v10 (fa_ro (fa_r8_3 _ ho) hN hT) w _ rfl) wd_458 rfl (Nat.le_trans (Nat.le_of_ble_eq_true rfl) hle) (st := []) (Nat.le_of_ble_eq_true rfl) rfl d_Typing_shapeOf_46 ?_
    refine g_istore_n X (fun x3_12 => [(3, .int (fa_I x3_12)), (2, .int (fa_I x2_7)), (0, .ref (b + o)), (1, .int (fa_I a1))]) d_Typing_shapeOf_49 (by decide) (fun _ => rfl) (fun x3_12 ex3_12 => ?_)
    have hM := fa_let_to hM ex3_12
    refine g_iload_n X 1 rfl d_Typing_shapeOf_50 ?_
    refine g_iconst X d_Typing_shapeOf_51 ?_
    refine g_icmp_eq X 60 d_Typing_shapeOf_52 (by decide) (fun hc13 => ?_) (fun hc13 => ?_)
    · have hM := fa_if_t hM hc13
      refine g_iconst X d_Typing_shapeOf_60 ?_
      cases hM
      exact g_iret X d_Typing_shapeOf_61
    · have hM := fa_if_f hM hc13
      refine g_iload_n X 0 rfl d_Typing_shapeOf_55 ?_
      refine g_iconst X d_Typing_shapeOf_56 ?_
      refine g_icmp_ne X 62 d_Typing_shapeOf_57 (by decide) (fun hc14 => ?_) (fun hc14 => ?_)
      · have hM := fa_if_f hM hc14
        refine g_iconst X d_Typing_shapeOf_62 ?_
        refine g_istorec X [(4, .int (fa_I 0)), (3, .int (fa_I x3_12)), (2, .int (fa_I x2_7)), (0, .ref (b + o)), (1, .int (fa_I a1))] d_Typing_shapeOf_63 (by decide) rfl ?_
        exact g_lv [3, 4, 2, 1, 0] rfl (c_Typing_shapeOf_l65 X hle hN hT o a1 ho w  fa_FU _ _ _ hM)
      · have hM := fa_if_t hM hc14
        refine g_iconst X d_Typing_shapeOf_60 ?_
        cases hM
        exact g_iret X d_Typing_shapeOf_61
  · have hM := fa_ifb_f hM hc2
    refine g_iload_n X 1 rfl d_Typing_shapeOf_8 ?_
    cases hM
    exact g_iret X d_Typing_shapeOf_9
theorem d_Typing_nameShapes_0 : decode prog_9_method_14_code 0 = .ok (.aload_n 0, 1) := by decide +kernel
theorem d_Typing_nameShapes_1 : decode prog_9_method_14_code 1 = .ok (.getfield 26, 3) := by decide +kernel
theorem d_Typing_nameShapes_4 : decode prog_9_method_14_code 4 = .ok (.aload_n 0, 1) := by decide +kernel
theorem d_Typing_nameShapes_5 : decode prog_9_method_14_code 5 = .ok (.getfield 14, 3) := by decide +kernel
theorem d_Typing_nameShapes_8 : decode prog_9_method_14_code 8 = .ok (.invokevirtual 93, 3) := by decide +kernel
theorem d_Typing_nameShapes_11 : decode prog_9_method_14_code 11 = .ok (.iconst (-1), 1) := by decide +kernel
theorem d_Typing_nameShapes_12 : decode prog_9_method_14_code 12 = .ok (.invokevirtual 122, 3) := by decide +kernel
theorem d_Typing_nameShapes_15 : decode prog_9_method_14_code 15 = .ok (.iconst 1, 1) := by decide +kernel
theorem d_Typing_nameShapes_16 : decode prog_9_method_14_code 16 = .ok (.istore_n 1, 1) := by decide +kernel
theorem d_Typing_nameShapes_17 : decode prog_9_method_14_code 17 = .ok (.iconst 0, 1) := by decide +kernel
theorem d_Typing_nameShapes_18 : decode prog_9_method_14_code 18 = .ok (.istore_n 2, 1) := by decide +kernel
theorem d_Typing_nameShapes_19 : decode prog_9_method_14_code 19 = .ok (.iload_n 2, 1) := by decide +kernel
theorem d_Typing_nameShapes_20 : decode prog_9_method_14_code 20 = .ok (.ldc 108, 2) := by decide +kernel
theorem d_Typing_nameShapes_22 : decode prog_9_method_14_code 22 = .ok (.if_icmp .ge 93, 3) := by decide +kernel
theorem d_Typing_nameShapes_25 : decode prog_9_method_14_code 25 = .ok (.iload_n 1, 1) := by decide +kernel
theorem d_Typing_nameShapes_26 : decode prog_9_method_14_code 26 = .ok (.ifCond .eq 89, 3) := by decide +kernel
theorem d_Typing_nameShapes_29 : decode prog_9_method_14_code 29 = .ok (.iconst 0, 1) := by decide +kernel
theorem d_Typing_nameShapes_30 : decode prog_9_method_14_code 30 = .ok (.istore_n 1, 1) := by decide +kernel
theorem d_Typing_nameShapes_31 : decode prog_9_method_14_code 31 = .ok (.iconst 0, 1) := by decide +kernel
theorem d_Typing_nameShapes_32 : decode prog_9_method_14_code 32 = .ok (.istore_n 3, 1) := by decide +kernel
theorem d_Typing_nameShapes_33 : decode prog_9_method_14_code 33 = .ok (.iload_n 3, 1) := by decide +kernel
theorem d_Typing_nameShapes_34 : decode prog_9_method_14_code 34 = .ok (.aload_n 0, 1) := by decide +kernel
theorem d_Typing_nameShapes_35 : decode prog_9_method_14_code 35 = .ok (.getfield 14, 3) := by decide +kernel
theorem d_Typing_nameShapes_38 : decode prog_9_method_14_code 38 = .ok (.invokevirtual 93, 3) := by decide +kernel
theorem d_Typing_nameShapes_41 : decode prog_9_method_14_code 41 = .ok (.if_icmp .ge 68, 3) := by decide +kernel
theorem d_Typing_nameShapes_44 : decode prog_9_method_14_code 44 = .ok (.aload_n 0, 1) := by decide +kernel
theorem d_Typing_nameShapes_45 : decode prog_9_method_14_code 45 = .ok (.getfield 14, 3) := by decide +kernel
theorem d_Typing_nameShapes_48 : decode prog_9_method_14_code 48 = .ok (.iload_n 3, 1) := by decide +kernel
theorem d_Typing_nameShapes_49 : decode prog_9_method_14_code 49 = .ok (.invokevirtual 66, 3) := by decide +kernel
theorem d_Typing_nameShapes_52 : decode prog_9_method_14_code 52 = .ok (.iload_n 3, 1) := by decide +kernel
theorem d_Typing_nameShapes_53 : decode prog_9_method_14_code 53 = .ok (.if_icmp .ne 50, 3) := by decide +kernel
theorem d_Typing_nameShapes_56 : decode prog_9_method_14_code 56 = .ok (.aload_n 0, 1) := by decide +kernel
theorem d_Typing_nameShapes_57 : decode prog_9_method_14_code 57 = .ok (.getfield 26, 3) := by decide +kernel
theorem d_Typing_nameShapes_60 : decode prog_9_method_14_code 60 = .ok (.iload_n 3, 1) := by decide +kernel
theorem d_Typing_nameShapes_61 : decode prog_9_method_14_code 61 = .ok (.invokevirtual 66, 3) := by decide +kernel
theorem d_Typing_nameShapes_64 : decode prog_9_method_14_code 64 = .ok (.iconst (-1), 1) := by decide +kernel
theorem d_Typing_nameShapes_65 : decode prog_9_method_14_code 65 = .ok (.if_icmp .ne 38, 3) := by decide +kernel
theorem d_Typing_nameShapes_68 : decode prog_9_method_14_code 68 = .ok (.aload_n 0, 1) := by decide +kernel
theorem d_Typing_nameShapes_69 : decode prog_9_method_14_code 69 = .ok (.getfield 26, 3) := by decide +kernel
theorem d_Typing_nameShapes_72 : decode prog_9_method_14_code 72 = .ok (.iload_n 3, 1) := by decide +kernel
theorem d_Typing_nameShapes_73 : decode prog_9_method_14_code 73 = .ok (.aload_n 0, 1) := by decide +kernel
theorem d_Typing_nameShapes_74 : decode prog_9_method_14_code 74 = .ok (.iload_n 3, 1) := by decide +kernel
theorem d_Typing_nameShapes_75 : decode prog_9_method_14_code 75 = .ok (.invokevirtual 125, 3) := by decide +kernel
theorem d_Typing_nameShapes_78 : decode prog_9_method_14_code 78 = .ok (.invokevirtual 116, 3) := by decide +kernel
theorem d_Typing_nameShapes_81 : decode prog_9_method_14_code 81 = .ok (.iload_n 1, 1) := by decide +kernel
theorem d_Typing_nameShapes_82 : decode prog_9_method_14_code 82 = .ok (.ifCond .ne 15, 3) := by decide +kernel
theorem d_Typing_nameShapes_85 : decode prog_9_method_14_code 85 = .ok (.aload_n 0, 1) := by decide +kernel
theorem d_Typing_nameShapes_86 : decode prog_9_method_14_code 86 = .ok (.getfield 26, 3) := by decide +kernel
theorem d_Typing_nameShapes_89 : decode prog_9_method_14_code 89 = .ok (.iload_n 3, 1) := by decide +kernel
theorem d_Typing_nameShapes_90 : decode prog_9_method_14_code 90 = .ok (.invokevirtual 66, 3) := by decide +kernel
theorem d_Typing_nameShapes_93 : decode prog_9_method_14_code 93 = .ok (.iconst (-1), 1) := by decide +kernel
theorem d_Typing_nameShapes_94 : decode prog_9_method_14_code 94 = .ok (.if_icmp .eq 7, 3) := by decide +kernel
theorem d_Typing_nameShapes_97 : decode prog_9_method_14_code 97 = .ok (.iconst 1, 1) := by decide +kernel
theorem d_Typing_nameShapes_98 : decode prog_9_method_14_code 98 = .ok (.goto 4, 3) := by decide +kernel
theorem d_Typing_nameShapes_101 : decode prog_9_method_14_code 101 = .ok (.iconst 0, 1) := by decide +kernel
theorem d_Typing_nameShapes_102 : decode prog_9_method_14_code 102 = .ok (.istore_n 1, 1) := by decide +kernel
theorem d_Typing_nameShapes_103 : decode prog_9_method_14_code 103 = .ok (.iinc 3 1, 3) := by decide +kernel
theorem d_Typing_nameShapes_106 : decode prog_9_method_14_code 106 = .ok (.goto (-73), 3) := by decide +kernel
theorem d_Typing_nameShapes_109 : decode prog_9_method_14_code 109 = .ok (.iinc 2 1, 3) := by decide +kernel
theorem d_Typing_nameShapes_112 : decode prog_9_method_14_code 112 = .ok (.goto (-93), 3) := by decide +kernel
theorem d_Typing_nameShapes_115 : decode prog_9_method_14_code 115 = .ok (.iconst 0, 1) := by decide +kernel
theorem d_Typing_nameShapes_116 : decode prog_9_method_14_code 116 = .ok (.istore_n 2, 1) := by decide +kernel
theorem d_Typing_nameShapes_117 : decode prog_9_method_14_code 117 = .ok (.iload_n 2, 1) := by decide +kernel
theorem d_Typing_nameShapes_118 : decode prog_9_method_14_code 118 = .ok (.aload_n 0, 1) := by decide +kernel
theorem d_Typing_nameShapes_119 : decode prog_9_method_14_code 119 = .ok (.getfield 14, 3) := by decide +kernel
theorem d_Typing_nameShapes_122 : decode prog_9_method_14_code 122 = .ok (.invokevirtual 93, 3) := by decide +kernel
theorem d_Typing_nameShapes_125 : decode prog_9_method_14_code 125 = .ok (.if_icmp .ge 35, 3) := by decide +kernel
theorem d_Typing_nameShapes_128 : decode prog_9_method_14_code 128 = .ok (.aload_n 0, 1) := by decide +kernel
theorem d_Typing_nameShapes_129 : decode prog_9_method_14_code 129 = .ok (.getfield 14, 3) := by decide +kernel
theorem d_Typing_nameShapes_132 : decode prog_9_method_14_code 132 = .ok (.iload_n 2, 1) := by decide +kernel
theorem d_Typing_nameShapes_133 : decode prog_9_method_14_code 133 = .ok (.invokevirtual 66, 3) := by decide +kernel
theorem d_Typing_nameShapes_136 : decode prog_9_method_14_code 136 = .ok (.iload_n 2, 1) := by decide +kernel
theorem d_Typing_nameShapes_137 : decode prog_9_method_14_code 137 = .ok (.if_icmp .ne 17, 3) := by decide +kernel
theorem d_Typing_nameShapes_140 : decode prog_9_method_14_code 140 = .ok (.aload_n 0, 1) := by decide +kernel
theorem d_Typing_nameShapes_141 : decode prog_9_method_14_code 141 = .ok (.getfield 26, 3) := by decide +kernel
theorem d_Typing_nameShapes_144 : decode prog_9_method_14_code 144 = .ok (.iload_n 2, 1) := by decide +kernel
theorem d_Typing_nameShapes_145 : decode prog_9_method_14_code 145 = .ok (.invokevirtual 66, 3) := by decide +kernel
theorem d_Typing_nameShapes_148 : decode prog_9_method_14_code 148 = .ok (.iconst (-1), 1) := by decide +kernel
theorem d_Typing_nameShapes_149 : decode prog_9_method_14_code 149 = .ok (.if_icmp .ne 5, 3) := by decide +kernel
theorem d_Typing_nameShapes_152 : decode prog_9_method_14_code 152 = .ok (.iconst 0, 1) := by decide +kernel
theorem d_Typing_nameShapes_153 : decode prog_9_method_14_code 153 = .ok (.ireturn, 1) := by decide +kernel
theorem d_Typing_nameShapes_154 : decode prog_9_method_14_code 154 = .ok (.iinc 2 1, 3) := by decide +kernel
theorem d_Typing_nameShapes_157 : decode prog_9_method_14_code 157 = .ok (.goto (-40), 3) := by decide +kernel
theorem d_Typing_nameShapes_160 : decode prog_9_method_14_code 160 = .ok (.iconst 1, 1) := by decide +kernel
theorem d_Typing_nameShapes_161 : decode prog_9_method_14_code 161 = .ok (.ireturn, 1) := by decide +kernel
def fm_Typing_nameShapes_l117 (o : Nat) : Nat → Int → fa_W → Option (Bool × fa_W)
  | 0, _, _ => none
  | n + 1, x2, w => if fa_wr (fm_Row_size (fa_rf o 0) w) ≤ fa_wr x2 then
  some (true, w)
  else
  (if fa_wr (fr_at (fa_rf o 0) x2 w) = fa_wr x2 then
  (if fa_wr (fr_at (fa_rf o 3) x2 w) = (-1) then
  some (false, w)
  else
  (fa_let (x2 + 1) fun x2_12 =>
  fm_Typing_nameShapes_l117 o n x2_12 w))
  else
  (fa_let (x2 + 1) fun x2_9 =>
  fm_Typing_nameShapes_l117 o n x2_9 w))
set_option maxHeartbeats 4000000 in
set_option maxRecDepth 100000 in
theorem c_Typing_nameShapes_l117 {p : Program} {l : Launch} {e : Env} {s : State} {m : MethodId} {args : Array Value} {below : List Frame} {meth : Method} {c : Code} {hh : Nat} {D : va_G} {b : Nat} {aC : Nat → ClassId} {H0 : Heap} {N T : Nat} (X : fa_GX p s m args meth c prog_9_method_14_code 4 ((Option.some Jvm.ClassFile.FieldType.boolean)) y_Typing_nameShapes.cls D b aC) (hle : 3 ≤ hh) (hN : fa_NX ≤ N) (hT : fa_TX ≤ T) (o : Nat) (ho : (fa_sh o).1 = 8) {r : Bool × fa_W}  : ∀ (n : Nat) (x2 : Int) (w : fa_W), fm_Typing_nameShapes_l117 o n x2 w = some r → fa_GJ p l e (fa_rm hh) s m args below meth c 0 0 (MQ below (fa_Qc D b aC H0 N T (some (.int (fa_I (fa_bi r.1)))) r.2) args s 0 0 (fun q => b ≤ q)) D b aC H0 N T 4 w 117 [(0, .ref (b + o)), (2, .int (fa_I x2))] [] := by
  intro n
  induction n with
  | zero => intro x2 w hM; exact fa_no hM
  | succ n ih =>
    intro x2 w hM
    rw [fm_Typing_nameShapes_l117] at hM
    refine g_iload_n X 1 rfl d_Typing_nameShapes_117 ?_
    refine g_aload_n X 0 rfl d_Typing_nameShapes_118 ?_
    refine g_get X ck_8 ho (fa_xn ho (by decide) hN) 0 (by decide) wd_293 rfl (fa_fvR rfl (fa_xt ho (by decide) hT 0)) d_Typing_nameShapes_119 ?_
    refine g_callV_i X ck_6 (fa_r8_0 _ ho) (fa_xn (fa_r8_0 _ ho) (by decide) hN) rfl mi_Row_size (c_Row_size (fa_rf o 0) (fa_ro (fa_r8_0 _ ho) hN hT) w _ rfl) wd_456 rfl (Nat.le_trans (Nat.le_of_ble_eq_true rfl) hle) (st := [.int (fa_I x2)]) (Nat.le_of_ble_eq_true rfl) rfl d_Typing_nameShapes_122 ?_
    refine g_icmp_ge X 160 d_Typing_nameShapes_125 (by decide) (fun hc6 => ?_) (fun hc6 => ?_)
    · have hM := fa_if_t hM hc6
      refine g_iconst X d_Typing_nameShapes_160 ?_
      cases hM
      exact g_zret X rfl d_Typing_nameShapes_161
    · have hM := fa_if_f hM hc6
      refine g_aload_n X 0 rfl d_Typing_nameShapes_128 ?_
      refine g_get X ck_8 ho (fa_xn ho (by decide) hN) 0 (by decide) wd_293 rfl (fa_fvR rfl (fa_xt ho (by decide) hT 0)) d_Typing_nameShapes_129 ?_
      refine g_iload_n X 1 rfl d_Typing_nameShapes_132 ?_
      refine g_callV_i X ck_6 (fa_r8_0 _ ho) (fa_xn (fa_r8_0 _ ho) (by decide) hN) rfl mi_Row_at (ct_Row_at (fa_rf o 0) x2 (fa_ro (fa_r8_0 _ ho) hN hT) w _ rfl) wd_458 rfl (Nat.le_trans (Nat.le_of_ble_eq_true rfl) hle) (st := []) (Nat.le_of_ble_eq_true rfl) rfl d_Typing_nameShapes_133 ?_
      refine g_iload_n X 1 rfl d_Typing_nameShapes_136 ?_
      refine g_icmp_ne X 154 d_Typing_nameShapes_137 (by decide) (fun hc8 => ?_) (fun hc8 => ?_)
      · have hM := fa_if_f hM hc8
        refine g_iinc X 1 (fun x2_9 => [(2, .int (fa_I x2_9)), (0, .ref (b + o))]) d_Typing_nameShapes_154 rfl (by decide) (fun _ => rfl) (fun x2_9 ex2_9 => ?_)
        have hM := fa_let_to hM ex2_9
        refine g_goto X 117 d_Typing_nameShapes_157 (by decide) ?_
        exact g_lv [1, 0] rfl (ih _ _ hM)
      · have hM := fa_if_t hM hc8
        refine g_aload_n X 0 rfl d_Typing_nameShapes_140 ?_
        refine g_get X ck_8 ho (fa_xn ho (by decide) hN) 3 (by decide) wd_296 rfl (fa_fvR rfl (fa_xt ho (by decide) hT 3)) d_Typing_nameShapes_141 ?_
        refine g_iload_n X 1 rfl d_Typing_nameShapes_144 ?_
        refine g_callV_i X ck_6 (fa_r8_3 _ ho) (fa_xn (fa_r8_3 _ ho) (by decide) hN) rfl mi_Row_at (ct_Row_at (fa_rf o 3) x2 (fa_ro (fa_r8_3 _ ho) hN hT) w _ rfl) wd_458 rfl (Nat.le_trans (Nat.le_of_ble_eq_true rfl) hle) (st := []) (Nat.le_of_ble_eq_true rfl) rfl d_Typing_nameShapes_145 ?_
        refine g_iconst X d_Typing_nameShapes_148 ?_
        refine g_icmp_ne X 154 d_Typing_nameShapes_149 (by decide) (fun hc11 => ?_) (fun hc11 => ?_)
        · have hM := fa_if_f hM hc11
          refine g_iinc X 1 (fun x2_12 => [(2, .int (fa_I x2_12)), (0, .ref (b + o))]) d_Typing_nameShapes_154 rfl (by decide) (fun _ => rfl) (fun x2_12 ex2_12 => ?_)
          have hM := fa_let_to hM ex2_12
          refine g_goto X 117 d_Typing_nameShapes_157 (by decide) ?_
          exact g_lv [1, 0] rfl (ih _ _ hM)
        · have hM := fa_if_t hM hc11
          refine g_iconst X d_Typing_nameShapes_152 ?_
          cases hM
          exact g_zret X rfl d_Typing_nameShapes_153
def fm_Typing_nameShapes_l33 (o : Nat) (k19 : Bool → Int → fa_W → Option (Bool × fa_W)) : Nat → Bool → Int → Int → fa_W → Option (Bool × fa_W)
  | 0, _, _, _, _ => none
  | n + 1, x1, x2, x3, w => if fa_wr (fm_Row_size (fa_rf o 0) w) ≤ fa_wr x3 then
  (fa_let (x2 + 1) fun x2_16 =>
  k19 x1 x2_16 w)
  else
  (if fa_wr (fr_at (fa_rf o 0) x3 w) = fa_wr x3 then
  (if fa_wr (fr_at (fa_rf o 3) x3 w) = (-1) then
  ((fm_Typing_shapeOf o x3 w).bind fun v24 =>
  fa_let (fr_set (fa_rf o 3) x3 v24 w) fun w26 =>
  if x1 = true then
  (fa_let (x3 + 1) fun x3_28 =>
  fm_Typing_nameShapes_l33 o k19 n true x2 x3_28 w26)
  else
  (if fa_wr (fr_at (fa_rf o 3) x3 w26) = (-1) then
  (fa_let (x3 + 1) fun x3_31 =>
  fm_Typing_nameShapes_l33 o k19 n false x2 x3_31 w26)
  else
  (fa_let (x3 + 1) fun x3_32 =>
  fm_Typing_nameShapes_l33 o k19 n true x2 x3_32 w26)))
  else
  (fa_let (x3 + 1) fun x3_22 =>
  fm_Typing_nameShapes_l33 o k19 n x1 x2 x3_22 w))
  else
  (fa_let (x3 + 1) fun x3_19 =>
  fm_Typing_nameShapes_l33 o k19 n x1 x2 x3_19 w))
set_option maxHeartbeats 4000000 in
set_option maxRecDepth 100000 in
theorem c_Typing_nameShapes_l33 {p : Program} {l : Launch} {e : Env} {s : State} {m : MethodId} {args : Array Value} {below : List Frame} {meth : Method} {c : Code} {hh : Nat} {D : va_G} {b : Nat} {aC : Nat → ClassId} {H0 : Heap} {N T : Nat} (X : fa_GX p s m args meth c prog_9_method_14_code 4 ((Option.some Jvm.ClassFile.FieldType.boolean)) y_Typing_nameShapes.cls D b aC) (hle : 3 ≤ hh) (hN : fa_NX ≤ N) (hT : fa_TX ≤ T) (o : Nat) (ho : (fa_sh o).1 = 8) {r : Bool × fa_W} (k19 : Bool → Int → fa_W → Option (Bool × fa_W)) (K19 : ∀ (x1 : Bool) (x2 : Int) (w : fa_W), k19 x1 x2 w = some r → fa_GJ p l e (fa_rm hh) s m args below meth c 0 0 (MQ below (fa_Qc D b aC H0 N T (some (.int (fa_I (fa_bi r.1)))) r.2) args s 0 0 (fun q => b ≤ q)) D b aC H0 N T 4 w 19 [(0, .ref (b + o)), (1, .int (fa_I (fa_bi x1))), (2, .int (fa_I x2))] []) : ∀ (n : Nat) (x1 : Bool) (x2 : Int) (x3 : Int) (w : fa_W), fm_Typing_nameShapes_l33 o k19 n x1 x2 x3 w = some r → fa_GJ p l e (fa_rm hh) s m args below meth c 0 0 (MQ below (fa_Qc D b aC H0 N T (some (.int (fa_I (fa_bi r.1)))) r.2) args s 0 0 (fun q => b ≤ q)) D b aC H0 N T 4 w 33 [(0, .ref (b + o)), (1, .int (fa_I (fa_bi x1))), (2, .int (fa_I x2)), (3, .int (fa_I x3))] [] := by
  intro n
  induction n with
  | zero => intro x1 x2 x3 w hM; exact fa_no hM
  | succ n ih =>
    intro x1 x2 x3 w hM
    rw [fm_Typing_nameShapes_l33] at hM
    refine g_iload_n X 3 rfl d_Typing_nameShapes_33 ?_
    refine g_aload_n X 0 rfl d_Typing_nameShapes_34 ?_
    refine g_get X ck_8 ho (fa_xn ho (by decide) hN) 0 (by decide) wd_293 rfl (fa_fvR rfl (fa_xt ho (by decide) hT 0)) d_Typing_nameShapes_35 ?_
    refine g_callV_i X ck_6 (fa_r8_0 _ ho) (fa_xn (fa_r8_0 _ ho) (by decide) hN) rfl mi_Row_size (c_Row_size (fa_rf o 0) (fa_ro (fa_r8_0 _ ho) hN hT) w _ rfl) wd_456 rfl (Nat.le_trans (Nat.le_of_ble_eq_true rfl) hle) (st := [.int (fa_I x3)]) (Nat.le_of_ble_eq_true rfl) rfl d_Typing_nameShapes_38 ?_
    refine g_icmp_ge X 109 d_Typing_nameShapes_41 (by decide) (fun hc15 => ?_) (fun hc15 => ?_)
    · have hM := fa_if_t hM hc15
      refine g_iinc X 2 (fun x2_16 => [(2, .int (fa_I x2_16)), (0, .ref (b + o)), (1, .int (fa_I (fa_bi x1))), (3, .int (fa_I x3))]) d_Typing_nameShapes_109 rfl (by decide) (fun _ => rfl) (fun x2_16 ex2_16 => ?_)
      have hM := fa_let_to hM ex2_16
      refine g_goto X 19 d_Typing_nameShapes_112 (by decide) ?_
      exact g_lv [1, 2, 0] rfl (K19 _ _ _ hM)
    · have hM := fa_if_f hM hc15
      refine g_aload_n X 0 rfl d_Typing_nameShapes_44 ?_
      refine g_get X ck_8 ho (fa_xn ho (by decide) hN) 0 (by decide) wd_293 rfl (fa_fvR rfl (fa_xt ho (by decide) hT 0)) d_Typing_nameShapes_45 ?_
      refine g_iload_n X 3 rfl d_Typing_nameShapes_48 ?_
      refine g_callV_i X ck_6 (fa_r8_0 _ ho) (fa_xn (fa_r8_0 _ ho) (by decide) hN) rfl mi_Row_at (ct_Row_at (fa_rf o 0) x3 (fa_ro (fa_r8_0 _ ho) hN hT) w _ rfl) wd_458 rfl (Nat.le_trans (Nat.le_of_ble_eq_true rfl) hle) (st := []) (Nat.le_of_ble_eq_true rfl) rfl d_Typing_nameShapes_49 ?_
      refine g_iload_n X 3 rfl d_Typing_nameShapes_52 ?_
      refine g_icmp_ne X 103 d_Typing_nameShapes_53 (by decide) (fun hc18 => ?_) (fun hc18 => ?_)
      · have hM := fa_if_f hM hc18
        refine g_iinc X 3 (fun x3_19 => [(3, .int (fa_I x3_19)), (0, .ref (b + o)), (1, .int (fa_I (fa_bi x1))), (2, .int (fa_I x2))]) d_Typing_nameShapes_103 rfl (by decide) (fun _ => rfl) (fun x3_19 ex3_19 => ?_)
        have hM := fa_let_to hM ex3_19
        refine g_goto X 33 d_Typing_nameShapes_106 (by decide) ?_
        exact g_lv [1, 2, 3, 0] rfl (ih _ _ _ _ hM)
      · have hM := fa_if_t hM hc18
        refine g_aload_n X 0 rfl d_Typing_nameShapes_56 ?_
        refine g_get X ck_8 ho (fa_xn ho (by decide) hN) 3 (by decide) wd_296 rfl (fa_fvR rfl (fa_xt ho (by decide) hT 3)) d_Typing_nameShapes_57 ?_
        refine g_iload_n X 3 rfl d_Typing_nameShapes_60 ?_
        refine g_callV_i X ck_6 (fa_r8_3 _ ho) (fa_xn (fa_r8_3 _ ho) (by decide) hN) rfl mi_Row_at (ct_Row_at (fa_rf o 3) x3 (fa_ro (fa_r8_3 _ ho) hN hT) w _ rfl) wd_458 rfl (Nat.le_trans (Nat.le_of_ble_eq_true rfl) hle) (st := []) (Nat.le_of_ble_eq_true rfl) rfl d_Typing_nameShapes_61 ?_
        refine g_iconst X d_Typing_nameShapes_64 ?_
        refine g_icmp_ne X 103 d_Typing_nameShapes_65 (by decide) (fun hc21 => ?_) (fun hc21 => ?_)
        · have hM := fa_if_f hM hc21
          refine g_iinc X 3 (fun x3_22 => [(3, .int (fa_I x3_22)), (0, .ref (b + o)), (1, .int (fa_I (fa_bi x1))), (2, .int (fa_I x2))]) d_Typing_nameShapes_103 rfl (by decide) (fun _ => rfl) (fun x3_22 ex3_22 => ?_)
          have hM := fa_let_to hM ex3_22
          refine g_goto X 33 d_Typing_nameShapes_106 (by decide) ?_
          exact g_lv [1, 2, 3, 0] rfl (ih _ _ _ _ hM)
        · have hM := fa_if_t hM hc21
          refine g_aload_n X 0 rfl d_Typing_nameShapes_68 ?_
          refine g_get X ck_8 ho (fa_xn ho (by decide) hN) 3 (by decide) wd_296 rfl (fa_fvR rfl (fa_xt ho (by decide) hT 3)) d_Typing_nameShapes_69 ?_
          refine g_iload_n X 3 rfl d_Typing_nameShapes_72 ?_
          refine g_aload_n X 0 rfl d_Typing_nameShapes_73 ?_
          refine g_iload_n X 3 rfl d_Typing_nameShapes_74 ?_
          obtain ⟨v24, e23, hM⟩ := fa_ob hM
          refine g_callV_i X ck_8 ho (fa_xn ho (by decide) hN) rfl mi_Typing_shapeOf (c_Typing_shapeOf hN hT o x3 ho w _ e23) wd_511 rfl (Nat.le_trans (Nat.le_of_ble_eq_true rfl) hle) (st := [.int (fa_I x3), .ref (b + (fa_rf o 3))]) (Nat.le_of_ble_eq_true rfl) rfl d_Typing_nameShapes_75 ?_
          obtain ⟨w26, e25⟩ : ∃ q, fr_set (fa_rf o 3) x3 v24 w = q := ⟨_, rfl⟩
          have hM := fa_let_to hM e25.symm
          refine g_callV_v X ck_6 (fa_r8_3 _ ho) (fa_xn (fa_r8_3 _ ho) (by decide) hN) rfl mi_Row_set (ct_Row_set (fa_rf o 3) x3 v24 (fa_ro (fa_r8_3 _ ho) hN hT) w _ e25) wd_501 rfl (Nat.le_trans (Nat.le_of_ble_eq_true rfl) hle) (st := []) (Nat.le_of_ble_eq_true rfl) rfl d_Typing_nameShapes_78 ?_
          refine g_iload_n X 1 rfl d_Typing_nameShapes_81 ?_
          refine g_ifb_ne X 97 d_Typing_nameShapes_82 (by decide) (fun hc27 => ?_) (fun hc27 => ?_)
          · have hM := fa_ifb_t hM hc27
            refine g_iconst X d_Typing_nameShapes_97 ?_
            refine g_goto X 102 d_Typing_nameShapes_98 (by decide) ?_
            refine g_istorec_n X [(1, .int (fa_I 1)), (0, .ref (b + o)), (2, .int (fa_I x2)), (3, .int (fa_I x3))] d_Typing_nameShapes_102 (by decide) rfl ?_
            refine g_iinc X 3 (fun x3_28 => [(3, .int (fa_I x3_28)), (1, .int (fa_I 1)), (0, .ref (b + o)), (2, .int (fa_I x2))]) d_Typing_nameShapes_103 rfl (by decide) (fun _ => rfl) (fun x3_28 ex3_28 => ?_)
            have hM := fa_let_to hM ex3_28
            refine g_goto X 33 d_Typing_nameShapes_106 (by decide) ?_
            exact g_lv [2, 1, 3, 0] rfl (ih _ _ _ _ hM)
          · have hM := fa_ifb_f hM hc27
            refine g_aload_n X 0 rfl d_Typing_nameShapes_85 ?_
            refine g_get X ck_8 ho (fa_xn ho (by decide) hN) 3 (by decide) wd_296 rfl (fa_fvR rfl (fa_xt ho (by decide) hT 3)) d_Typing_nameShapes_86 ?_
            refine g_iload_n X 3 rfl d_Typing_nameShapes_89 ?_
            refine g_callV_i X ck_6 (fa_r8_3 _ ho) (fa_xn (fa_r8_3 _ ho) (by decide) hN) rfl mi_Row_at (ct_Row_at (fa_rf o 3) x3 (fa_ro (fa_r8_3 _ ho) hN hT) w26 _ rfl) wd_458 rfl (Nat.le_trans (Nat.le_of_ble_eq_true rfl) hle) (st := []) (Nat.le_of_ble_eq_true rfl) rfl d_Typing_nameShapes_90 ?_
            refine g_iconst X d_Typing_nameShapes_93 ?_
            refine g_icmp_eq X 101 d_Typing_nameShapes_94 (by decide) (fun hc30 => ?_) (fun hc30 => ?_)
            · have hM := fa_if_t hM hc30
              refine g_iconst X d_Typing_nameShapes_101 ?_
              refine g_istorec_n X [(1, .int (fa_I 0)), (0, .ref (b + o)), (2, .int (fa_I x2)), (3, .int (fa_I x3))] d_Typing_nameShapes_102 (by decide) rfl ?_
              refine g_iinc X 3 (fun x3_31 => [(3, .int (fa_I x3_31)), (1, .int (fa_I 0)), (0, .ref (b + o)), (2, .int (fa_I x2))]) d_Typing_nameShapes_103 rfl (by decide) (fun _ => rfl) (fun x3_31 ex3_31 => ?_)
              have hM := fa_let_to hM ex3_31
              refine g_goto X 33 d_Typing_nameShapes_106 (by decide) ?_
              exact g_lv [2, 1, 3, 0] rfl (ih _ _ _ _ hM)
            · have hM := fa_if_f hM hc30
              refine g_iconst X d_Typing_nameShapes_97 ?_
              refine g_goto X 102 d_Typing_nameShapes_98 (by decide) ?_
              refine g_istorec_n X [(1, .int (fa_I 1)), (0, .ref (b + o)), (2, .int (fa_I x2)), (3, .int (fa_I x3))] d_Typing_nameShapes_102 (by decide) rfl ?_
              refine g_iinc X 3 (fun x3_32 => [(3, .int (fa_I x3_32)), (1, .int (fa_I 1)), (0, .ref (b + o)), (2, .int (fa_I x2))]) d_Typing_nameShapes_103 rfl (by decide) (fun _ => rfl) (fun x3_32 ex3_32 => ?_)
              have hM := fa_let_to hM ex3_32
              refine g_goto X 33 d_Typing_nameShapes_106 (by decide) ?_
              exact g_lv [2, 1, 3, 0] rfl (ih _ _ _ _ hM)
def fm_Typing_nameShapes_l19 (o : Nat) : Nat → Bool → Int → fa_W → Option (Bool × fa_W)
  | 0, _, _, _ => none
  | n + 1, x1, x2, w => if 1000000 ≤ fa_wr x2 then
  fm_Typing_nameShapes_l117 o fa_FU 0 w
  else
  (if x1 = true then
  fm_Typing_nameShapes_l33 o (fun x1 x2 w9 => fm_Typing_nameShapes_l19 o n x1 x2 w9) fa_FU false x2 0 w
  else
  fm_Typing_nameShapes_l117 o fa_FU 0 w)
set_option maxHeartbeats 4000000 in
set_option maxRecDepth 100000 in
theorem c_Typing_nameShapes_l19 {p : Program} {l : Launch} {e : Env} {s : State} {m : MethodId} {args : Array Value} {below : List Frame} {meth : Method} {c : Code} {hh : Nat} {D : va_G} {b : Nat} {aC : Nat → ClassId} {H0 : Heap} {N T : Nat} (X : fa_GX p s m args meth c prog_9_method_14_code 4 ((Option.some Jvm.ClassFile.FieldType.boolean)) y_Typing_nameShapes.cls D b aC) (hle : 3 ≤ hh) (hN : fa_NX ≤ N) (hT : fa_TX ≤ T) (o : Nat) (ho : (fa_sh o).1 = 8) {r : Bool × fa_W}  : ∀ (n : Nat) (x1 : Bool) (x2 : Int) (w : fa_W), fm_Typing_nameShapes_l19 o n x1 x2 w = some r → fa_GJ p l e (fa_rm hh) s m args below meth c 0 0 (MQ below (fa_Qc D b aC H0 N T (some (.int (fa_I (fa_bi r.1)))) r.2) args s 0 0 (fun q => b ≤ q)) D b aC H0 N T 4 w 19 [(0, .ref (b + o)), (1, .int (fa_I (fa_bi x1))), (2, .int (fa_I x2))] [] := by
  intro n
  induction n with
  | zero => intro x1 x2 w hM; exact fa_no hM
  | succ n ih =>
    intro x1 x2 w hM
    rw [fm_Typing_nameShapes_l19] at hM
    refine g_iload_n X 2 rfl d_Typing_nameShapes_19 ?_
    refine g_ldc X (n := 1000000) wd_483 (by decide) d_Typing_nameShapes_20 ?_
    refine g_icmp_ge X 115 d_Typing_nameShapes_22 (by decide) (fun hc4 => ?_) (fun hc4 => ?_)
    · have hM := fa_if_t hM hc4
      refine g_iconst X d_Typing_nameShapes_115 ?_
      refine g_istorec_n X [(2, .int (fa_I 0)), (0, .ref (b + o)), (1, .int (fa_I (fa_bi x1)))] d_Typing_nameShapes_116 (by decide) rfl ?_
      exact g_lv [1, 0] rfl (c_Typing_nameShapes_l117 X hle hN hT o ho   fa_FU _ _ hM)
    · have hM := fa_if_f hM hc4
      refine g_iload_n X 1 rfl d_Typing_nameShapes_25 ?_
      refine g_ifb_eq X 115 d_Typing_nameShapes_26 (by decide) (fun hc13 => ?_) (fun hc13 => ?_)
      · have hM := fa_ifb_f hM hc13
        refine g_iconst X d_Typing_nameShapes_115 ?_
        refine g_istorec_n X [(2, .int (fa_I 0)), (0, .ref (b + o)), (1, .int (fa_I (fa_bi x1)))] d_Typing_nameShapes_116 (by decide) rfl ?_
        exact g_lv [1, 0] rfl (c_Typing_nameShapes_l117 X hle hN hT o ho   fa_FU _ _ hM)
      · have hM := fa_ifb_t hM hc13
        refine g_iconst X d_Typing_nameShapes_29 ?_
        refine g_istorec_n X [(1, .int (fa_I 0)), (0, .ref (b + o)), (2, .int (fa_I x2))] d_Typing_nameShapes_30 (by decide) rfl ?_
        refine g_iconst X d_Typing_nameShapes_31 ?_
        refine g_istorec_n X [(3, .int (fa_I 0)), (1, .int (fa_I 0)), (0, .ref (b + o)), (2, .int (fa_I x2))] d_Typing_nameShapes_32 (by decide) rfl ?_
        exact g_lv [2, 1, 3, 0] rfl (c_Typing_nameShapes_l33 X hle hN hT o ho  (fun x1 x2 w9 => fm_Typing_nameShapes_l19 o n x1 x2 w9) (fun _ _ _ h => ih _ _ _ h) fa_FU _ _ _ _ hM)
def fm_Typing_nameShapes (o : Nat) (w : fa_W) : Option (Bool × fa_W) :=
  fa_let (fr_refill (fa_rf o 3) (fm_Row_size (fa_rf o 0) w) (-1) w) fun w3 =>
  fm_Typing_nameShapes_l19 o fa_FU true 0 w3
set_option maxHeartbeats 4000000 in
set_option maxRecDepth 100000 in
theorem c_Typing_nameShapes {l : Launch} {D : va_G} {b : Nat} {aC : Nat → ClassId} {H0 : Heap} {N T : Nat} (hN : fa_NX ≤ N) (hT : fa_TX ≤ T) (o : Nat) (ho : (fa_sh o).1 = 8)  (w : fa_W) (r : Bool × fa_W) (hM : fm_Typing_nameShapes o w = some r) : fa_MC l D b aC H0 N T y_Typing_nameShapes prog_9_method_14_code 4 ((Option.some Jvm.ClassFile.FieldType.boolean)) (3) [.ref (b + o)] w (some (.int (fa_I (fa_bi r.1)))) r.2 := by
  refine fa_enter (lv := [(0, .ref (b + o))]) (by decide +kernel) (Nat.le_of_ble_eq_true rfl) rfl (fun hh hle hnm X => ?_)
  unfold fm_Typing_nameShapes at hM
  refine g_aload_n X 0 rfl d_Typing_nameShapes_0 ?_
  refine g_get X ck_8 ho (fa_xn ho (by decide) hN) 3 (by decide) wd_296 rfl (fa_fvR rfl (fa_xt ho (by decide) hT 3)) d_Typing_nameShapes_1 ?_
  refine g_aload_n X 0 rfl d_Typing_nameShapes_4 ?_
  refine g_get X ck_8 ho (fa_xn ho (by decide) hN) 0 (by decide) wd_293 rfl (fa_fvR rfl (fa_xt ho (by decide) hT 0)) d_Typing_nameShapes_5 ?_
  refine g_callV_i X ck_6 (fa_r8_0 _ ho) (fa_xn (fa_r8_0 _ ho) (by decide) hN) rfl mi_Row_size (c_Row_size (fa_rf o 0) (fa_ro (fa_r8_0 _ ho) hN hT) w _ rfl) wd_456 rfl (Nat.le_trans (Nat.le_of_ble_eq_true rfl) hle) (st := [.ref (b + (fa_rf o 3))]) (Nat.le_of_ble_eq_true rfl) rfl d_Typing_nameShapes_8 ?_
  refine g_iconst X d_Typing_nameShapes_11 ?_
  obtain ⟨w3, e2⟩ : ∃ q, fr_refill (fa_rf o 3) (fm_Row_size (fa_rf o 0) w) (-1) w = q := ⟨_, rfl⟩
  have hM := fa_let_to hM e2.symm
  refine g_callV_v X ck_6 (fa_r8_3 _ ho) (fa_xn (fa_r8_3 _ ho) (by decide) hN) rfl mi_Row_refill (ct_Row_refill (fa_rf o 3) (fm_Row_size (fa_rf o 0) w) (-1) (fa_ro (fa_r8_3 _ ho) hN hT) w _ e2) wd_510 rfl (Nat.le_trans (Nat.le_of_ble_eq_true rfl) hle) (st := []) (Nat.le_of_ble_eq_true rfl) rfl d_Typing_nameShapes_12 ?_
  refine g_iconst X d_Typing_nameShapes_15 ?_
  refine g_istorec_n X [(1, .int (fa_I 1)), (0, .ref (b + o))] d_Typing_nameShapes_16 (by decide) rfl ?_
  refine g_iconst X d_Typing_nameShapes_17 ?_
  refine g_istorec_n X [(2, .int (fa_I 0)), (1, .int (fa_I 1)), (0, .ref (b + o))] d_Typing_nameShapes_18 (by decide) rfl ?_
  exact g_lv [2, 1, 0] rfl (c_Typing_nameShapes_l19 X hle hN hT o ho   fa_FU _ _ _ hM)
theorem d_Typing_infer_0 : decode prog_9_method_2_code 0 = .ok (.aload_n 0, 1) := by decide +kernel
theorem d_Typing_infer_1 : decode prog_9_method_2_code 1 = .ok (.aload_n 1, 1) := by decide +kernel
theorem d_Typing_infer_2 : decode prog_9_method_2_code 2 = .ok (.invokevirtual 45, 3) := by decide +kernel
theorem d_Typing_infer_5 : decode prog_9_method_2_code 5 = .ok (.iconst 0, 1) := by decide +kernel
theorem d_Typing_infer_6 : decode prog_9_method_2_code 6 = .ok (.istore_n 2, 1) := by decide +kernel
theorem d_Typing_infer_7 : decode prog_9_method_2_code 7 = .ok (.iload_n 2, 1) := by decide +kernel
theorem d_Typing_infer_8 : decode prog_9_method_2_code 8 = .ok (.aload_n 1, 1) := by decide +kernel
theorem d_Typing_infer_9 : decode prog_9_method_2_code 9 = .ok (.invokevirtual 49, 3) := by decide +kernel
theorem d_Typing_infer_12 : decode prog_9_method_2_code 12 = .ok (.if_icmp .ge 22, 3) := by decide +kernel
theorem d_Typing_infer_15 : decode prog_9_method_2_code 15 = .ok (.aload_n 0, 1) := by decide +kernel
theorem d_Typing_infer_16 : decode prog_9_method_2_code 16 = .ok (.getfield 29, 3) := by decide +kernel
theorem d_Typing_infer_19 : decode prog_9_method_2_code 19 = .ok (.aload_n 0, 1) := by decide +kernel
theorem d_Typing_infer_20 : decode prog_9_method_2_code 20 = .ok (.aload_n 1, 1) := by decide +kernel
theorem d_Typing_infer_21 : decode prog_9_method_2_code 21 = .ok (.iload_n 2, 1) := by decide +kernel
theorem d_Typing_infer_22 : decode prog_9_method_2_code 22 = .ok (.invokevirtual 55, 3) := by decide +kernel
theorem d_Typing_infer_25 : decode prog_9_method_2_code 25 = .ok (.invokevirtual 59, 3) := by decide +kernel
theorem d_Typing_infer_28 : decode prog_9_method_2_code 28 = .ok (.iinc 2 1, 3) := by decide +kernel
theorem d_Typing_infer_31 : decode prog_9_method_2_code 31 = .ok (.goto (-24), 3) := by decide +kernel
theorem d_Typing_infer_34 : decode prog_9_method_2_code 34 = .ok (.iconst 0, 1) := by decide +kernel
theorem d_Typing_infer_35 : decode prog_9_method_2_code 35 = .ok (.istore_n 2, 1) := by decide +kernel
theorem d_Typing_infer_36 : decode prog_9_method_2_code 36 = .ok (.iload_n 2, 1) := by decide +kernel
theorem d_Typing_infer_37 : decode prog_9_method_2_code 37 = .ok (.aload_n 1, 1) := by decide +kernel
theorem d_Typing_infer_38 : decode prog_9_method_2_code 38 = .ok (.getfield 62, 3) := by decide +kernel
theorem d_Typing_infer_41 : decode prog_9_method_2_code 41 = .ok (.if_icmp .ge 43, 3) := by decide +kernel
theorem d_Typing_infer_44 : decode prog_9_method_2_code 44 = .ok (.aload_n 0, 1) := by decide +kernel
theorem d_Typing_infer_45 : decode prog_9_method_2_code 45 = .ok (.aload_n 0, 1) := by decide +kernel
theorem d_Typing_infer_46 : decode prog_9_method_2_code 46 = .ok (.getfield 23, 3) := by decide +kernel
theorem d_Typing_infer_49 : decode prog_9_method_2_code 49 = .ok (.aload_n 0, 1) := by decide +kernel
theorem d_Typing_infer_50 : decode prog_9_method_2_code 50 = .ok (.getfield 35, 3) := by decide +kernel
theorem d_Typing_infer_53 : decode prog_9_method_2_code 53 = .ok (.iload_n 2, 1) := by decide +kernel
theorem d_Typing_infer_54 : decode prog_9_method_2_code 54 = .ok (.invokevirtual 66, 3) := by decide +kernel
theorem d_Typing_infer_57 : decode prog_9_method_2_code 57 = .ok (.invokevirtual 66, 3) := by decide +kernel
theorem d_Typing_infer_60 : decode prog_9_method_2_code 60 = .ok (.aload_n 0, 1) := by decide +kernel
theorem d_Typing_infer_61 : decode prog_9_method_2_code 61 = .ok (.getfield 29, 3) := by decide +kernel
theorem d_Typing_infer_64 : decode prog_9_method_2_code 64 = .ok (.aload_n 1, 1) := by decide +kernel
theorem d_Typing_infer_65 : decode prog_9_method_2_code 65 = .ok (.getfield 70, 3) := by decide +kernel
theorem d_Typing_infer_68 : decode prog_9_method_2_code 68 = .ok (.iload_n 2, 1) := by decide +kernel
theorem d_Typing_infer_69 : decode prog_9_method_2_code 69 = .ok (.invokevirtual 66, 3) := by decide +kernel
theorem d_Typing_infer_72 : decode prog_9_method_2_code 72 = .ok (.invokevirtual 66, 3) := by decide +kernel
theorem d_Typing_infer_75 : decode prog_9_method_2_code 75 = .ok (.invokevirtual 73, 3) := by decide +kernel
theorem d_Typing_infer_78 : decode prog_9_method_2_code 78 = .ok (.iinc 2 1, 3) := by decide +kernel
theorem d_Typing_infer_81 : decode prog_9_method_2_code 81 = .ok (.goto (-45), 3) := by decide +kernel
theorem d_Typing_infer_84 : decode prog_9_method_2_code 84 = .ok (.aload_n 0, 1) := by decide +kernel
theorem d_Typing_infer_85 : decode prog_9_method_2_code 85 = .ok (.getfield 41, 3) := by decide +kernel
theorem d_Typing_infer_88 : decode prog_9_method_2_code 88 = .ok (.ifCond .ne 14, 3) := by decide +kernel
theorem d_Typing_infer_91 : decode prog_9_method_2_code 91 = .ok (.aload_n 0, 1) := by decide +kernel
theorem d_Typing_infer_92 : decode prog_9_method_2_code 92 = .ok (.invokevirtual 77, 3) := by decide +kernel
theorem d_Typing_infer_95 : decode prog_9_method_2_code 95 = .ok (.ifCond .eq 7, 3) := by decide +kernel
theorem d_Typing_infer_98 : decode prog_9_method_2_code 98 = .ok (.iconst 1, 1) := by decide +kernel
theorem d_Typing_infer_99 : decode prog_9_method_2_code 99 = .ok (.goto 4, 3) := by decide +kernel
theorem d_Typing_infer_102 : decode prog_9_method_2_code 102 = .ok (.iconst 0, 1) := by decide +kernel
theorem d_Typing_infer_103 : decode prog_9_method_2_code 103 = .ok (.ireturn, 1) := by decide +kernel
def fm_Typing_infer_l36 (o : Nat) (a1 : Nat) : Nat → Int → fa_W → Option (Bool × fa_W)
  | 0, _, _ => none
  | n + 1, x2, w => if fa_wr (w a1 13) ≤ fa_wr x2 then
  (if decide (w o 8 ≠ 0) = true then
  some (false, w)
  else
  (fa_bd (fm_Typing_nameShapes o w) fun v8 w9 =>
  if v8 = true then
  some (true, w9)
  else
  some (false, w9)))
  else
  ((fm_Typing_unify o (fr_at (fa_rf o 2) (fr_at (fa_rf o 6) x2 w) w) (fr_at (fa_rf o 4) (fr_at (fa_rf a1 9) x2 w) w) w).bind fun w16 =>
  fa_let (x2 + 1) fun x2_17 =>
  fm_Typing_infer_l36 o a1 n x2_17 w16)
set_option maxHeartbeats 4000000 in
set_option maxRecDepth 100000 in
theorem c_Typing_infer_l36 {p : Program} {l : Launch} {e : Env} {s : State} {m : MethodId} {args : Array Value} {below : List Frame} {meth : Method} {c : Code} {hh : Nat} {D : va_G} {b : Nat} {aC : Nat → ClassId} {H0 : Heap} {N T : Nat} (X : fa_GX p s m args meth c prog_9_method_2_code 3 ((Option.some Jvm.ClassFile.FieldType.boolean)) y_Typing_infer.cls D b aC) (hle : 4 ≤ hh) (hN : fa_NX ≤ N) (hT : fa_TX ≤ T) (o : Nat) (a1 : Nat) (ho : (fa_sh o).1 = 8) (ha1 : (fa_sh a1).1 = 4) {r : Bool × fa_W}  : ∀ (n : Nat) (x2 : Int) (w : fa_W), fm_Typing_infer_l36 o a1 n x2 w = some r → fa_GJ p l e (fa_rm hh) s m args below meth c 0 0 (MQ below (fa_Qc D b aC H0 N T (some (.int (fa_I (fa_bi r.1)))) r.2) args s 0 0 (fun q => b ≤ q)) D b aC H0 N T 3 w 36 [(0, .ref (b + o)), (1, .ref (b + a1)), (2, .int (fa_I x2))] [] := by
  intro n
  induction n with
  | zero => intro x2 w hM; exact fa_no hM
  | succ n ih =>
    intro x2 w hM
    rw [fm_Typing_infer_l36] at hM
    refine g_iload_n X 2 rfl d_Typing_infer_36 ?_
    refine g_aload_n X 1 rfl d_Typing_infer_37 ?_
    refine g_getN X ck_4 ha1 (fa_xn ha1 (by decide) hN) 13 (by decide) wd_92 rfl (fa_fvI rfl) d_Typing_infer_38 ?_
    refine g_icmp_ge X 84 d_Typing_infer_41 (by decide) (fun hc5 => ?_) (fun hc5 => ?_)
    · have hM := fa_if_t hM hc5
      refine g_aload_n X 0 rfl d_Typing_infer_84 ?_
      refine g_get X ck_8 ho (fa_xn ho (by decide) hN) 8 (by decide) wd_304 rfl (fa_fvB rfl) d_Typing_infer_85 ?_
      refine g_ifb_ne X 102 d_Typing_infer_88 (by decide) (fun hc6 => ?_) (fun hc6 => ?_)
      · have hM := fa_ifb_t hM hc6
        refine g_iconst X d_Typing_infer_102 ?_
        cases hM
        exact g_zret X rfl d_Typing_infer_103
      · have hM := fa_ifb_f hM hc6
        refine g_aload_n X 0 rfl d_Typing_infer_91 ?_
        obtain ⟨v8, w9, e7, hM⟩ := fa_obd hM
        refine g_callV_i X ck_8 ho (fa_xn ho (by decide) hN) rfl mi_Typing_nameShapes (c_Typing_nameShapes hN hT o ho w _ e7) wd_506 rfl (Nat.le_trans (Nat.le_of_ble_eq_true rfl) hle) (st := []) (Nat.le_of_ble_eq_true rfl) rfl d_Typing_infer_92 ?_
        refine g_ifb_eq X 102 d_Typing_infer_95 (by decide) (fun hc10 => ?_) (fun hc10 => ?_)
        · have hM := fa_ifb_f hM hc10
          refine g_iconst X d_Typing_infer_102 ?_
          cases hM
          exact g_zret X rfl d_Typing_infer_103
        · have hM := fa_ifb_t hM hc10
          refine g_iconst X d_Typing_infer_98 ?_
          refine g_goto X 103 d_Typing_infer_99 (by decide) ?_
          cases hM
          exact g_zret X rfl d_Typing_infer_103
    · have hM := fa_if_f hM hc5
      refine g_aload_n X 0 rfl d_Typing_infer_44 ?_
      refine g_aload_n X 0 rfl d_Typing_infer_45 ?_
      refine g_get X ck_8 ho (fa_xn ho (by decide) hN) 2 (by decide) wd_295 rfl (fa_fvR rfl (fa_xt ho (by decide) hT 2)) d_Typing_infer_46 ?_
      refine g_aload_n X 0 rfl d_Typing_infer_49 ?_
      refine g_get X ck_8 ho (fa_xn ho (by decide) hN) 6 (by decide) wd_301 rfl (fa_fvR rfl (fa_xt ho (by decide) hT 6)) d_Typing_infer_50 ?_
      refine g_iload_n X 2 rfl d_Typing_infer_53 ?_
      refine g_callV_i X ck_6 (fa_r8_6 _ ho) (fa_xn (fa_r8_6 _ ho) (by decide) hN) rfl mi_Row_at (ct_Row_at (fa_rf o 6) x2 (fa_ro (fa_r8_6 _ ho) hN hT) w _ rfl) wd_458 rfl (Nat.le_trans (Nat.le_of_ble_eq_true rfl) hle) (st := [.ref (b + (fa_rf o 2)), .ref (b + o)]) (Nat.le_of_ble_eq_true rfl) rfl d_Typing_infer_54 ?_
      refine g_callV_i X ck_6 (fa_r8_2 _ ho) (fa_xn (fa_r8_2 _ ho) (by decide) hN) rfl mi_Row_at (ct_Row_at (fa_rf o 2) (fr_at (fa_rf o 6) x2 w) (fa_ro (fa_r8_2 _ ho) hN hT) w _ rfl) wd_458 rfl (Nat.le_trans (Nat.le_of_ble_eq_true rfl) hle) (st := [.ref (b + o)]) (Nat.le_of_ble_eq_true rfl) rfl d_Typing_infer_57 ?_
      refine g_aload_n X 0 rfl d_Typing_infer_60 ?_
      refine g_get X ck_8 ho (fa_xn ho (by decide) hN) 4 (by decide) wd_297 rfl (fa_fvR rfl (fa_xt ho (by decide) hT 4)) d_Typing_infer_61 ?_
      refine g_aload_n X 1 rfl d_Typing_infer_64 ?_
      refine g_getN X ck_4 ha1 (fa_xn ha1 (by decide) hN) 9 (by decide) wd_83 rfl (fa_fvR rfl (fa_xt ha1 (by decide) hT 9)) d_Typing_infer_65 ?_
      refine g_iload_n X 2 rfl d_Typing_infer_68 ?_
      refine g_callV_i X ck_6 (fa_r4_9 _ ha1) (fa_xn (fa_r4_9 _ ha1) (by decide) hN) rfl mi_Row_at (ct_Row_at (fa_rf a1 9) x2 (fa_ro (fa_r4_9 _ ha1) hN hT) w _ rfl) wd_458 rfl (Nat.le_trans (Nat.le_of_ble_eq_true rfl) hle) (st := [.ref (b + (fa_rf o 4)), .int (fa_I (fr_at (fa_rf o 2) (fr_at (fa_rf o 6) x2 w) w)), .ref (b + o)]) (Nat.le_of_ble_eq_true rfl) rfl d_Typing_infer_69 ?_
      refine g_callV_i X ck_6 (fa_r8_4 _ ho) (fa_xn (fa_r8_4 _ ho) (by decide) hN) rfl mi_Row_at (ct_Row_at (fa_rf o 4) (fr_at (fa_rf a1 9) x2 w) (fa_ro (fa_r8_4 _ ho) hN hT) w _ rfl) wd_458 rfl (Nat.le_trans (Nat.le_of_ble_eq_true rfl) hle) (st := [.int (fa_I (fr_at (fa_rf o 2) (fr_at (fa_rf o 6) x2 w) w)), .ref (b + o)]) (Nat.le_of_ble_eq_true rfl) rfl d_Typing_infer_72 ?_
      obtain ⟨w16, e15, hM⟩ := fa_ob hM
      refine g_callV_v X ck_8 ho (fa_xn ho (by decide) hN) rfl mi_Typing_unify (c_Typing_unify hN hT o (fr_at (fa_rf o 2) (fr_at (fa_rf o 6) x2 w) w) (fr_at (fa_rf o 4) (fr_at (fa_rf a1 9) x2 w) w) ho w _ e15) wd_479 rfl (Nat.le_trans (Nat.le_of_ble_eq_true rfl) hle) (st := []) (Nat.le_of_ble_eq_true rfl) rfl d_Typing_infer_75 ?_
      refine g_iinc X 2 (fun x2_17 => [(2, .int (fa_I x2_17)), (0, .ref (b + o)), (1, .ref (b + a1))]) d_Typing_infer_78 rfl (by decide) (fun _ => rfl) (fun x2_17 ex2_17 => ?_)
      have hM := fa_let_to hM ex2_17
      refine g_goto X 36 d_Typing_infer_81 (by decide) ?_
      exact g_lv [1, 2, 0] rfl (ih _ _ hM)
def fm_Typing_infer_l7 (o : Nat) (a1 : Nat) : Nat → Int → fa_W → Option (Bool × fa_W)
  | 0, _, _ => none
  | n + 1, x2, w => if fa_wr (fm_Program_things a1 w) ≤ fa_wr x2 then
  fm_Typing_infer_l36 o a1 fa_FU 0 w
  else
  (fa_bd (fm_Typing_typed o a1 x2 w) fun v19 w20 =>
  fa_let (fr_add (fa_rf o 4) v19 w20) fun w22 =>
  fa_let (x2 + 1) fun x2_23 =>
  fm_Typing_infer_l7 o a1 n x2_23 w22)
set_option maxHeartbeats 4000000 in
set_option maxRecDepth 100000 in
theorem c_Typing_infer_l7 {p : Program} {l : Launch} {e : Env} {s : State} {m : MethodId} {args : Array Value} {below : List Frame} {meth : Method} {c : Code} {hh : Nat} {D : va_G} {b : Nat} {aC : Nat → ClassId} {H0 : Heap} {N T : Nat} (X : fa_GX p s m args meth c prog_9_method_2_code 3 ((Option.some Jvm.ClassFile.FieldType.boolean)) y_Typing_infer.cls D b aC) (hle : 4 ≤ hh) (hN : fa_NX ≤ N) (hT : fa_TX ≤ T) (o : Nat) (a1 : Nat) (ho : (fa_sh o).1 = 8) (ha1 : (fa_sh a1).1 = 4) {r : Bool × fa_W}  : ∀ (n : Nat) (x2 : Int) (w : fa_W), fm_Typing_infer_l7 o a1 n x2 w = some r → fa_GJ p l e (fa_rm hh) s m args below meth c 0 0 (MQ below (fa_Qc D b aC H0 N T (some (.int (fa_I (fa_bi r.1)))) r.2) args s 0 0 (fun q => b ≤ q)) D b aC H0 N T 3 w 7 [(0, .ref (b + o)), (1, .ref (b + a1)), (2, .int (fa_I x2))] [] := by
  intro n
  induction n with
  | zero => intro x2 w hM; exact fa_no hM
  | succ n ih =>
    intro x2 w hM
    rw [fm_Typing_infer_l7] at hM
    refine g_iload_n X 2 rfl d_Typing_infer_7 ?_
    refine g_aload_n X 1 rfl d_Typing_infer_8 ?_
    refine g_callV_i X ck_4 ha1 (fa_xn ha1 (by decide) hN) rfl mi_Program_things (c_Program_things hN hT a1 ha1 w _ rfl) wd_459 rfl (Nat.le_trans (Nat.le_of_ble_eq_true rfl) hle) (st := [.int (fa_I x2)]) (Nat.le_of_ble_eq_true rfl) rfl d_Typing_infer_9 ?_
    refine g_icmp_ge X 34 d_Typing_infer_12 (by decide) (fun hc4 => ?_) (fun hc4 => ?_)
    · have hM := fa_if_t hM hc4
      refine g_iconst X d_Typing_infer_34 ?_
      refine g_istorec_n X [(2, .int (fa_I 0)), (0, .ref (b + o)), (1, .ref (b + a1))] d_Typing_infer_35 (by decide) rfl ?_
      exact g_lv [1, 2, 0] rfl (c_Typing_infer_l36 X hle hN hT o a1 ho ha1   fa_FU _ _ hM)
    · have hM := fa_if_f hM hc4
      refine g_aload_n X 0 rfl d_Typing_infer_15 ?_
      refine g_get X ck_8 ho (fa_xn ho (by decide) hN) 4 (by decide) wd_297 rfl (fa_fvR rfl (fa_xt ho (by decide) hT 4)) d_Typing_infer_16 ?_
      refine g_aload_n X 0 rfl d_Typing_infer_19 ?_
      refine g_aload_n X 1 rfl d_Typing_infer_20 ?_
      refine g_iload_n X 2 rfl d_Typing_infer_21 ?_
      obtain ⟨v19, w20, e18, hM⟩ := fa_obd hM
      refine g_callV_i X ck_8 ho (fa_xn ho (by decide) hN) rfl mi_Typing_typed (c_Typing_typed hN hT o a1 x2 ho ha1 w _ e18) wd_463 rfl (Nat.le_trans (Nat.le_of_ble_eq_true rfl) hle) (st := [.ref (b + (fa_rf o 4))]) (Nat.le_of_ble_eq_true rfl) rfl d_Typing_infer_22 ?_
      obtain ⟨w22, e21⟩ : ∃ q, fr_add (fa_rf o 4) v19 w20 = q := ⟨_, rfl⟩
      have hM := fa_let_to hM e21.symm
      refine g_callV_v X ck_6 (fa_r8_4 _ ho) (fa_xn (fa_r8_4 _ ho) (by decide) hN) rfl mi_Row_add (ct_Row_add (fa_rf o 4) v19 (fa_ro (fa_r8_4 _ ho) hN hT) w20 _ e21) wd_457 rfl (Nat.le_trans (Nat.le_of_ble_eq_true rfl) hle) (st := []) (Nat.le_of_ble_eq_true rfl) rfl d_Typing_infer_25 ?_
      refine g_iinc X 2 (fun x2_23 => [(2, .int (fa_I x2_23)), (0, .ref (b + o)), (1, .ref (b + a1))]) d_Typing_infer_28 rfl (by decide) (fun _ => rfl) (fun x2_23 ex2_23 => ?_)
      have hM := fa_let_to hM ex2_23
      refine g_goto X 7 d_Typing_infer_31 (by decide) ?_
      exact g_lv [1, 2, 0] rfl (ih _ _ hM)
def fm_Typing_infer (o : Nat) (a1 : Nat) (w : fa_W) : Option (Bool × fa_W) :=
  (fm_Typing_clear o a1 w).bind fun w2 =>
  fm_Typing_infer_l7 o a1 fa_FU 0 w2
set_option maxHeartbeats 4000000 in
set_option maxRecDepth 100000 in
theorem c_Typing_infer {l : Launch} {D : va_G} {b : Nat} {aC : Nat → ClassId} {H0 : Heap} {N T : Nat} (hN : fa_NX ≤ N) (hT : fa_TX ≤ T) (o : Nat) (a1 : Nat) (ho : (fa_sh o).1 = 8) (ha1 : (fa_sh a1).1 = 4)  (w : fa_W) (r : Bool × fa_W) (hM : fm_Typing_infer o a1 w = some r) : fa_MC l D b aC H0 N T y_Typing_infer prog_9_method_2_code 3 ((Option.some Jvm.ClassFile.FieldType.boolean)) (4) [.ref (b + o), .ref (b + a1)] w (some (.int (fa_I (fa_bi r.1)))) r.2 := by
  refine fa_enter (lv := [(0, .ref (b + o)), (1, .ref (b + a1))]) (by decide +kernel) (Nat.le_of_ble_eq_true rfl) rfl (fun hh hle hnm X => ?_)
  unfold fm_Typing_infer at hM
  refine g_aload_n X 0 rfl d_Typing_infer_0 ?_
  refine g_aload_n X 1 rfl d_Typing_infer_1 ?_
  obtain ⟨w2, e1, hM⟩ := fa_ob hM
  refine g_callV_v X ck_8 ho (fa_xn ho (by decide) hN) rfl mi_Typing_clear (c_Typing_clear hN hT o a1 ho ha1 w _ e1) wd_443 rfl (Nat.le_trans (Nat.le_of_ble_eq_true rfl) hle) (st := []) (Nat.le_of_ble_eq_true rfl) rfl d_Typing_infer_2 ?_
  refine g_iconst X d_Typing_infer_5 ?_
  refine g_istorec_n X [(2, .int (fa_I 0)), (0, .ref (b + o)), (1, .ref (b + a1))] d_Typing_infer_6 (by decide) rfl ?_
  exact g_lv [1, 2, 0] rfl (c_Typing_infer_l7 X hle hN hT o a1 ho ha1   fa_FU _ _ hM)
theorem d_Typing_isInt_0 : decode prog_9_method_8_code 0 = .ok (.aload_n 0, 1) := by decide +kernel
theorem d_Typing_isInt_1 : decode prog_9_method_8_code 1 = .ok (.iload_n 1, 1) := by decide +kernel
theorem d_Typing_isInt_2 : decode prog_9_method_8_code 2 = .ok (.invokevirtual 105, 3) := by decide +kernel
theorem d_Typing_isInt_5 : decode prog_9_method_8_code 5 = .ok (.ifCond .ne 7, 3) := by decide +kernel
theorem d_Typing_isInt_8 : decode prog_9_method_8_code 8 = .ok (.iconst 1, 1) := by decide +kernel
theorem d_Typing_isInt_9 : decode prog_9_method_8_code 9 = .ok (.goto 4, 3) := by decide +kernel
theorem d_Typing_isInt_12 : decode prog_9_method_8_code 12 = .ok (.iconst 0, 1) := by decide +kernel
theorem d_Typing_isInt_13 : decode prog_9_method_8_code 13 = .ok (.ireturn, 1) := by decide +kernel
def fm_Typing_isInt (o : Nat) (a1 : Int) (w : fa_W) : Option Bool :=
  (fm_Typing_root o a1 w).bind fun v2 =>
  if fa_wr v2 = 0 then
  some true
  else
  some false
set_option maxHeartbeats 4000000 in
set_option maxRecDepth 100000 in
theorem c_Typing_isInt {l : Launch} {D : va_G} {b : Nat} {aC : Nat → ClassId} {H0 : Heap} {N T : Nat} (hN : fa_NX ≤ N) (hT : fa_TX ≤ T) (o : Nat) (a1 : Int) (ho : (fa_sh o).1 = 8)  (w : fa_W) (r : Bool) (hM : fm_Typing_isInt o a1 w = some r) : fa_MC l D b aC H0 N T y_Typing_isInt prog_9_method_8_code 2 ((Option.some Jvm.ClassFile.FieldType.boolean)) (2) [.ref (b + o), .int (fa_I a1)] w (some (.int (fa_I (fa_bi r)))) w := by
  refine fa_enter (lv := [(0, .ref (b + o)), (1, .int (fa_I a1))]) (by decide +kernel) (Nat.le_of_ble_eq_true rfl) rfl (fun hh hle hnm X => ?_)
  unfold fm_Typing_isInt at hM
  refine g_aload_n X 0 rfl d_Typing_isInt_0 ?_
  refine g_iload_n X 1 rfl d_Typing_isInt_1 ?_
  obtain ⟨v2, e1, hM⟩ := fa_ob hM
  refine g_callV_i X ck_8 ho (fa_xn ho (by decide) hN) rfl mi_Typing_root (c_Typing_root hN hT o a1 ho w _ e1) wd_493 rfl (Nat.le_trans (Nat.le_of_ble_eq_true rfl) hle) (st := []) (Nat.le_of_ble_eq_true rfl) rfl d_Typing_isInt_2 ?_
  refine g_if_ne X 12 d_Typing_isInt_5 (by decide) (fun hc3 => ?_) (fun hc3 => ?_)
  · have hM := fa_if_f hM hc3
    refine g_iconst X d_Typing_isInt_12 ?_
    cases hM
    exact g_zret X rfl d_Typing_isInt_13
  · have hM := fa_if_t hM hc3
    refine g_iconst X d_Typing_isInt_8 ?_
    refine g_goto X 13 d_Typing_isInt_9 (by decide) ?_
    cases hM
    exact g_zret X rfl d_Typing_isInt_13
theorem d_Typing_taken_0 : decode prog_9_method_10_code 0 = .ok (.aload_n 0, 1) := by decide +kernel
theorem d_Typing_taken_1 : decode prog_9_method_10_code 1 = .ok (.getfield 20, 3) := by decide +kernel
theorem d_Typing_taken_4 : decode prog_9_method_10_code 4 = .ok (.iload_n 1, 1) := by decide +kernel
theorem d_Typing_taken_5 : decode prog_9_method_10_code 5 = .ok (.invokevirtual 66, 3) := by decide +kernel
theorem d_Typing_taken_8 : decode prog_9_method_10_code 8 = .ok (.ireturn, 1) := by decide +kernel
def fm_Typing_taken (o : Nat) (a1 : Int) (w : fa_W) : Int :=
  fr_at (fa_rf o 1) a1 w
set_option maxHeartbeats 4000000 in
set_option maxRecDepth 100000 in
theorem c_Typing_taken {l : Launch} {D : va_G} {b : Nat} {aC : Nat → ClassId} {H0 : Heap} {N T : Nat} (hN : fa_NX ≤ N) (hT : fa_TX ≤ T) (o : Nat) (a1 : Int) (ho : (fa_sh o).1 = 8)  (w : fa_W) (r : Int) (hM : fm_Typing_taken o a1 w = r) : fa_MC l D b aC H0 N T y_Typing_taken prog_9_method_10_code 2 ((Option.some Jvm.ClassFile.FieldType.int)) (1) [.ref (b + o), .int (fa_I a1)] w (some (.int (fa_I r))) w := by
  refine fa_enter (lv := [(0, .ref (b + o)), (1, .int (fa_I a1))]) (by decide +kernel) (Nat.le_of_ble_eq_true rfl) rfl (fun hh hle hnm X => ?_)
  unfold fm_Typing_taken at hM
  refine g_aload_n X 0 rfl d_Typing_taken_0 ?_
  refine g_get X ck_8 ho (fa_xn ho (by decide) hN) 1 (by decide) wd_294 rfl (fa_fvR rfl (fa_xt ho (by decide) hT 1)) d_Typing_taken_1 ?_
  refine g_iload_n X 1 rfl d_Typing_taken_4 ?_
  refine g_callV_i X ck_6 (fa_r8_1 _ ho) (fa_xn (fa_r8_1 _ ho) (by decide) hN) rfl mi_Row_at (ct_Row_at (fa_rf o 1) a1 (fa_ro (fa_r8_1 _ ho) hN hT) w _ rfl) wd_458 rfl (Nat.le_trans (Nat.le_of_ble_eq_true rfl) hle) (st := []) (Nat.le_of_ble_eq_true rfl) rfl d_Typing_taken_5 ?_
  subst hM
  exact g_iret X d_Typing_taken_8
theorem d_Typing_given_0 : decode prog_9_method_11_code 0 = .ok (.aload_n 0, 1) := by decide +kernel
theorem d_Typing_given_1 : decode prog_9_method_11_code 1 = .ok (.getfield 23, 3) := by decide +kernel
theorem d_Typing_given_4 : decode prog_9_method_11_code 4 = .ok (.iload_n 1, 1) := by decide +kernel
theorem d_Typing_given_5 : decode prog_9_method_11_code 5 = .ok (.invokevirtual 66, 3) := by decide +kernel
theorem d_Typing_given_8 : decode prog_9_method_11_code 8 = .ok (.ireturn, 1) := by decide +kernel
def fm_Typing_given (o : Nat) (a1 : Int) (w : fa_W) : Int :=
  fr_at (fa_rf o 2) a1 w
set_option maxHeartbeats 4000000 in
set_option maxRecDepth 100000 in
theorem c_Typing_given {l : Launch} {D : va_G} {b : Nat} {aC : Nat → ClassId} {H0 : Heap} {N T : Nat} (hN : fa_NX ≤ N) (hT : fa_TX ≤ T) (o : Nat) (a1 : Int) (ho : (fa_sh o).1 = 8)  (w : fa_W) (r : Int) (hM : fm_Typing_given o a1 w = r) : fa_MC l D b aC H0 N T y_Typing_given prog_9_method_11_code 2 ((Option.some Jvm.ClassFile.FieldType.int)) (1) [.ref (b + o), .int (fa_I a1)] w (some (.int (fa_I r))) w := by
  refine fa_enter (lv := [(0, .ref (b + o)), (1, .int (fa_I a1))]) (by decide +kernel) (Nat.le_of_ble_eq_true rfl) rfl (fun hh hle hnm X => ?_)
  unfold fm_Typing_given at hM
  refine g_aload_n X 0 rfl d_Typing_given_0 ?_
  refine g_get X ck_8 ho (fa_xn ho (by decide) hN) 2 (by decide) wd_295 rfl (fa_fvR rfl (fa_xt ho (by decide) hT 2)) d_Typing_given_1 ?_
  refine g_iload_n X 1 rfl d_Typing_given_4 ?_
  refine g_callV_i X ck_6 (fa_r8_2 _ ho) (fa_xn (fa_r8_2 _ ho) (by decide) hN) rfl mi_Row_at (ct_Row_at (fa_rf o 2) a1 (fa_ro (fa_r8_2 _ ho) hN hT) w _ rfl) wd_458 rfl (Nat.le_trans (Nat.le_of_ble_eq_true rfl) hle) (st := []) (Nat.le_of_ble_eq_true rfl) rfl d_Typing_given_5 ?_
  subst hM
  exact g_iret X d_Typing_given_8
theorem d_Typing_same_0 : decode prog_9_method_16_code 0 = .ok (.aload_n 0, 1) := by decide +kernel
theorem d_Typing_same_1 : decode prog_9_method_16_code 1 = .ok (.getfield 26, 3) := by decide +kernel
theorem d_Typing_same_4 : decode prog_9_method_16_code 4 = .ok (.aload_n 0, 1) := by decide +kernel
theorem d_Typing_same_5 : decode prog_9_method_16_code 5 = .ok (.aload_n 0, 1) := by decide +kernel
theorem d_Typing_same_6 : decode prog_9_method_16_code 6 = .ok (.getfield 35, 3) := by decide +kernel
theorem d_Typing_same_9 : decode prog_9_method_16_code 9 = .ok (.iload_n 1, 1) := by decide +kernel
theorem d_Typing_same_10 : decode prog_9_method_16_code 10 = .ok (.invokevirtual 66, 3) := by decide +kernel
theorem d_Typing_same_13 : decode prog_9_method_16_code 13 = .ok (.invokevirtual 105, 3) := by decide +kernel
theorem d_Typing_same_16 : decode prog_9_method_16_code 16 = .ok (.invokevirtual 66, 3) := by decide +kernel
theorem d_Typing_same_19 : decode prog_9_method_16_code 19 = .ok (.aload_n 0, 1) := by decide +kernel
theorem d_Typing_same_20 : decode prog_9_method_16_code 20 = .ok (.getfield 26, 3) := by decide +kernel
theorem d_Typing_same_23 : decode prog_9_method_16_code 23 = .ok (.aload_n 0, 1) := by decide +kernel
theorem d_Typing_same_24 : decode prog_9_method_16_code 24 = .ok (.aload_n 0, 1) := by decide +kernel
theorem d_Typing_same_25 : decode prog_9_method_16_code 25 = .ok (.getfield 35, 3) := by decide +kernel
theorem d_Typing_same_28 : decode prog_9_method_16_code 28 = .ok (.iload_n 2, 1) := by decide +kernel
theorem d_Typing_same_29 : decode prog_9_method_16_code 29 = .ok (.invokevirtual 66, 3) := by decide +kernel
theorem d_Typing_same_32 : decode prog_9_method_16_code 32 = .ok (.invokevirtual 105, 3) := by decide +kernel
theorem d_Typing_same_35 : decode prog_9_method_16_code 35 = .ok (.invokevirtual 66, 3) := by decide +kernel
theorem d_Typing_same_38 : decode prog_9_method_16_code 38 = .ok (.if_icmp .ne 7, 3) := by decide +kernel
theorem d_Typing_same_41 : decode prog_9_method_16_code 41 = .ok (.iconst 1, 1) := by decide +kernel
theorem d_Typing_same_42 : decode prog_9_method_16_code 42 = .ok (.goto 4, 3) := by decide +kernel
theorem d_Typing_same_45 : decode prog_9_method_16_code 45 = .ok (.iconst 0, 1) := by decide +kernel
theorem d_Typing_same_46 : decode prog_9_method_16_code 46 = .ok (.ireturn, 1) := by decide +kernel
def fm_Typing_same (o : Nat) (a1 : Int) (a2 : Int) (w : fa_W) : Option Bool :=
  (fm_Typing_root o (fr_at (fa_rf o 6) a1 w) w).bind fun v3 =>
  (fm_Typing_root o (fr_at (fa_rf o 6) a2 w) w).bind fun v7 =>
  if fa_wr (fr_at (fa_rf o 3) v3 w) = fa_wr (fr_at (fa_rf o 3) v7 w) then
  some true
  else
  some false
set_option maxHeartbeats 4000000 in
set_option maxRecDepth 100000 in
theorem c_Typing_same {l : Launch} {D : va_G} {b : Nat} {aC : Nat → ClassId} {H0 : Heap} {N T : Nat} (hN : fa_NX ≤ N) (hT : fa_TX ≤ T) (o : Nat) (a1 : Int) (a2 : Int) (ho : (fa_sh o).1 = 8)  (w : fa_W) (r : Bool) (hM : fm_Typing_same o a1 a2 w = some r) : fa_MC l D b aC H0 N T y_Typing_same prog_9_method_16_code 3 ((Option.some Jvm.ClassFile.FieldType.boolean)) (2) [.ref (b + o), .int (fa_I a1), .int (fa_I a2)] w (some (.int (fa_I (fa_bi r)))) w := by
  refine fa_enter (lv := [(0, .ref (b + o)), (1, .int (fa_I a1)), (2, .int (fa_I a2))]) (by decide +kernel) (Nat.le_of_ble_eq_true rfl) rfl (fun hh hle hnm X => ?_)
  unfold fm_Typing_same at hM
  refine g_aload_n X 0 rfl d_Typing_same_0 ?_
  refine g_get X ck_8 ho (fa_xn ho (by decide) hN) 3 (by decide) wd_296 rfl (fa_fvR rfl (fa_xt ho (by decide) hT 3)) d_Typing_same_1 ?_
  refine g_aload_n X 0 rfl d_Typing_same_4 ?_
  refine g_aload_n X 0 rfl d_Typing_same_5 ?_
  refine g_get X ck_8 ho (fa_xn ho (by decide) hN) 6 (by decide) wd_301 rfl (fa_fvR rfl (fa_xt ho (by decide) hT 6)) d_Typing_same_6 ?_
  refine g_iload_n X 1 rfl d_Typing_same_9 ?_
  refine g_callV_i X ck_6 (fa_r8_6 _ ho) (fa_xn (fa_r8_6 _ ho) (by decide) hN) rfl mi_Row_at (ct_Row_at (fa_rf o 6) a1 (fa_ro (fa_r8_6 _ ho) hN hT) w _ rfl) wd_458 rfl (Nat.le_trans (Nat.le_of_ble_eq_true rfl) hle) (st := [.ref (b + o), .ref (b + (fa_rf o 3))]) (Nat.le_of_ble_eq_true rfl) rfl d_Typing_same_10 ?_
  obtain ⟨v3, e2, hM⟩ := fa_ob hM
  refine g_callV_i X ck_8 ho (fa_xn ho (by decide) hN) rfl mi_Typing_root (c_Typing_root hN hT o (fr_at (fa_rf o 6) a1 w) ho w _ e2) wd_493 rfl (Nat.le_trans (Nat.le_of_ble_eq_true rfl) hle) (st := [.ref (b + (fa_rf o 3))]) (Nat.le_of_ble_eq_true rfl) rfl d_Typing_same_13 ?_
  refine g_callV_i X ck_6 (fa_r8_3 _ ho) (fa_xn (fa_r8_3 _ ho) (by decide) hN) rfl mi_Row_at (ct_Row_at (fa_rf o 3) v3 (fa_ro (fa_r8_3 _ ho) hN hT) w _ rfl) wd_458 rfl (Nat.le_trans (Nat.le_of_ble_eq_true rfl) hle) (st := []) (Nat.le_of_ble_eq_true rfl) rfl d_Typing_same_16 ?_
  refine g_aload_n X 0 rfl d_Typing_same_19 ?_
  refine g_get X ck_8 ho (fa_xn ho (by decide) hN) 3 (by decide) wd_296 rfl (fa_fvR rfl (fa_xt ho (by decide) hT 3)) d_Typing_same_20 ?_
  refine g_aload_n X 0 rfl d_Typing_same_23 ?_
  refine g_aload_n X 0 rfl d_Typing_same_24 ?_
  refine g_get X ck_8 ho (fa_xn ho (by decide) hN) 6 (by decide) wd_301 rfl (fa_fvR rfl (fa_xt ho (by decide) hT 6)) d_Typing_same_25 ?_
  refine g_iload_n X 2 rfl d_Typing_same_28 ?_
  refine g_callV_i X ck_6 (fa_r8_6 _ ho) (fa_xn (fa_r8_6 _ ho) (by decide) hN) rfl mi_Row_at (ct_Row_at (fa_rf o 6) a2 (fa_ro (fa_r8_6 _ ho) hN hT) w _ rfl) wd_458 rfl (Nat.le_trans (Nat.le_of_ble_eq_true rfl) hle) (st := [.ref (b + o), .ref (b + (fa_rf o 3)), .int (fa_I (fr_at (fa_rf o 3) v3 w))]) (Nat.le_of_ble_eq_true rfl) rfl d_Typing_same_29 ?_
  obtain ⟨v7, e6, hM⟩ := fa_ob hM
  refine g_callV_i X ck_8 ho (fa_xn ho (by decide) hN) rfl mi_Typing_root (c_Typing_root hN hT o (fr_at (fa_rf o 6) a2 w) ho w _ e6) wd_493 rfl (Nat.le_trans (Nat.le_of_ble_eq_true rfl) hle) (st := [.ref (b + (fa_rf o 3)), .int (fa_I (fr_at (fa_rf o 3) v3 w))]) (Nat.le_of_ble_eq_true rfl) rfl d_Typing_same_32 ?_
  refine g_callV_i X ck_6 (fa_r8_3 _ ho) (fa_xn (fa_r8_3 _ ho) (by decide) hN) rfl mi_Row_at (ct_Row_at (fa_rf o 3) v7 (fa_ro (fa_r8_3 _ ho) hN hT) w _ rfl) wd_458 rfl (Nat.le_trans (Nat.le_of_ble_eq_true rfl) hle) (st := [.int (fa_I (fr_at (fa_rf o 3) v3 w))]) (Nat.le_of_ble_eq_true rfl) rfl d_Typing_same_35 ?_
  refine g_icmp_ne X 45 d_Typing_same_38 (by decide) (fun hc9 => ?_) (fun hc9 => ?_)
  · have hM := fa_if_f hM hc9
    refine g_iconst X d_Typing_same_45 ?_
    cases hM
    exact g_zret X rfl d_Typing_same_46
  · have hM := fa_if_t hM hc9
    refine g_iconst X d_Typing_same_41 ?_
    refine g_goto X 46 d_Typing_same_42 (by decide) ?_
    cases hM
    exact g_zret X rfl d_Typing_same_46
