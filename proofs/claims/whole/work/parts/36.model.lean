theorem d_Mod_back_0 : decode prog_12_method_95_code 0 = .ok (.aload_n 0, 1) := by decide +kernel
theorem d_Mod_back_1 : decode prog_12_method_95_code 1 = .ok (.iconst 0, 1) := by decide +kernel
theorem d_Mod_back_2 : decode prog_12_method_95_code 2 = .ok (.putfield 1, 3) := by decide +kernel
theorem d_Mod_back_5 : decode prog_12_method_95_code 5 = .ok (.aload_n 0, 1) := by decide +kernel
theorem d_Mod_back_6 : decode prog_12_method_95_code 6 = .ok (.invokevirtual 488, 3) := by decide +kernel
theorem d_Mod_back_9 : decode prog_12_method_95_code 9 = .ok (.aload_n 0, 1) := by decide +kernel
theorem d_Mod_back_10 : decode prog_12_method_95_code 10 = .ok (.getfield 482, 3) := by decide +kernel
theorem d_Mod_back_13 : decode prog_12_method_95_code 13 = .ok (.ireturn, 1) := by decide +kernel
def fm_Mod_back (w : fa_W) : Option (Int × fa_W) :=
  fa_let (fa_st w 181 0 0) fun w1 =>
  (fm_Mod_writesBack w1).bind fun w3 =>
  some (w3 181 70, w3)
set_option maxHeartbeats 4000000 in
set_option maxRecDepth 100000 in
theorem c_Mod_back {l : Launch} {D : va_G} {b : Nat} {aC : Nat → ClassId} {H0 : Heap} {N T : Nat} (hN : fa_NM ≤ N) (hT : fa_TM ≤ T)   (w : fa_W) (r : Int × fa_W) (hM : fm_Mod_back w = some r) : fa_MC l D b aC H0 N T y_Mod_back prog_12_method_95_code 1 ((Option.some Jvm.ClassFile.FieldType.int)) (1806) [.ref (b + 181)] w (some (.int (fa_I r.1))) r.2 := by
  refine fa_enter (lv := [(0, .ref (b + 181))]) (by decide +kernel) (Nat.le_of_ble_eq_true rfl) rfl (fun hh hle hnm X => ?_)
  unfold fm_Mod_back at hM
  refine g_aload_n X 0 rfl d_Mod_back_0 ?_
  refine g_iconst X d_Mod_back_1 ?_
  refine g_put X ck_10 fo_181 (fn_181 hN) 0 (z := 0) (by decide) wd_1742 rfl (fa_fvI' rfl) rfl rfl rfl d_Mod_back_2 (fun w1 ew1 => ?_)
  have hM := fa_let_to hM ew1
  refine g_aload_n X 0 rfl d_Mod_back_5 ?_
  obtain ⟨w3, e2, hM⟩ := fa_ob hM
  refine g_callV_v X ck_10 fo_181 (fn_181 hN) rfl mi_Mod_writesBack (c_Mod_writesBack hN hT w1 _ e2) wd_2041 rfl (Nat.le_trans (Nat.le_of_ble_eq_true rfl) hle) (st := []) (Nat.le_of_ble_eq_true rfl) rfl d_Mod_back_6 ?_
  refine g_aload_n X 0 rfl d_Mod_back_9 ?_
  refine g_get X ck_10 fo_181 (fn_181 hN) 70 (by decide) wd_1811 rfl (fa_fvI rfl) d_Mod_back_10 ?_
  cases hM
  exact g_iret X d_Mod_back_13
theorem d_Mod_show_0 : decode prog_12_method_96_code 0 = .ok (.aload_n 0, 1) := by decide +kernel
theorem d_Mod_show_1 : decode prog_12_method_96_code 1 = .ok (.iconst 0, 1) := by decide +kernel
theorem d_Mod_show_2 : decode prog_12_method_96_code 2 = .ok (.putfield 1, 3) := by decide +kernel
theorem d_Mod_show_5 : decode prog_12_method_96_code 5 = .ok (.aload_n 0, 1) := by decide +kernel
theorem d_Mod_show_6 : decode prog_12_method_96_code 6 = .ok (.iconst 0, 1) := by decide +kernel
theorem d_Mod_show_7 : decode prog_12_method_96_code 7 = .ok (.invokevirtual 519, 3) := by decide +kernel
theorem d_Mod_show_10 : decode prog_12_method_96_code 10 = .ok (.aload_n 0, 1) := by decide +kernel
theorem d_Mod_show_11 : decode prog_12_method_96_code 11 = .ok (.getfield 482, 3) := by decide +kernel
theorem d_Mod_show_14 : decode prog_12_method_96_code 14 = .ok (.ireturn, 1) := by decide +kernel
def fm_Mod_show (w : fa_W) : Option (Int × fa_W) :=
  fa_let (fa_st w 181 0 0) fun w1 =>
  (fm_Mod_writesProgram 0 w1).bind fun w3 =>
  some (w3 181 70, w3)
set_option maxHeartbeats 4000000 in
set_option maxRecDepth 100000 in
theorem c_Mod_show {l : Launch} {D : va_G} {b : Nat} {aC : Nat → ClassId} {H0 : Heap} {N T : Nat} (hN : fa_NM ≤ N) (hT : fa_TM ≤ T)   (w : fa_W) (r : Int × fa_W) (hM : fm_Mod_show w = some r) : fa_MC l D b aC H0 N T y_Mod_show prog_12_method_96_code 1 ((Option.some Jvm.ClassFile.FieldType.int)) (1805) [.ref (b + 181)] w (some (.int (fa_I r.1))) r.2 := by
  refine fa_enter (lv := [(0, .ref (b + 181))]) (by decide +kernel) (Nat.le_of_ble_eq_true rfl) rfl (fun hh hle hnm X => ?_)
  unfold fm_Mod_show at hM
  refine g_aload_n X 0 rfl d_Mod_show_0 ?_
  refine g_iconst X d_Mod_show_1 ?_
  refine g_put X ck_10 fo_181 (fn_181 hN) 0 (z := 0) (by decide) wd_1742 rfl (fa_fvI' rfl) rfl rfl rfl d_Mod_show_2 (fun w1 ew1 => ?_)
  have hM := fa_let_to hM ew1
  refine g_aload_n X 0 rfl d_Mod_show_5 ?_
  refine g_iconst X d_Mod_show_6 ?_
  obtain ⟨w3, e2, hM⟩ := fa_ob hM
  refine g_callV_v X ck_10 fo_181 (fn_181 hN) rfl mi_Mod_writesProgram (c_Mod_writesProgram hN hT 0 w1 _ e2) wd_2045 rfl (Nat.le_trans (Nat.le_of_ble_eq_true rfl) hle) (st := []) (Nat.le_of_ble_eq_true rfl) rfl d_Mod_show_7 ?_
  refine g_aload_n X 0 rfl d_Mod_show_10 ?_
  refine g_get X ck_10 fo_181 (fn_181 hN) 70 (by decide) wd_1811 rfl (fa_fvI rfl) d_Mod_show_11 ?_
  cases hM
  exact g_iret X d_Mod_show_14
theorem d_Mod_octet_0 : decode prog_12_method_97_code 0 = .ok (.aload_n 0, 1) := by decide +kernel
theorem d_Mod_octet_1 : decode prog_12_method_97_code 1 = .ok (.iconst 0, 1) := by decide +kernel
theorem d_Mod_octet_2 : decode prog_12_method_97_code 2 = .ok (.putfield 1, 3) := by decide +kernel
theorem d_Mod_octet_5 : decode prog_12_method_97_code 5 = .ok (.iload_n 1, 1) := by decide +kernel
theorem d_Mod_octet_6 : decode prog_12_method_97_code 6 = .ok (.iconst 0, 1) := by decide +kernel
theorem d_Mod_octet_7 : decode prog_12_method_97_code 7 = .ok (.aload_n 0, 1) := by decide +kernel
theorem d_Mod_octet_8 : decode prog_12_method_97_code 8 = .ok (.getfield 482, 3) := by decide +kernel
theorem d_Mod_octet_11 : decode prog_12_method_97_code 11 = .ok (.iconst 1, 1) := by decide +kernel
theorem d_Mod_octet_12 : decode prog_12_method_97_code 12 = .ok (.isub, 1) := by decide +kernel
theorem d_Mod_octet_13 : decode prog_12_method_97_code 13 = .ok (.invokestatic 530, 3) := by decide +kernel
theorem d_Mod_octet_16 : decode prog_12_method_97_code 16 = .ok (.ifCond .eq 12, 3) := by decide +kernel
theorem d_Mod_octet_19 : decode prog_12_method_97_code 19 = .ok (.aload_n 0, 1) := by decide +kernel
theorem d_Mod_octet_20 : decode prog_12_method_97_code 20 = .ok (.getfield 417, 3) := by decide +kernel
theorem d_Mod_octet_23 : decode prog_12_method_97_code 23 = .ok (.iload_n 1, 1) := by decide +kernel
theorem d_Mod_octet_24 : decode prog_12_method_97_code 24 = .ok (.baload, 1) := by decide +kernel
theorem d_Mod_octet_25 : decode prog_12_method_97_code 25 = .ok (.goto 4, 3) := by decide +kernel
theorem d_Mod_octet_28 : decode prog_12_method_97_code 28 = .ok (.iconst (-1), 1) := by decide +kernel
theorem d_Mod_octet_29 : decode prog_12_method_97_code 29 = .ok (.ireturn, 1) := by decide +kernel
def fm_Mod_octet (a1 : Int) (w : fa_W) : Option (Int × fa_W) :=
  fa_let (fa_st w 181 0 0) fun w1 =>
  if fm_Mod_in a1 0 ((w1 181 70) - 1) w1 = true then
  ((fa_ix a1 40000).bind fun j4 =>
  some (w1 197 j4, w1))
  else
  some ((-1), w1)
set_option maxHeartbeats 4000000 in
set_option maxRecDepth 100000 in
theorem c_Mod_octet {l : Launch} {D : va_G} {b : Nat} {aC : Nat → ClassId} {H0 : Heap} {N T : Nat} (hN : fa_NM ≤ N) (hT : fa_TM ≤ T) (a1 : Int)  (w : fa_W) (r : Int × fa_W) (hM : fm_Mod_octet a1 w = some r) : fa_MC l D b aC H0 N T y_Mod_octet prog_12_method_97_code 2 ((Option.some Jvm.ClassFile.FieldType.int)) (1) [.ref (b + 181), .int (fa_I a1)] w (some (.int (fa_I r.1))) r.2 := by
  refine fa_enter (lv := [(0, .ref (b + 181)), (1, .int (fa_I a1))]) (by decide +kernel) (Nat.le_of_ble_eq_true rfl) rfl (fun hh hle hnm X => ?_)
  unfold fm_Mod_octet at hM
  refine g_aload_n X 0 rfl d_Mod_octet_0 ?_
  refine g_iconst X d_Mod_octet_1 ?_
  refine g_put X ck_10 fo_181 (fn_181 hN) 0 (z := 0) (by decide) wd_1742 rfl (fa_fvI' rfl) rfl rfl rfl d_Mod_octet_2 (fun w1 ew1 => ?_)
  have hM := fa_let_to hM ew1
  refine g_iload_n X 1 rfl d_Mod_octet_5 ?_
  refine g_iconst X d_Mod_octet_6 ?_
  refine g_aload_n X 0 rfl d_Mod_octet_7 ?_
  refine g_get X ck_10 fo_181 (fn_181 hN) 70 (by decide) wd_1811 rfl (fa_fvI rfl) d_Mod_octet_8 ?_
  refine g_iconst X d_Mod_octet_11 ?_
  refine g_isub X d_Mod_octet_12 ?_
  refine g_callS_i X mi_Mod_in (c_Mod_in hN hT a1 0 ((w1 181 70) - 1) w1 _ rfl) wd_2093 rfl (Nat.le_trans (Nat.le_of_ble_eq_true rfl) hle) (st := []) (Nat.le_of_ble_eq_true rfl) rfl d_Mod_octet_13 ?_
  refine g_ifb_eq X 28 d_Mod_octet_16 (by decide) (fun hc3 => ?_) (fun hc3 => ?_)
  · have hM := fa_ifb_f hM hc3
    refine g_iconst X d_Mod_octet_28 ?_
    cases hM
    exact g_iret X d_Mod_octet_29
  · have hM := fa_ifb_t hM hc3
    refine g_aload_n X 0 rfl d_Mod_octet_19 ?_
    refine g_get X ck_10 fo_181 (fn_181 hN) 23 (by decide) wd_1765 rfl (fr_181_23 rfl hT) d_Mod_octet_20 ?_
    refine g_iload_n X 1 rfl d_Mod_octet_23 ?_
    obtain ⟨j4, ej4, hM⟩ := fa_ob hM
    refine g_bald X fs_197 (fn_197 hN) ej4 d_Mod_octet_24 ?_
    refine g_goto X 29 d_Mod_octet_25 (by decide) ?_
    cases hM
    exact g_iret X d_Mod_octet_29
theorem d_Mod_puts_0 : decode prog_12_method_98_code 0 = .ok (.aload_n 0, 1) := by decide +kernel
theorem d_Mod_puts_1 : decode prog_12_method_98_code 1 = .ok (.getfield 430, 3) := by decide +kernel
theorem d_Mod_puts_4 : decode prog_12_method_98_code 4 = .ok (.aload_n 0, 1) := by decide +kernel
theorem d_Mod_puts_5 : decode prog_12_method_98_code 5 = .ok (.getfield 549, 3) := by decide +kernel
theorem d_Mod_puts_8 : decode prog_12_method_98_code 8 = .ok (.iload_n 1, 1) := by decide +kernel
theorem d_Mod_puts_9 : decode prog_12_method_98_code 9 = .ok (.iastore, 1) := by decide +kernel
theorem d_Mod_puts_10 : decode prog_12_method_98_code 10 = .ok (.aload_n 0, 1) := by decide +kernel
theorem d_Mod_puts_11 : decode prog_12_method_98_code 11 = .ok (.getfield 433, 3) := by decide +kernel
theorem d_Mod_puts_14 : decode prog_12_method_98_code 14 = .ok (.aload_n 0, 1) := by decide +kernel
theorem d_Mod_puts_15 : decode prog_12_method_98_code 15 = .ok (.getfield 549, 3) := by decide +kernel
theorem d_Mod_puts_18 : decode prog_12_method_98_code 18 = .ok (.iload_n 2, 1) := by decide +kernel
theorem d_Mod_puts_19 : decode prog_12_method_98_code 19 = .ok (.iastore, 1) := by decide +kernel
theorem d_Mod_puts_20 : decode prog_12_method_98_code 20 = .ok (.aload_n 0, 1) := by decide +kernel
theorem d_Mod_puts_21 : decode prog_12_method_98_code 21 = .ok (.getfield 436, 3) := by decide +kernel
theorem d_Mod_puts_24 : decode prog_12_method_98_code 24 = .ok (.aload_n 0, 1) := by decide +kernel
theorem d_Mod_puts_25 : decode prog_12_method_98_code 25 = .ok (.getfield 549, 3) := by decide +kernel
theorem d_Mod_puts_28 : decode prog_12_method_98_code 28 = .ok (.iload_n 3, 1) := by decide +kernel
theorem d_Mod_puts_29 : decode prog_12_method_98_code 29 = .ok (.iastore, 1) := by decide +kernel
theorem d_Mod_puts_30 : decode prog_12_method_98_code 30 = .ok (.aload_n 0, 1) := by decide +kernel
theorem d_Mod_puts_31 : decode prog_12_method_98_code 31 = .ok (.dup, 1) := by decide +kernel
theorem d_Mod_puts_32 : decode prog_12_method_98_code 32 = .ok (.getfield 549, 3) := by decide +kernel
theorem d_Mod_puts_35 : decode prog_12_method_98_code 35 = .ok (.iconst 1, 1) := by decide +kernel
theorem d_Mod_puts_36 : decode prog_12_method_98_code 36 = .ok (.iadd, 1) := by decide +kernel
theorem d_Mod_puts_37 : decode prog_12_method_98_code 37 = .ok (.putfield 549, 3) := by decide +kernel
theorem d_Mod_puts_40 : decode prog_12_method_98_code 40 = .ok (.return_, 1) := by decide +kernel
def fm_Mod_puts (a1 : Int) (a2 : Int) (a3 : Int) (w : fa_W) : Option fa_W :=
  (fa_ix (w 181 86) 55000).bind fun j1 =>
  fa_let (fa_st w 226 j1 a1) fun w2 =>
  (fa_ix (w2 181 86) 55000).bind fun j3 =>
  fa_let (fa_st w2 227 j3 a2) fun w4 =>
  (fa_ix (w4 181 86) 55000).bind fun j5 =>
  fa_let (fa_st w4 228 j5 a3) fun w6 =>
  fa_let (fa_st w6 181 86 ((w6 181 86) + 1)) fun w7 =>
  some w7
set_option maxHeartbeats 4000000 in
set_option maxRecDepth 100000 in
theorem c_Mod_puts {l : Launch} {D : va_G} {b : Nat} {aC : Nat → ClassId} {H0 : Heap} {N T : Nat} (hN : fa_NM ≤ N) (hT : fa_TM ≤ T) (a1 : Int) (a2 : Int) (a3 : Int)  (w : fa_W) (r : fa_W) (hM : fm_Mod_puts a1 a2 a3 w = some r) : fa_MC l D b aC H0 N T y_Mod_puts prog_12_method_98_code 4 ((Option.none : Option Jvm.ClassFile.FieldType)) (0) [.ref (b + 181), .int (fa_I a1), .int (fa_I a2), .int (fa_I a3)] w (none) r := by
  refine fa_enter (lv := [(0, .ref (b + 181)), (1, .int (fa_I a1)), (2, .int (fa_I a2)), (3, .int (fa_I a3))]) (by decide +kernel) (Nat.le_of_ble_eq_true rfl) rfl (fun hh hle hnm X => ?_)
  unfold fm_Mod_puts at hM
  refine g_aload_n X 0 rfl d_Mod_puts_0 ?_
  refine g_get X ck_10 fo_181 (fn_181 hN) 75 (by decide) wd_1816 rfl (fr_181_75 rfl hT) d_Mod_puts_1 ?_
  refine g_aload_n X 0 rfl d_Mod_puts_4 ?_
  refine g_get X ck_10 fo_181 (fn_181 hN) 86 (by decide) wd_1827 rfl (fa_fvI rfl) d_Mod_puts_5 ?_
  refine g_iload_n X 1 rfl d_Mod_puts_8 ?_
  obtain ⟨j1, ej1, hM⟩ := fa_ob hM
  refine g_iast X fs_226 (fn_226 hN) ej1 d_Mod_puts_9 (fun w2 ew2 => ?_)
  have hM := fa_let_to hM ew2
  refine g_aload_n X 0 rfl d_Mod_puts_10 ?_
  refine g_get X ck_10 fo_181 (fn_181 hN) 76 (by decide) wd_1817 rfl (fr_181_76 rfl hT) d_Mod_puts_11 ?_
  refine g_aload_n X 0 rfl d_Mod_puts_14 ?_
  refine g_get X ck_10 fo_181 (fn_181 hN) 86 (by decide) wd_1827 rfl (fa_fvI rfl) d_Mod_puts_15 ?_
  refine g_iload_n X 2 rfl d_Mod_puts_18 ?_
  obtain ⟨j3, ej3, hM⟩ := fa_ob hM
  refine g_iast X fs_227 (fn_227 hN) ej3 d_Mod_puts_19 (fun w4 ew4 => ?_)
  have hM := fa_let_to hM ew4
  refine g_aload_n X 0 rfl d_Mod_puts_20 ?_
  refine g_get X ck_10 fo_181 (fn_181 hN) 77 (by decide) wd_1818 rfl (fr_181_77 rfl hT) d_Mod_puts_21 ?_
  refine g_aload_n X 0 rfl d_Mod_puts_24 ?_
  refine g_get X ck_10 fo_181 (fn_181 hN) 86 (by decide) wd_1827 rfl (fa_fvI rfl) d_Mod_puts_25 ?_
  refine g_iload_n X 3 rfl d_Mod_puts_28 ?_
  obtain ⟨j5, ej5, hM⟩ := fa_ob hM
  refine g_iast X fs_228 (fn_228 hN) ej5 d_Mod_puts_29 (fun w6 ew6 => ?_)
  have hM := fa_let_to hM ew6
  refine g_aload_n X 0 rfl d_Mod_puts_30 ?_
  refine g_dup X rfl d_Mod_puts_31 ?_
  refine g_get X ck_10 fo_181 (fn_181 hN) 86 (by decide) wd_1827 rfl (fa_fvI rfl) d_Mod_puts_32 ?_
  refine g_iconst X d_Mod_puts_35 ?_
  refine g_iadd X d_Mod_puts_36 ?_
  refine g_put X ck_10 fo_181 (fn_181 hN) 86 (z := ((w6 181 86) + 1)) (by decide) wd_1827 rfl (fa_fvI' rfl) rfl rfl rfl d_Mod_puts_37 (fun w7 ew7 => ?_)
  have hM := fa_let_to hM ew7
  cases hM
  exact g_vret X d_Mod_puts_40
theorem d_Mod_frameOfBinder_0 : decode prog_12_method_99_code 0 = .ok (.iload_n 2, 1) := by decide +kernel
theorem d_Mod_frameOfBinder_1 : decode prog_12_method_99_code 1 = .ok (.istore_n 3, 1) := by decide +kernel
theorem d_Mod_frameOfBinder_2 : decode prog_12_method_99_code 2 = .ok (.aload_n 0, 1) := by decide +kernel
theorem d_Mod_frameOfBinder_3 : decode prog_12_method_99_code 3 = .ok (.getfield 448, 3) := by decide +kernel
theorem d_Mod_frameOfBinder_6 : decode prog_12_method_99_code 6 = .ok (.iload_n 3, 1) := by decide +kernel
theorem d_Mod_frameOfBinder_7 : decode prog_12_method_99_code 7 = .ok (.iaload, 1) := by decide +kernel
theorem d_Mod_frameOfBinder_8 : decode prog_12_method_99_code 8 = .ok (.aload_n 0, 1) := by decide +kernel
theorem d_Mod_frameOfBinder_9 : decode prog_12_method_99_code 9 = .ok (.getfield 119, 3) := by decide +kernel
theorem d_Mod_frameOfBinder_12 : decode prog_12_method_99_code 12 = .ok (.iload_n 1, 1) := by decide +kernel
theorem d_Mod_frameOfBinder_13 : decode prog_12_method_99_code 13 = .ok (.iaload, 1) := by decide +kernel
theorem d_Mod_frameOfBinder_14 : decode prog_12_method_99_code 14 = .ok (.if_icmp .eq 13, 3) := by decide +kernel
theorem d_Mod_frameOfBinder_17 : decode prog_12_method_99_code 17 = .ok (.aload_n 0, 1) := by decide +kernel
theorem d_Mod_frameOfBinder_18 : decode prog_12_method_99_code 18 = .ok (.getfield 451, 3) := by decide +kernel
theorem d_Mod_frameOfBinder_21 : decode prog_12_method_99_code 21 = .ok (.iload_n 3, 1) := by decide +kernel
theorem d_Mod_frameOfBinder_22 : decode prog_12_method_99_code 22 = .ok (.iaload, 1) := by decide +kernel
theorem d_Mod_frameOfBinder_23 : decode prog_12_method_99_code 23 = .ok (.istore_n 3, 1) := by decide +kernel
theorem d_Mod_frameOfBinder_24 : decode prog_12_method_99_code 24 = .ok (.goto (-22), 3) := by decide +kernel
theorem d_Mod_frameOfBinder_27 : decode prog_12_method_99_code 27 = .ok (.iload_n 3, 1) := by decide +kernel
theorem d_Mod_frameOfBinder_28 : decode prog_12_method_99_code 28 = .ok (.ireturn, 1) := by decide +kernel
def fm_Mod_frameOfBinder_l2 (a1 : Int) (a2 : Int) (w : fa_W) : Nat → Int → Option Int
  | 0, _ => none
  | n + 1, x3 => (fa_ix x3 110).bind fun j1 =>
  (fa_ix a1 124).bind fun j2 =>
  if fa_wr (w 232 j1) = fa_wr (w 193 j2) then
  some x3
  else
  ((fa_ix x3 110).bind fun j4 =>
  fa_let (w 233 j4) fun x3_5 =>
  fm_Mod_frameOfBinder_l2 a1 a2 w n x3_5)
set_option maxHeartbeats 4000000 in
set_option maxRecDepth 100000 in
theorem c_Mod_frameOfBinder_l2 {p : Program} {l : Launch} {e : Env} {s : State} {m : MethodId} {args : Array Value} {below : List Frame} {meth : Method} {c : Code} {hh : Nat} {D : va_G} {b : Nat} {aC : Nat → ClassId} {H0 : Heap} {N T : Nat} (X : fa_GX p s m args meth c prog_12_method_99_code 4 ((Option.some Jvm.ClassFile.FieldType.int)) y_Mod_frameOfBinder.cls D b aC) (hle : 0 ≤ hh) (hN : fa_NM ≤ N) (hT : fa_TM ≤ T) (a1 : Int) (a2 : Int) {r : Int} (w : fa_W) : ∀ (n : Nat) (x3 : Int), fm_Mod_frameOfBinder_l2 a1 a2 w n x3 = some r → fa_GJ p l e (fa_rm hh) s m args below meth c 0 0 (MQ below (fa_Qc D b aC H0 N T (some (.int (fa_I r))) w) args s 0 0 (fun q => b ≤ q)) D b aC H0 N T 4 w 2 [(0, .ref (b + 181)), (1, .int (fa_I a1)), (3, .int (fa_I x3))] [] := by
  intro n
  induction n with
  | zero => intro x3 hM; exact fa_no hM
  | succ n ih =>
    intro x3 hM
    rw [fm_Mod_frameOfBinder_l2] at hM
    refine g_aload_n X 0 rfl d_Mod_frameOfBinder_2 ?_
    refine g_get X ck_10 fo_181 (fn_181 hN) 81 (by decide) wd_1822 rfl (fr_181_81 rfl hT) d_Mod_frameOfBinder_3 ?_
    refine g_iload_n X 2 rfl d_Mod_frameOfBinder_6 ?_
    obtain ⟨j1, ej1, hM⟩ := fa_ob hM
    refine g_iald X fs_232 (fn_232 hN) ej1 d_Mod_frameOfBinder_7 ?_
    refine g_aload_n X 0 rfl d_Mod_frameOfBinder_8 ?_
    refine g_get X ck_10 fo_181 (fn_181 hN) 13 (by decide) wd_1755 rfl (fr_181_13 rfl hT) d_Mod_frameOfBinder_9 ?_
    refine g_iload_n X 1 rfl d_Mod_frameOfBinder_12 ?_
    obtain ⟨j2, ej2, hM⟩ := fa_ob hM
    refine g_iald X fs_193 (fn_193 hN) ej2 d_Mod_frameOfBinder_13 ?_
    refine g_icmp_eq X 27 d_Mod_frameOfBinder_14 (by decide) (fun hc3 => ?_) (fun hc3 => ?_)
    · have hM := fa_if_t hM hc3
      refine g_iload_n X 2 rfl d_Mod_frameOfBinder_27 ?_
      cases hM
      exact g_iret X d_Mod_frameOfBinder_28
    · have hM := fa_if_f hM hc3
      refine g_aload_n X 0 rfl d_Mod_frameOfBinder_17 ?_
      refine g_get X ck_10 fo_181 (fn_181 hN) 82 (by decide) wd_1823 rfl (fr_181_82 rfl hT) d_Mod_frameOfBinder_18 ?_
      refine g_iload_n X 2 rfl d_Mod_frameOfBinder_21 ?_
      obtain ⟨j4, ej4, hM⟩ := fa_ob hM
      refine g_iald X fs_233 (fn_233 hN) ej4 d_Mod_frameOfBinder_22 ?_
      refine g_istore_n X (fun x3_5 => [(3, .int (fa_I x3_5)), (0, .ref (b + 181)), (1, .int (fa_I a1))]) d_Mod_frameOfBinder_23 (by decide) (fun _ => rfl) (fun x3_5 ex3_5 => ?_)
      have hM := fa_let_to hM ex3_5
      refine g_goto X 2 d_Mod_frameOfBinder_24 (by decide) ?_
      exact g_lv [1, 2, 0] rfl (ih _ hM)
def fm_Mod_frameOfBinder (a1 : Int) (a2 : Int) (w : fa_W) : Option Int :=
  fm_Mod_frameOfBinder_l2 a1 a2 w fa_FU a2
set_option maxHeartbeats 4000000 in
set_option maxRecDepth 100000 in
theorem c_Mod_frameOfBinder {l : Launch} {D : va_G} {b : Nat} {aC : Nat → ClassId} {H0 : Heap} {N T : Nat} (hN : fa_NM ≤ N) (hT : fa_TM ≤ T) (a1 : Int) (a2 : Int)  (w : fa_W) (r : Int) (hM : fm_Mod_frameOfBinder a1 a2 w = some r) : fa_MC l D b aC H0 N T y_Mod_frameOfBinder prog_12_method_99_code 4 ((Option.some Jvm.ClassFile.FieldType.int)) (0) [.ref (b + 181), .int (fa_I a1), .int (fa_I a2)] w (some (.int (fa_I r))) w := by
  refine fa_enter (lv := [(0, .ref (b + 181)), (1, .int (fa_I a1)), (2, .int (fa_I a2))]) (by decide +kernel) (Nat.le_of_ble_eq_true rfl) rfl (fun hh hle hnm X => ?_)
  unfold fm_Mod_frameOfBinder at hM
  refine g_iload_n X 2 rfl d_Mod_frameOfBinder_0 ?_
  refine g_istorec_n X [(3, .int (fa_I a2)), (0, .ref (b + 181)), (1, .int (fa_I a1)), (2, .int (fa_I a2))] d_Mod_frameOfBinder_1 (by decide) rfl ?_
  exact g_lv [1, 2, 0] rfl (c_Mod_frameOfBinder_l2 X hle hN hT a1 a2 w  fa_FU _ hM)
theorem d_Mod_holdsIn_0 : decode prog_12_method_100_code 0 = .ok (.aload_n 0, 1) := by decide +kernel
theorem d_Mod_holdsIn_1 : decode prog_12_method_100_code 1 = .ok (.dup, 1) := by decide +kernel
theorem d_Mod_holdsIn_2 : decode prog_12_method_100_code 2 = .ok (.getfield 549, 3) := by decide +kernel
theorem d_Mod_holdsIn_5 : decode prog_12_method_100_code 5 = .ok (.iconst 1, 1) := by decide +kernel
theorem d_Mod_holdsIn_6 : decode prog_12_method_100_code 6 = .ok (.isub, 1) := by decide +kernel
theorem d_Mod_holdsIn_7 : decode prog_12_method_100_code 7 = .ok (.putfield 549, 3) := by decide +kernel
theorem d_Mod_holdsIn_10 : decode prog_12_method_100_code 10 = .ok (.aload_n 0, 1) := by decide +kernel
theorem d_Mod_holdsIn_11 : decode prog_12_method_100_code 11 = .ok (.getfield 439, 3) := by decide +kernel
theorem d_Mod_holdsIn_14 : decode prog_12_method_100_code 14 = .ok (.bipush 124, 2) := by decide +kernel
theorem d_Mod_holdsIn_16 : decode prog_12_method_100_code 16 = .ok (.iload_n 1, 1) := by decide +kernel
theorem d_Mod_holdsIn_17 : decode prog_12_method_100_code 17 = .ok (.imul, 1) := by decide +kernel
theorem d_Mod_holdsIn_18 : decode prog_12_method_100_code 18 = .ok (.iload_n 2, 1) := by decide +kernel
theorem d_Mod_holdsIn_19 : decode prog_12_method_100_code 19 = .ok (.iadd, 1) := by decide +kernel
theorem d_Mod_holdsIn_20 : decode prog_12_method_100_code 20 = .ok (.aload_n 0, 1) := by decide +kernel
theorem d_Mod_holdsIn_21 : decode prog_12_method_100_code 21 = .ok (.getfield 430, 3) := by decide +kernel
theorem d_Mod_holdsIn_24 : decode prog_12_method_100_code 24 = .ok (.aload_n 0, 1) := by decide +kernel
theorem d_Mod_holdsIn_25 : decode prog_12_method_100_code 25 = .ok (.getfield 549, 3) := by decide +kernel
theorem d_Mod_holdsIn_28 : decode prog_12_method_100_code 28 = .ok (.iaload, 1) := by decide +kernel
theorem d_Mod_holdsIn_29 : decode prog_12_method_100_code 29 = .ok (.iastore, 1) := by decide +kernel
theorem d_Mod_holdsIn_30 : decode prog_12_method_100_code 30 = .ok (.aload_n 0, 1) := by decide +kernel
theorem d_Mod_holdsIn_31 : decode prog_12_method_100_code 31 = .ok (.getfield 442, 3) := by decide +kernel
theorem d_Mod_holdsIn_34 : decode prog_12_method_100_code 34 = .ok (.bipush 124, 2) := by decide +kernel
theorem d_Mod_holdsIn_36 : decode prog_12_method_100_code 36 = .ok (.iload_n 1, 1) := by decide +kernel
theorem d_Mod_holdsIn_37 : decode prog_12_method_100_code 37 = .ok (.imul, 1) := by decide +kernel
theorem d_Mod_holdsIn_38 : decode prog_12_method_100_code 38 = .ok (.iload_n 2, 1) := by decide +kernel
theorem d_Mod_holdsIn_39 : decode prog_12_method_100_code 39 = .ok (.iadd, 1) := by decide +kernel
theorem d_Mod_holdsIn_40 : decode prog_12_method_100_code 40 = .ok (.aload_n 0, 1) := by decide +kernel
theorem d_Mod_holdsIn_41 : decode prog_12_method_100_code 41 = .ok (.getfield 433, 3) := by decide +kernel
theorem d_Mod_holdsIn_44 : decode prog_12_method_100_code 44 = .ok (.aload_n 0, 1) := by decide +kernel
theorem d_Mod_holdsIn_45 : decode prog_12_method_100_code 45 = .ok (.getfield 549, 3) := by decide +kernel
theorem d_Mod_holdsIn_48 : decode prog_12_method_100_code 48 = .ok (.iaload, 1) := by decide +kernel
theorem d_Mod_holdsIn_49 : decode prog_12_method_100_code 49 = .ok (.iastore, 1) := by decide +kernel
theorem d_Mod_holdsIn_50 : decode prog_12_method_100_code 50 = .ok (.aload_n 0, 1) := by decide +kernel
theorem d_Mod_holdsIn_51 : decode prog_12_method_100_code 51 = .ok (.getfield 445, 3) := by decide +kernel
theorem d_Mod_holdsIn_54 : decode prog_12_method_100_code 54 = .ok (.bipush 124, 2) := by decide +kernel
theorem d_Mod_holdsIn_56 : decode prog_12_method_100_code 56 = .ok (.iload_n 1, 1) := by decide +kernel
theorem d_Mod_holdsIn_57 : decode prog_12_method_100_code 57 = .ok (.imul, 1) := by decide +kernel
theorem d_Mod_holdsIn_58 : decode prog_12_method_100_code 58 = .ok (.iload_n 2, 1) := by decide +kernel
theorem d_Mod_holdsIn_59 : decode prog_12_method_100_code 59 = .ok (.iadd, 1) := by decide +kernel
theorem d_Mod_holdsIn_60 : decode prog_12_method_100_code 60 = .ok (.aload_n 0, 1) := by decide +kernel
theorem d_Mod_holdsIn_61 : decode prog_12_method_100_code 61 = .ok (.getfield 436, 3) := by decide +kernel
theorem d_Mod_holdsIn_64 : decode prog_12_method_100_code 64 = .ok (.aload_n 0, 1) := by decide +kernel
theorem d_Mod_holdsIn_65 : decode prog_12_method_100_code 65 = .ok (.getfield 549, 3) := by decide +kernel
theorem d_Mod_holdsIn_68 : decode prog_12_method_100_code 68 = .ok (.iaload, 1) := by decide +kernel
theorem d_Mod_holdsIn_69 : decode prog_12_method_100_code 69 = .ok (.iastore, 1) := by decide +kernel
theorem d_Mod_holdsIn_70 : decode prog_12_method_100_code 70 = .ok (.return_, 1) := by decide +kernel
def fm_Mod_holdsIn (a1 : Int) (a2 : Int) (w : fa_W) : Option fa_W :=
  fa_let (fa_st w 181 86 ((w 181 86) - 1)) fun w1 =>
  (fa_ix (w1 181 86) 55000).bind fun j2 =>
  (fa_ix ((124 * a1) + a2) 13640).bind fun j3 =>
  fa_let (fa_st w1 229 j3 (w1 226 j2)) fun w4 =>
  (fa_ix (w4 181 86) 55000).bind fun j5 =>
  (fa_ix ((124 * a1) + a2) 13640).bind fun j6 =>
  fa_let (fa_st w4 230 j6 (w4 227 j5)) fun w7 =>
  (fa_ix (w7 181 86) 55000).bind fun j8 =>
  (fa_ix ((124 * a1) + a2) 13640).bind fun j9 =>
  fa_let (fa_st w7 231 j9 (w7 228 j8)) fun w10 =>
  some w10
set_option maxHeartbeats 4000000 in
set_option maxRecDepth 100000 in
theorem c_Mod_holdsIn {l : Launch} {D : va_G} {b : Nat} {aC : Nat → ClassId} {H0 : Heap} {N T : Nat} (hN : fa_NM ≤ N) (hT : fa_TM ≤ T) (a1 : Int) (a2 : Int)  (w : fa_W) (r : fa_W) (hM : fm_Mod_holdsIn a1 a2 w = some r) : fa_MC l D b aC H0 N T y_Mod_holdsIn prog_12_method_100_code 3 ((Option.none : Option Jvm.ClassFile.FieldType)) (0) [.ref (b + 181), .int (fa_I a1), .int (fa_I a2)] w (none) r := by
  refine fa_enter (lv := [(0, .ref (b + 181)), (1, .int (fa_I a1)), (2, .int (fa_I a2))]) (by decide +kernel) (Nat.le_of_ble_eq_true rfl) rfl (fun hh hle hnm X => ?_)
  unfold fm_Mod_holdsIn at hM
  refine g_aload_n X 0 rfl d_Mod_holdsIn_0 ?_
  refine g_dup X rfl d_Mod_holdsIn_1 ?_
  refine g_get X ck_10 fo_181 (fn_181 hN) 86 (by decide) wd_1827 rfl (fa_fvI rfl) d_Mod_holdsIn_2 ?_
  refine g_iconst X d_Mod_holdsIn_5 ?_
  refine g_isub X d_Mod_holdsIn_6 ?_
  refine g_put X ck_10 fo_181 (fn_181 hN) 86 (z := ((w 181 86) - 1)) (by decide) wd_1827 rfl (fa_fvI' rfl) rfl rfl rfl d_Mod_holdsIn_7 (fun w1 ew1 => ?_)
  have hM := fa_let_to hM ew1
  refine g_aload_n X 0 rfl d_Mod_holdsIn_10 ?_
  refine g_get X ck_10 fo_181 (fn_181 hN) 78 (by decide) wd_1819 rfl (fr_181_78 rfl hT) d_Mod_holdsIn_11 ?_
  refine g_bipush X (by decide) d_Mod_holdsIn_14 ?_
  refine g_iload_n X 1 rfl d_Mod_holdsIn_16 ?_
  refine g_imul X d_Mod_holdsIn_17 ?_
  refine g_iload_n X 2 rfl d_Mod_holdsIn_18 ?_
  refine g_iadd X d_Mod_holdsIn_19 ?_
  refine g_aload_n X 0 rfl d_Mod_holdsIn_20 ?_
  refine g_get X ck_10 fo_181 (fn_181 hN) 75 (by decide) wd_1816 rfl (fr_181_75 rfl hT) d_Mod_holdsIn_21 ?_
  refine g_aload_n X 0 rfl d_Mod_holdsIn_24 ?_
  refine g_get X ck_10 fo_181 (fn_181 hN) 86 (by decide) wd_1827 rfl (fa_fvI rfl) d_Mod_holdsIn_25 ?_
  obtain ⟨j2, ej2, hM⟩ := fa_ob hM
  refine g_iald X fs_226 (fn_226 hN) ej2 d_Mod_holdsIn_28 ?_
  obtain ⟨j3, ej3, hM⟩ := fa_ob hM
  refine g_iast X fs_229 (fn_229 hN) ej3 d_Mod_holdsIn_29 (fun w4 ew4 => ?_)
  have hM := fa_let_to hM ew4
  refine g_aload_n X 0 rfl d_Mod_holdsIn_30 ?_
  refine g_get X ck_10 fo_181 (fn_181 hN) 79 (by decide) wd_1820 rfl (fr_181_79 rfl hT) d_Mod_holdsIn_31 ?_
  refine g_bipush X (by decide) d_Mod_holdsIn_34 ?_
  refine g_iload_n X 1 rfl d_Mod_holdsIn_36 ?_
  refine g_imul X d_Mod_holdsIn_37 ?_
  refine g_iload_n X 2 rfl d_Mod_holdsIn_38 ?_
  refine g_iadd X d_Mod_holdsIn_39 ?_
  refine g_aload_n X 0 rfl d_Mod_holdsIn_40 ?_
  refine g_get X ck_10 fo_181 (fn_181 hN) 76 (by decide) wd_1817 rfl (fr_181_76 rfl hT) d_Mod_holdsIn_41 ?_
  refine g_aload_n X 0 rfl d_Mod_holdsIn_44 ?_
  refine g_get X ck_10 fo_181 (fn_181 hN) 86 (by decide) wd_1827 rfl (fa_fvI rfl) d_Mod_holdsIn_45 ?_
  obtain ⟨j5, ej5, hM⟩ := fa_ob hM
  refine g_iald X fs_227 (fn_227 hN) ej5 d_Mod_holdsIn_48 ?_
  obtain ⟨j6, ej6, hM⟩ := fa_ob hM
  refine g_iast X fs_230 (fn_230 hN) ej6 d_Mod_holdsIn_49 (fun w7 ew7 => ?_)
  have hM := fa_let_to hM ew7
  refine g_aload_n X 0 rfl d_Mod_holdsIn_50 ?_
  refine g_get X ck_10 fo_181 (fn_181 hN) 80 (by decide) wd_1821 rfl (fr_181_80 rfl hT) d_Mod_holdsIn_51 ?_
  refine g_bipush X (by decide) d_Mod_holdsIn_54 ?_
  refine g_iload_n X 1 rfl d_Mod_holdsIn_56 ?_
  refine g_imul X d_Mod_holdsIn_57 ?_
  refine g_iload_n X 2 rfl d_Mod_holdsIn_58 ?_
  refine g_iadd X d_Mod_holdsIn_59 ?_
  refine g_aload_n X 0 rfl d_Mod_holdsIn_60 ?_
  refine g_get X ck_10 fo_181 (fn_181 hN) 77 (by decide) wd_1818 rfl (fr_181_77 rfl hT) d_Mod_holdsIn_61 ?_
  refine g_aload_n X 0 rfl d_Mod_holdsIn_64 ?_
  refine g_get X ck_10 fo_181 (fn_181 hN) 86 (by decide) wd_1827 rfl (fa_fvI rfl) d_Mod_holdsIn_65 ?_
  obtain ⟨j8, ej8, hM⟩ := fa_ob hM
  refine g_iald X fs_228 (fn_228 hN) ej8 d_Mod_holdsIn_68 ?_
  obtain ⟨j9, ej9, hM⟩ := fa_ob hM
  refine g_iast X fs_231 (fn_231 hN) ej9 d_Mod_holdsIn_69 (fun w10 ew10 => ?_)
  have hM := fa_let_to hM ew10
  cases hM
  exact g_vret X d_Mod_holdsIn_70
theorem d_Mod_frame_0 : decode prog_12_method_101_code 0 = .ok (.aload_n 0, 1) := by decide +kernel
theorem d_Mod_frame_1 : decode prog_12_method_101_code 1 = .ok (.getfield 448, 3) := by decide +kernel
theorem d_Mod_frame_4 : decode prog_12_method_101_code 4 = .ok (.aload_n 0, 1) := by decide +kernel
theorem d_Mod_frame_5 : decode prog_12_method_101_code 5 = .ok (.getfield 552, 3) := by decide +kernel
theorem d_Mod_frame_8 : decode prog_12_method_101_code 8 = .ok (.iload_n 1, 1) := by decide +kernel
theorem d_Mod_frame_9 : decode prog_12_method_101_code 9 = .ok (.iastore, 1) := by decide +kernel
theorem d_Mod_frame_10 : decode prog_12_method_101_code 10 = .ok (.aload_n 0, 1) := by decide +kernel
theorem d_Mod_frame_11 : decode prog_12_method_101_code 11 = .ok (.getfield 451, 3) := by decide +kernel
theorem d_Mod_frame_14 : decode prog_12_method_101_code 14 = .ok (.aload_n 0, 1) := by decide +kernel
theorem d_Mod_frame_15 : decode prog_12_method_101_code 15 = .ok (.getfield 552, 3) := by decide +kernel
theorem d_Mod_frame_18 : decode prog_12_method_101_code 18 = .ok (.iload_n 2, 1) := by decide +kernel
theorem d_Mod_frame_19 : decode prog_12_method_101_code 19 = .ok (.iastore, 1) := by decide +kernel
theorem d_Mod_frame_20 : decode prog_12_method_101_code 20 = .ok (.aload_n 0, 1) := by decide +kernel
theorem d_Mod_frame_21 : decode prog_12_method_101_code 21 = .ok (.dup, 1) := by decide +kernel
theorem d_Mod_frame_22 : decode prog_12_method_101_code 22 = .ok (.getfield 552, 3) := by decide +kernel
theorem d_Mod_frame_25 : decode prog_12_method_101_code 25 = .ok (.iconst 1, 1) := by decide +kernel
theorem d_Mod_frame_26 : decode prog_12_method_101_code 26 = .ok (.iadd, 1) := by decide +kernel
theorem d_Mod_frame_27 : decode prog_12_method_101_code 27 = .ok (.putfield 552, 3) := by decide +kernel
theorem d_Mod_frame_30 : decode prog_12_method_101_code 30 = .ok (.aload_n 0, 1) := by decide +kernel
theorem d_Mod_frame_31 : decode prog_12_method_101_code 31 = .ok (.getfield 552, 3) := by decide +kernel
theorem d_Mod_frame_34 : decode prog_12_method_101_code 34 = .ok (.iconst 1, 1) := by decide +kernel
theorem d_Mod_frame_35 : decode prog_12_method_101_code 35 = .ok (.isub, 1) := by decide +kernel
theorem d_Mod_frame_36 : decode prog_12_method_101_code 36 = .ok (.ireturn, 1) := by decide +kernel
def fm_Mod_frame (a1 : Int) (a2 : Int) (w : fa_W) : Option (Int × fa_W) :=
  (fa_ix (w 181 87) 110).bind fun j1 =>
  fa_let (fa_st w 232 j1 a1) fun w2 =>
  (fa_ix (w2 181 87) 110).bind fun j3 =>
  fa_let (fa_st w2 233 j3 a2) fun w4 =>
  fa_let (fa_st w4 181 87 ((w4 181 87) + 1)) fun w5 =>
  some ((w5 181 87) - 1, w5)
set_option maxHeartbeats 4000000 in
set_option maxRecDepth 100000 in
theorem c_Mod_frame {l : Launch} {D : va_G} {b : Nat} {aC : Nat → ClassId} {H0 : Heap} {N T : Nat} (hN : fa_NM ≤ N) (hT : fa_TM ≤ T) (a1 : Int) (a2 : Int)  (w : fa_W) (r : Int × fa_W) (hM : fm_Mod_frame a1 a2 w = some r) : fa_MC l D b aC H0 N T y_Mod_frame prog_12_method_101_code 3 ((Option.some Jvm.ClassFile.FieldType.int)) (0) [.ref (b + 181), .int (fa_I a1), .int (fa_I a2)] w (some (.int (fa_I r.1))) r.2 := by
  refine fa_enter (lv := [(0, .ref (b + 181)), (1, .int (fa_I a1)), (2, .int (fa_I a2))]) (by decide +kernel) (Nat.le_of_ble_eq_true rfl) rfl (fun hh hle hnm X => ?_)
  unfold fm_Mod_frame at hM
  refine g_aload_n X 0 rfl d_Mod_frame_0 ?_
  refine g_get X ck_10 fo_181 (fn_181 hN) 81 (by decide) wd_1822 rfl (fr_181_81 rfl hT) d_Mod_frame_1 ?_
  refine g_aload_n X 0 rfl d_Mod_frame_4 ?_
  refine g_get X ck_10 fo_181 (fn_181 hN) 87 (by decide) wd_1828 rfl (fa_fvI rfl) d_Mod_frame_5 ?_
  refine g_iload_n X 1 rfl d_Mod_frame_8 ?_
  obtain ⟨j1, ej1, hM⟩ := fa_ob hM
  refine g_iast X fs_232 (fn_232 hN) ej1 d_Mod_frame_9 (fun w2 ew2 => ?_)
  have hM := fa_let_to hM ew2
  refine g_aload_n X 0 rfl d_Mod_frame_10 ?_
  refine g_get X ck_10 fo_181 (fn_181 hN) 82 (by decide) wd_1823 rfl (fr_181_82 rfl hT) d_Mod_frame_11 ?_
  refine g_aload_n X 0 rfl d_Mod_frame_14 ?_
  refine g_get X ck_10 fo_181 (fn_181 hN) 87 (by decide) wd_1828 rfl (fa_fvI rfl) d_Mod_frame_15 ?_
  refine g_iload_n X 2 rfl d_Mod_frame_18 ?_
  obtain ⟨j3, ej3, hM⟩ := fa_ob hM
  refine g_iast X fs_233 (fn_233 hN) ej3 d_Mod_frame_19 (fun w4 ew4 => ?_)
  have hM := fa_let_to hM ew4
  refine g_aload_n X 0 rfl d_Mod_frame_20 ?_
  refine g_dup X rfl d_Mod_frame_21 ?_
  refine g_get X ck_10 fo_181 (fn_181 hN) 87 (by decide) wd_1828 rfl (fa_fvI rfl) d_Mod_frame_22 ?_
  refine g_iconst X d_Mod_frame_25 ?_
  refine g_iadd X d_Mod_frame_26 ?_
  refine g_put X ck_10 fo_181 (fn_181 hN) 87 (z := ((w4 181 87) + 1)) (by decide) wd_1828 rfl (fa_fvI' rfl) rfl rfl rfl d_Mod_frame_27 (fun w5 ew5 => ?_)
  have hM := fa_let_to hM ew5
  refine g_aload_n X 0 rfl d_Mod_frame_30 ?_
  refine g_get X ck_10 fo_181 (fn_181 hN) 87 (by decide) wd_1828 rfl (fa_fvI rfl) d_Mod_frame_31 ?_
  refine g_iconst X d_Mod_frame_34 ?_
  refine g_isub X d_Mod_frame_35 ?_
  cases hM
  exact g_iret X d_Mod_frame_36
theorem d_Mod_reckons_0 : decode prog_12_method_103_code 0 = .ok (.aload_n 0, 1) := by decide +kernel
theorem d_Mod_reckons_1 : decode prog_12_method_103_code 1 = .ok (.getfield 430, 3) := by decide +kernel
theorem d_Mod_reckons_4 : decode prog_12_method_103_code 4 = .ok (.aload_n 0, 1) := by decide +kernel
theorem d_Mod_reckons_5 : decode prog_12_method_103_code 5 = .ok (.getfield 549, 3) := by decide +kernel
theorem d_Mod_reckons_8 : decode prog_12_method_103_code 8 = .ok (.iconst 1, 1) := by decide +kernel
theorem d_Mod_reckons_9 : decode prog_12_method_103_code 9 = .ok (.isub, 1) := by decide +kernel
theorem d_Mod_reckons_10 : decode prog_12_method_103_code 10 = .ok (.iaload, 1) := by decide +kernel
theorem d_Mod_reckons_11 : decode prog_12_method_103_code 11 = .ok (.istore_n 2, 1) := by decide +kernel
theorem d_Mod_reckons_12 : decode prog_12_method_103_code 12 = .ok (.aload_n 0, 1) := by decide +kernel
theorem d_Mod_reckons_13 : decode prog_12_method_103_code 13 = .ok (.getfield 430, 3) := by decide +kernel
theorem d_Mod_reckons_16 : decode prog_12_method_103_code 16 = .ok (.aload_n 0, 1) := by decide +kernel
theorem d_Mod_reckons_17 : decode prog_12_method_103_code 17 = .ok (.getfield 549, 3) := by decide +kernel
theorem d_Mod_reckons_20 : decode prog_12_method_103_code 20 = .ok (.iconst 2, 1) := by decide +kernel
theorem d_Mod_reckons_21 : decode prog_12_method_103_code 21 = .ok (.isub, 1) := by decide +kernel
theorem d_Mod_reckons_22 : decode prog_12_method_103_code 22 = .ok (.iaload, 1) := by decide +kernel
theorem d_Mod_reckons_23 : decode prog_12_method_103_code 23 = .ok (.istore_n 3, 1) := by decide +kernel
theorem d_Mod_reckons_24 : decode prog_12_method_103_code 24 = .ok (.iload_n 1, 1) := by decide +kernel
theorem d_Mod_reckons_25 : decode prog_12_method_103_code 25 = .ok (.bipush 47, 2) := by decide +kernel
theorem d_Mod_reckons_27 : decode prog_12_method_103_code 27 = .ok (.if_icmp .ne 13, 3) := by decide +kernel
theorem d_Mod_reckons_30 : decode prog_12_method_103_code 30 = .ok (.iload_n 2, 1) := by decide +kernel
theorem d_Mod_reckons_31 : decode prog_12_method_103_code 31 = .ok (.ifCond .ne 9, 3) := by decide +kernel
theorem d_Mod_reckons_34 : decode prog_12_method_103_code 34 = .ok (.aload_n 0, 1) := by decide +kernel
theorem d_Mod_reckons_35 : decode prog_12_method_103_code 35 = .ok (.iconst 2, 1) := by decide +kernel
theorem d_Mod_reckons_36 : decode prog_12_method_103_code 36 = .ok (.putfield 567, 3) := by decide +kernel
theorem d_Mod_reckons_39 : decode prog_12_method_103_code 39 = .ok (.return_, 1) := by decide +kernel
theorem d_Mod_reckons_40 : decode prog_12_method_103_code 40 = .ok (.aload_n 0, 1) := by decide +kernel
theorem d_Mod_reckons_41 : decode prog_12_method_103_code 41 = .ok (.dup, 1) := by decide +kernel
theorem d_Mod_reckons_42 : decode prog_12_method_103_code 42 = .ok (.getfield 549, 3) := by decide +kernel
theorem d_Mod_reckons_45 : decode prog_12_method_103_code 45 = .ok (.iconst 2, 1) := by decide +kernel
theorem d_Mod_reckons_46 : decode prog_12_method_103_code 46 = .ok (.isub, 1) := by decide +kernel
theorem d_Mod_reckons_47 : decode prog_12_method_103_code 47 = .ok (.putfield 549, 3) := by decide +kernel
theorem d_Mod_reckons_50 : decode prog_12_method_103_code 50 = .ok (.aload_n 0, 1) := by decide +kernel
theorem d_Mod_reckons_51 : decode prog_12_method_103_code 51 = .ok (.iload_n 1, 1) := by decide +kernel
theorem d_Mod_reckons_52 : decode prog_12_method_103_code 52 = .ok (.bipush 43, 2) := by decide +kernel
theorem d_Mod_reckons_54 : decode prog_12_method_103_code 54 = .ok (.if_icmp .ne 9, 3) := by decide +kernel
theorem d_Mod_reckons_57 : decode prog_12_method_103_code 57 = .ok (.iload_n 3, 1) := by decide +kernel
theorem d_Mod_reckons_58 : decode prog_12_method_103_code 58 = .ok (.iload_n 2, 1) := by decide +kernel
theorem d_Mod_reckons_59 : decode prog_12_method_103_code 59 = .ok (.iadd, 1) := by decide +kernel
theorem d_Mod_reckons_60 : decode prog_12_method_103_code 60 = .ok (.goto 49, 3) := by decide +kernel
theorem d_Mod_reckons_63 : decode prog_12_method_103_code 63 = .ok (.iload_n 1, 1) := by decide +kernel
theorem d_Mod_reckons_64 : decode prog_12_method_103_code 64 = .ok (.bipush 45, 2) := by decide +kernel
theorem d_Mod_reckons_66 : decode prog_12_method_103_code 66 = .ok (.if_icmp .ne 9, 3) := by decide +kernel
theorem d_Mod_reckons_69 : decode prog_12_method_103_code 69 = .ok (.iload_n 3, 1) := by decide +kernel
theorem d_Mod_reckons_70 : decode prog_12_method_103_code 70 = .ok (.iload_n 2, 1) := by decide +kernel
theorem d_Mod_reckons_71 : decode prog_12_method_103_code 71 = .ok (.isub, 1) := by decide +kernel
theorem d_Mod_reckons_72 : decode prog_12_method_103_code 72 = .ok (.goto 37, 3) := by decide +kernel
theorem d_Mod_reckons_75 : decode prog_12_method_103_code 75 = .ok (.iload_n 1, 1) := by decide +kernel
theorem d_Mod_reckons_76 : decode prog_12_method_103_code 76 = .ok (.bipush 42, 2) := by decide +kernel
theorem d_Mod_reckons_78 : decode prog_12_method_103_code 78 = .ok (.if_icmp .ne 9, 3) := by decide +kernel
theorem d_Mod_reckons_81 : decode prog_12_method_103_code 81 = .ok (.iload_n 3, 1) := by decide +kernel
theorem d_Mod_reckons_82 : decode prog_12_method_103_code 82 = .ok (.iload_n 2, 1) := by decide +kernel
theorem d_Mod_reckons_83 : decode prog_12_method_103_code 83 = .ok (.imul, 1) := by decide +kernel
theorem d_Mod_reckons_84 : decode prog_12_method_103_code 84 = .ok (.goto 25, 3) := by decide +kernel
theorem d_Mod_reckons_87 : decode prog_12_method_103_code 87 = .ok (.iload_n 1, 1) := by decide +kernel
theorem d_Mod_reckons_88 : decode prog_12_method_103_code 88 = .ok (.bipush 47, 2) := by decide +kernel
theorem d_Mod_reckons_90 : decode prog_12_method_103_code 90 = .ok (.if_icmp .ne 9, 3) := by decide +kernel
theorem d_Mod_reckons_93 : decode prog_12_method_103_code 93 = .ok (.iload_n 3, 1) := by decide +kernel
theorem d_Mod_reckons_94 : decode prog_12_method_103_code 94 = .ok (.iload_n 2, 1) := by decide +kernel
theorem d_Mod_reckons_95 : decode prog_12_method_103_code 95 = .ok (.idiv, 1) := by decide +kernel
theorem d_Mod_reckons_96 : decode prog_12_method_103_code 96 = .ok (.goto 13, 3) := by decide +kernel
theorem d_Mod_reckons_99 : decode prog_12_method_103_code 99 = .ok (.iload_n 3, 1) := by decide +kernel
theorem d_Mod_reckons_100 : decode prog_12_method_103_code 100 = .ok (.iload_n 2, 1) := by decide +kernel
theorem d_Mod_reckons_101 : decode prog_12_method_103_code 101 = .ok (.if_icmp .ge 7, 3) := by decide +kernel
theorem d_Mod_reckons_104 : decode prog_12_method_103_code 104 = .ok (.iconst 1, 1) := by decide +kernel
theorem d_Mod_reckons_105 : decode prog_12_method_103_code 105 = .ok (.goto 4, 3) := by decide +kernel
theorem d_Mod_reckons_108 : decode prog_12_method_103_code 108 = .ok (.iconst 0, 1) := by decide +kernel
theorem d_Mod_reckons_109 : decode prog_12_method_103_code 109 = .ok (.iconst (-1), 1) := by decide +kernel
theorem d_Mod_reckons_110 : decode prog_12_method_103_code 110 = .ok (.iconst (-1), 1) := by decide +kernel
theorem d_Mod_reckons_111 : decode prog_12_method_103_code 111 = .ok (.invokevirtual 576, 3) := by decide +kernel
theorem d_Mod_reckons_114 : decode prog_12_method_103_code 114 = .ok (.return_, 1) := by decide +kernel
def fm_Mod_reckons_j109 (a1 : Int) (s0 : Int) (w : fa_W) : Option fa_W :=
  (fm_Mod_puts s0 (-1) (-1) w).bind fun w13 =>
  some w13
set_option maxHeartbeats 4000000 in
set_option maxRecDepth 100000 in
theorem c_Mod_reckons_j109 {p : Program} {l : Launch} {e : Env} {s : State} {m : MethodId} {args : Array Value} {below : List Frame} {meth : Method} {c : Code} {hh : Nat} {D : va_G} {b : Nat} {aC : Nat → ClassId} {H0 : Heap} {N T : Nat} (X : fa_GX p s m args meth c prog_12_method_103_code 4 ((Option.none : Option Jvm.ClassFile.FieldType)) y_Mod_reckons.cls D b aC) (hle : 1 ≤ hh) (hN : fa_NM ≤ N) (hT : fa_TM ≤ T) (a1 : Int) {r : fa_W}  : ∀ (s0 : Int) (w : fa_W) (_ : fm_Mod_reckons_j109 a1 s0 w = some r), fa_GJ p l e (fa_rm hh) s m args below meth c 0 0 (MQ below (fa_Qc D b aC H0 N T (none) r) args s 0 0 (fun q => b ≤ q)) D b aC H0 N T 4 w 109 [] [.int (fa_I s0), .ref (b + 181)] := by
  intro s0 w hM
  unfold fm_Mod_reckons_j109 at hM
  refine g_iconst X d_Mod_reckons_109 ?_
  refine g_iconst X d_Mod_reckons_110 ?_
  obtain ⟨w13, e12, hM⟩ := fa_ob hM
  refine g_callV_v X ck_10 fo_181 (fn_181 hN) rfl mi_Mod_puts (c_Mod_puts hN hT s0 (-1) (-1) w _ e12) wd_2164 rfl (Nat.le_trans (Nat.le_of_ble_eq_true rfl) hle) (st := []) (Nat.le_of_ble_eq_true rfl) rfl d_Mod_reckons_111 ?_
  cases hM
  exact g_vret X d_Mod_reckons_114
def fm_Mod_reckons_j40 (a1 : Int) (x2 : Int) (x3 : Int) (w : fa_W) : Option fa_W :=
  fa_let (fa_st w 181 86 ((w 181 86) - 2)) fun w6 =>
  if fa_wr a1 = 43 then
  fm_Mod_reckons_j109 a1 (x3 + x2) w6
  else
  (if fa_wr a1 = 45 then
  fm_Mod_reckons_j109 a1 (x3 - x2) w6
  else
  (if fa_wr a1 = 42 then
  fm_Mod_reckons_j109 a1 (x3 * x2) w6
  else
  (if fa_wr a1 = 47 then
  (if fa_wr x2 = 0 then none else
  fm_Mod_reckons_j109 a1 (fa_idiv x3 x2) w6)
  else
  (if fa_wr x2 ≤ fa_wr x3 then
  fm_Mod_reckons_j109 a1 0 w6
  else
  fm_Mod_reckons_j109 a1 1 w6))))
set_option maxHeartbeats 4000000 in
set_option maxRecDepth 100000 in
theorem c_Mod_reckons_j40 {p : Program} {l : Launch} {e : Env} {s : State} {m : MethodId} {args : Array Value} {below : List Frame} {meth : Method} {c : Code} {hh : Nat} {D : va_G} {b : Nat} {aC : Nat → ClassId} {H0 : Heap} {N T : Nat} (X : fa_GX p s m args meth c prog_12_method_103_code 4 ((Option.none : Option Jvm.ClassFile.FieldType)) y_Mod_reckons.cls D b aC) (hle : 1 ≤ hh) (hN : fa_NM ≤ N) (hT : fa_TM ≤ T) (a1 : Int) {r : fa_W}  : ∀ (x2 : Int) (x3 : Int) (w : fa_W) (_ : fm_Mod_reckons_j40 a1 x2 x3 w = some r), fa_GJ p l e (fa_rm hh) s m args below meth c 0 0 (MQ below (fa_Qc D b aC H0 N T (none) r) args s 0 0 (fun q => b ≤ q)) D b aC H0 N T 4 w 40 [(0, .ref (b + 181)), (1, .int (fa_I a1)), (2, .int (fa_I x2)), (3, .int (fa_I x3))] [] := by
  intro x2 x3 w hM
  unfold fm_Mod_reckons_j40 at hM
  refine g_aload_n X 0 rfl d_Mod_reckons_40 ?_
  refine g_dup X rfl d_Mod_reckons_41 ?_
  refine g_get X ck_10 fo_181 (fn_181 hN) 86 (by decide) wd_1827 rfl (fa_fvI rfl) d_Mod_reckons_42 ?_
  refine g_iconst X d_Mod_reckons_45 ?_
  refine g_isub X d_Mod_reckons_46 ?_
  refine g_put X ck_10 fo_181 (fn_181 hN) 86 (z := ((w 181 86) - 2)) (by decide) wd_1827 rfl (fa_fvI' rfl) rfl rfl rfl d_Mod_reckons_47 (fun w6 ew6 => ?_)
  have hM := fa_let_to hM ew6
  refine g_aload_n X 0 rfl d_Mod_reckons_50 ?_
  refine g_iload_n X 1 rfl d_Mod_reckons_51 ?_
  refine g_bipush X (by decide) d_Mod_reckons_52 ?_
  refine g_icmp_ne X 63 d_Mod_reckons_54 (by decide) (fun hc7 => ?_) (fun hc7 => ?_)
  · have hM := fa_if_f hM hc7
    refine g_iload_n X 1 rfl d_Mod_reckons_63 ?_
    refine g_bipush X (by decide) d_Mod_reckons_64 ?_
    refine g_icmp_ne X 75 d_Mod_reckons_66 (by decide) (fun hc8 => ?_) (fun hc8 => ?_)
    · have hM := fa_if_f hM hc8
      refine g_iload_n X 1 rfl d_Mod_reckons_75 ?_
      refine g_bipush X (by decide) d_Mod_reckons_76 ?_
      refine g_icmp_ne X 87 d_Mod_reckons_78 (by decide) (fun hc9 => ?_) (fun hc9 => ?_)
      · have hM := fa_if_f hM hc9
        refine g_iload_n X 1 rfl d_Mod_reckons_87 ?_
        refine g_bipush X (by decide) d_Mod_reckons_88 ?_
        refine g_icmp_ne X 99 d_Mod_reckons_90 (by decide) (fun hc10 => ?_) (fun hc10 => ?_)
        · have hM := fa_if_f hM hc10
          refine g_iload_n X 3 rfl d_Mod_reckons_99 ?_
          refine g_iload_n X 2 rfl d_Mod_reckons_100 ?_
          refine g_icmp_ge X 108 d_Mod_reckons_101 (by decide) (fun hc11 => ?_) (fun hc11 => ?_)
          · have hM := fa_if_t hM hc11
            refine g_iconst X d_Mod_reckons_108 ?_
            exact g_lv [] rfl (c_Mod_reckons_j109 X hle hN hT a1    _ _ hM)
          · have hM := fa_if_f hM hc11
            refine g_iconst X d_Mod_reckons_104 ?_
            refine g_goto X 109 d_Mod_reckons_105 (by decide) ?_
            exact g_lv [] rfl (c_Mod_reckons_j109 X hle hN hT a1    _ _ hM)
        · have hM := fa_if_t hM hc10
          refine g_iload_n X 3 rfl d_Mod_reckons_93 ?_
          refine g_iload_n X 2 rfl d_Mod_reckons_94 ?_
          obtain ⟨hz14, hM⟩ := fa_nz hM
          refine g_idiv X hz14 d_Mod_reckons_95 ?_
          refine g_goto X 109 d_Mod_reckons_96 (by decide) ?_
          exact g_lv [] rfl (c_Mod_reckons_j109 X hle hN hT a1    _ _ hM)
      · have hM := fa_if_t hM hc9
        refine g_iload_n X 3 rfl d_Mod_reckons_81 ?_
        refine g_iload_n X 2 rfl d_Mod_reckons_82 ?_
        refine g_imul X d_Mod_reckons_83 ?_
        refine g_goto X 109 d_Mod_reckons_84 (by decide) ?_
        exact g_lv [] rfl (c_Mod_reckons_j109 X hle hN hT a1    _ _ hM)
    · have hM := fa_if_t hM hc8
      refine g_iload_n X 3 rfl d_Mod_reckons_69 ?_
      refine g_iload_n X 2 rfl d_Mod_reckons_70 ?_
      refine g_isub X d_Mod_reckons_71 ?_
      refine g_goto X 109 d_Mod_reckons_72 (by decide) ?_
      exact g_lv [] rfl (c_Mod_reckons_j109 X hle hN hT a1    _ _ hM)
  · have hM := fa_if_t hM hc7
    refine g_iload_n X 3 rfl d_Mod_reckons_57 ?_
    refine g_iload_n X 2 rfl d_Mod_reckons_58 ?_
    refine g_iadd X d_Mod_reckons_59 ?_
    refine g_goto X 109 d_Mod_reckons_60 (by decide) ?_
    exact g_lv [] rfl (c_Mod_reckons_j109 X hle hN hT a1    _ _ hM)
def fm_Mod_reckons (a1 : Int) (w : fa_W) : Option fa_W :=
  (fa_ix ((w 181 86) - 1) 55000).bind fun j1 =>
  fa_let (w 226 j1) fun x2_2 =>
  (fa_ix ((w 181 86) - 2) 55000).bind fun j3 =>
  fa_let (w 226 j3) fun x3_4 =>
  if fa_wr a1 = 47 then
  (if fa_wr x2_2 = 0 then
  (fa_let (fa_st w 181 92 2) fun w16 =>
  some w16)
  else
  fm_Mod_reckons_j40 a1 x2_2 x3_4 w)
  else
  fm_Mod_reckons_j40 a1 x2_2 x3_4 w
set_option maxHeartbeats 4000000 in
set_option maxRecDepth 100000 in
theorem c_Mod_reckons {l : Launch} {D : va_G} {b : Nat} {aC : Nat → ClassId} {H0 : Heap} {N T : Nat} (hN : fa_NM ≤ N) (hT : fa_TM ≤ T) (a1 : Int)  (w : fa_W) (r : fa_W) (hM : fm_Mod_reckons a1 w = some r) : fa_MC l D b aC H0 N T y_Mod_reckons prog_12_method_103_code 4 ((Option.none : Option Jvm.ClassFile.FieldType)) (1) [.ref (b + 181), .int (fa_I a1)] w (none) r := by
  refine fa_enter (lv := [(0, .ref (b + 181)), (1, .int (fa_I a1))]) (by decide +kernel) (Nat.le_of_ble_eq_true rfl) rfl (fun hh hle hnm X => ?_)
  unfold fm_Mod_reckons at hM
  refine g_aload_n X 0 rfl d_Mod_reckons_0 ?_
  refine g_get X ck_10 fo_181 (fn_181 hN) 75 (by decide) wd_1816 rfl (fr_181_75 rfl hT) d_Mod_reckons_1 ?_
  refine g_aload_n X 0 rfl d_Mod_reckons_4 ?_
  refine g_get X ck_10 fo_181 (fn_181 hN) 86 (by decide) wd_1827 rfl (fa_fvI rfl) d_Mod_reckons_5 ?_
  refine g_iconst X d_Mod_reckons_8 ?_
  refine g_isub X d_Mod_reckons_9 ?_
  obtain ⟨j1, ej1, hM⟩ := fa_ob hM
  refine g_iald X fs_226 (fn_226 hN) ej1 d_Mod_reckons_10 ?_
  refine g_istore_n X (fun x2_2 => [(2, .int (fa_I x2_2)), (0, .ref (b + 181)), (1, .int (fa_I a1))]) d_Mod_reckons_11 (by decide) (fun _ => rfl) (fun x2_2 ex2_2 => ?_)
  have hM := fa_let_to hM ex2_2
  refine g_aload_n X 1 rfl d_Mod_reckons_12 ?_
  refine g_get X ck_10 fo_181 (fn_181 hN) 75 (by decide) wd_1816 rfl (fr_181_75 rfl hT) d_Mod_reckons_13 ?_
  refine g_aload_n X 1 rfl d_Mod_reckons_16 ?_
  refine g_get X ck_10 fo_181 (fn_181 hN) 86 (by decide) wd_1827 rfl (fa_fvI rfl) d_Mod_reckons_17 ?_
  refine g_iconst X d_Mod_reckons_20 ?_
  refine g_isub X d_Mod_reckons_21 ?_
  obtain ⟨j3, ej3, hM⟩ := fa_ob hM
  refine g_iald X fs_226 (fn_226 hN) ej3 d_Mod_reckons_22 ?_
  refine g_istore_n X (fun x3_4 => [(3, .int (fa_I x3_4)), (2, .int (fa_I x2_2)), (0, .ref (b + 181)), (1, .int (fa_I a1))]) d_Mod_reckons_23 (by decide) (fun _ => rfl) (fun x3_4 ex3_4 => ?_)
  have hM := fa_let_to hM ex3_4
  refine g_iload_n X 3 rfl d_Mod_reckons_24 ?_
  refine g_bipush X (by decide) d_Mod_reckons_25 ?_
  refine g_icmp_ne X 40 d_Mod_reckons_27 (by decide) (fun hc5 => ?_) (fun hc5 => ?_)
  · have hM := fa_if_f hM hc5
    exact g_lv [2, 3, 1, 0] rfl (c_Mod_reckons_j40 X hle hN hT a1    _ _ _ hM)
  · have hM := fa_if_t hM hc5
    refine g_iload_n X 1 rfl d_Mod_reckons_30 ?_
    refine g_if_ne X 40 d_Mod_reckons_31 (by decide) (fun hc15 => ?_) (fun hc15 => ?_)
    · have hM := fa_if_f hM hc15
      exact g_lv [2, 3, 1, 0] rfl (c_Mod_reckons_j40 X hle hN hT a1    _ _ _ hM)
    · have hM := fa_if_t hM hc15
      refine g_aload_n X 2 rfl d_Mod_reckons_34 ?_
      refine g_iconst X d_Mod_reckons_35 ?_
      refine g_put X ck_10 fo_181 (fn_181 hN) 92 (z := 2) (by decide) wd_1833 rfl (fa_fvI' rfl) rfl rfl rfl d_Mod_reckons_36 (fun w16 ew16 => ?_)
      have hM := fa_let_to hM ew16
      cases hM
      exact g_vret X d_Mod_reckons_39
theorem d_Mod_runs_0 : decode prog_12_method_102_code 0 = .ok (.aload_n 0, 1) := by decide +kernel
theorem d_Mod_runs_1 : decode prog_12_method_102_code 1 = .ok (.iconst 0, 1) := by decide +kernel
theorem d_Mod_runs_2 : decode prog_12_method_102_code 2 = .ok (.putfield 549, 3) := by decide +kernel
theorem d_Mod_runs_5 : decode prog_12_method_102_code 5 = .ok (.aload_n 0, 1) := by decide +kernel
theorem d_Mod_runs_6 : decode prog_12_method_102_code 6 = .ok (.iconst 0, 1) := by decide +kernel
theorem d_Mod_runs_7 : decode prog_12_method_102_code 7 = .ok (.putfield 552, 3) := by decide +kernel
theorem d_Mod_runs_10 : decode prog_12_method_102_code 10 = .ok (.aload_n 0, 1) := by decide +kernel
theorem d_Mod_runs_11 : decode prog_12_method_102_code 11 = .ok (.iconst 0, 1) := by decide +kernel
theorem d_Mod_runs_12 : decode prog_12_method_102_code 12 = .ok (.putfield 555, 3) := by decide +kernel
theorem d_Mod_runs_15 : decode prog_12_method_102_code 15 = .ok (.aload_n 0, 1) := by decide +kernel
theorem d_Mod_runs_16 : decode prog_12_method_102_code 16 = .ok (.iconst 0, 1) := by decide +kernel
theorem d_Mod_runs_17 : decode prog_12_method_102_code 17 = .ok (.putfield 558, 3) := by decide +kernel
theorem d_Mod_runs_20 : decode prog_12_method_102_code 20 = .ok (.aload_n 0, 1) := by decide +kernel
theorem d_Mod_runs_21 : decode prog_12_method_102_code 21 = .ok (.iconst 0, 1) := by decide +kernel
theorem d_Mod_runs_22 : decode prog_12_method_102_code 22 = .ok (.putfield 561, 3) := by decide +kernel
theorem d_Mod_runs_25 : decode prog_12_method_102_code 25 = .ok (.aload_n 0, 1) := by decide +kernel
theorem d_Mod_runs_26 : decode prog_12_method_102_code 26 = .ok (.iconst 0, 1) := by decide +kernel
theorem d_Mod_runs_27 : decode prog_12_method_102_code 27 = .ok (.putfield 564, 3) := by decide +kernel
theorem d_Mod_runs_30 : decode prog_12_method_102_code 30 = .ok (.aload_n 0, 1) := by decide +kernel
theorem d_Mod_runs_31 : decode prog_12_method_102_code 31 = .ok (.iconst (-1), 1) := by decide +kernel
theorem d_Mod_runs_32 : decode prog_12_method_102_code 32 = .ok (.putfield 567, 3) := by decide +kernel
theorem d_Mod_runs_35 : decode prog_12_method_102_code 35 = .ok (.aload_n 0, 1) := by decide +kernel
theorem d_Mod_runs_36 : decode prog_12_method_102_code 36 = .ok (.iconst 0, 1) := by decide +kernel
theorem d_Mod_runs_37 : decode prog_12_method_102_code 37 = .ok (.putfield 570, 3) := by decide +kernel
theorem d_Mod_runs_40 : decode prog_12_method_102_code 40 = .ok (.aload_n 0, 1) := by decide +kernel
theorem d_Mod_runs_41 : decode prog_12_method_102_code 41 = .ok (.iconst (-1), 1) := by decide +kernel
theorem d_Mod_runs_42 : decode prog_12_method_102_code 42 = .ok (.iconst (-1), 1) := by decide +kernel
theorem d_Mod_runs_43 : decode prog_12_method_102_code 43 = .ok (.invokevirtual 573, 3) := by decide +kernel
theorem d_Mod_runs_46 : decode prog_12_method_102_code 46 = .ok (.istore_n 2, 1) := by decide +kernel
theorem d_Mod_runs_47 : decode prog_12_method_102_code 47 = .ok (.aload_n 0, 1) := by decide +kernel
theorem d_Mod_runs_48 : decode prog_12_method_102_code 48 = .ok (.getfield 396, 3) := by decide +kernel
theorem d_Mod_runs_51 : decode prog_12_method_102_code 51 = .ok (.aload_n 0, 1) := by decide +kernel
theorem d_Mod_runs_52 : decode prog_12_method_102_code 52 = .ok (.invokevirtual 270, 3) := by decide +kernel
theorem d_Mod_runs_55 : decode prog_12_method_102_code 55 = .ok (.iaload, 1) := by decide +kernel
theorem d_Mod_runs_56 : decode prog_12_method_102_code 56 = .ok (.istore_n 3, 1) := by decide +kernel
theorem d_Mod_runs_57 : decode prog_12_method_102_code 57 = .ok (.aload_n 0, 1) := by decide +kernel
theorem d_Mod_runs_58 : decode prog_12_method_102_code 58 = .ok (.getfield 567, 3) := by decide +kernel
theorem d_Mod_runs_61 : decode prog_12_method_102_code 61 = .ok (.iconst (-1), 1) := by decide +kernel
theorem d_Mod_runs_62 : decode prog_12_method_102_code 62 = .ok (.if_icmp .ne 529, 3) := by decide +kernel
theorem d_Mod_runs_65 : decode prog_12_method_102_code 65 = .ok (.aload_n 0, 1) := by decide +kernel
theorem d_Mod_runs_66 : decode prog_12_method_102_code 66 = .ok (.getfield 387, 3) := by decide +kernel
theorem d_Mod_runs_69 : decode prog_12_method_102_code 69 = .ok (.iload_n 3, 1) := by decide +kernel
theorem d_Mod_runs_70 : decode prog_12_method_102_code 70 = .ok (.iaload, 1) := by decide +kernel
theorem d_Mod_runs_71 : decode prog_12_method_102_code 71 = .ok (.istore 4, 2) := by decide +kernel
theorem d_Mod_runs_73 : decode prog_12_method_102_code 73 = .ok (.aload_n 0, 1) := by decide +kernel
theorem d_Mod_runs_74 : decode prog_12_method_102_code 74 = .ok (.getfield 381, 3) := by decide +kernel
theorem d_Mod_runs_77 : decode prog_12_method_102_code 77 = .ok (.iload_n 3, 1) := by decide +kernel
theorem d_Mod_runs_78 : decode prog_12_method_102_code 78 = .ok (.iaload, 1) := by decide +kernel
theorem d_Mod_runs_79 : decode prog_12_method_102_code 79 = .ok (.istore 5, 2) := by decide +kernel
theorem d_Mod_runs_81 : decode prog_12_method_102_code 81 = .ok (.iinc 3 1, 3) := by decide +kernel
theorem d_Mod_runs_84 : decode prog_12_method_102_code 84 = .ok (.iload 5, 2) := by decide +kernel
theorem d_Mod_runs_86 : decode prog_12_method_102_code 86 = .ok (.tableswitch 402 0 10 #[58, 69, 112, 134, 123, 402, 142, 186, 195, 158, 152], 58) := by decide +kernel
theorem d_Mod_runs_144 : decode prog_12_method_102_code 144 = .ok (.aload_n 0, 1) := by decide +kernel
theorem d_Mod_runs_145 : decode prog_12_method_102_code 145 = .ok (.iload 4, 2) := by decide +kernel
theorem d_Mod_runs_147 : decode prog_12_method_102_code 147 = .ok (.iconst (-1), 1) := by decide +kernel
theorem d_Mod_runs_148 : decode prog_12_method_102_code 148 = .ok (.iconst (-1), 1) := by decide +kernel
theorem d_Mod_runs_149 : decode prog_12_method_102_code 149 = .ok (.invokevirtual 576, 3) := by decide +kernel
theorem d_Mod_runs_152 : decode prog_12_method_102_code 152 = .ok (.goto 436, 3) := by decide +kernel
theorem d_Mod_runs_155 : decode prog_12_method_102_code 155 = .ok (.bipush 124, 2) := by decide +kernel
theorem d_Mod_runs_157 : decode prog_12_method_102_code 157 = .ok (.aload_n 0, 1) := by decide +kernel
theorem d_Mod_runs_158 : decode prog_12_method_102_code 158 = .ok (.iload 4, 2) := by decide +kernel
theorem d_Mod_runs_160 : decode prog_12_method_102_code 160 = .ok (.iload_n 2, 1) := by decide +kernel
theorem d_Mod_runs_161 : decode prog_12_method_102_code 161 = .ok (.invokevirtual 579, 3) := by decide +kernel
theorem d_Mod_runs_164 : decode prog_12_method_102_code 164 = .ok (.imul, 1) := by decide +kernel
theorem d_Mod_runs_165 : decode prog_12_method_102_code 165 = .ok (.iload 4, 2) := by decide +kernel
theorem d_Mod_runs_167 : decode prog_12_method_102_code 167 = .ok (.iadd, 1) := by decide +kernel
theorem d_Mod_runs_168 : decode prog_12_method_102_code 168 = .ok (.istore 6, 2) := by decide +kernel
theorem d_Mod_runs_170 : decode prog_12_method_102_code 170 = .ok (.aload_n 0, 1) := by decide +kernel
theorem d_Mod_runs_171 : decode prog_12_method_102_code 171 = .ok (.aload_n 0, 1) := by decide +kernel
theorem d_Mod_runs_172 : decode prog_12_method_102_code 172 = .ok (.getfield 439, 3) := by decide +kernel
theorem d_Mod_runs_175 : decode prog_12_method_102_code 175 = .ok (.iload 6, 2) := by decide +kernel
theorem d_Mod_runs_177 : decode prog_12_method_102_code 177 = .ok (.iaload, 1) := by decide +kernel
theorem d_Mod_runs_178 : decode prog_12_method_102_code 178 = .ok (.aload_n 0, 1) := by decide +kernel
theorem d_Mod_runs_179 : decode prog_12_method_102_code 179 = .ok (.getfield 442, 3) := by decide +kernel
theorem d_Mod_runs_182 : decode prog_12_method_102_code 182 = .ok (.iload 6, 2) := by decide +kernel
theorem d_Mod_runs_184 : decode prog_12_method_102_code 184 = .ok (.iaload, 1) := by decide +kernel
theorem d_Mod_runs_185 : decode prog_12_method_102_code 185 = .ok (.aload_n 0, 1) := by decide +kernel
theorem d_Mod_runs_186 : decode prog_12_method_102_code 186 = .ok (.getfield 445, 3) := by decide +kernel
theorem d_Mod_runs_189 : decode prog_12_method_102_code 189 = .ok (.iload 6, 2) := by decide +kernel
theorem d_Mod_runs_191 : decode prog_12_method_102_code 191 = .ok (.iaload, 1) := by decide +kernel
theorem d_Mod_runs_192 : decode prog_12_method_102_code 192 = .ok (.invokevirtual 576, 3) := by decide +kernel
theorem d_Mod_runs_195 : decode prog_12_method_102_code 195 = .ok (.goto 393, 3) := by decide +kernel
theorem d_Mod_runs_198 : decode prog_12_method_102_code 198 = .ok (.aload_n 0, 1) := by decide +kernel
theorem d_Mod_runs_199 : decode prog_12_method_102_code 199 = .ok (.iconst 0, 1) := by decide +kernel
theorem d_Mod_runs_200 : decode prog_12_method_102_code 200 = .ok (.iload 4, 2) := by decide +kernel
theorem d_Mod_runs_202 : decode prog_12_method_102_code 202 = .ok (.iconst (-1), 1) := by decide +kernel
theorem d_Mod_runs_203 : decode prog_12_method_102_code 203 = .ok (.invokevirtual 576, 3) := by decide +kernel
theorem d_Mod_runs_206 : decode prog_12_method_102_code 206 = .ok (.goto 382, 3) := by decide +kernel
theorem d_Mod_runs_209 : decode prog_12_method_102_code 209 = .ok (.aload_n 0, 1) := by decide +kernel
theorem d_Mod_runs_210 : decode prog_12_method_102_code 210 = .ok (.iconst 0, 1) := by decide +kernel
theorem d_Mod_runs_211 : decode prog_12_method_102_code 211 = .ok (.iload 4, 2) := by decide +kernel
theorem d_Mod_runs_213 : decode prog_12_method_102_code 213 = .ok (.iload_n 2, 1) := by decide +kernel
theorem d_Mod_runs_214 : decode prog_12_method_102_code 214 = .ok (.invokevirtual 576, 3) := by decide +kernel
theorem d_Mod_runs_217 : decode prog_12_method_102_code 217 = .ok (.goto 371, 3) := by decide +kernel
theorem d_Mod_runs_220 : decode prog_12_method_102_code 220 = .ok (.aload_n 0, 1) := by decide +kernel
theorem d_Mod_runs_221 : decode prog_12_method_102_code 221 = .ok (.iconst 3, 1) := by decide +kernel
theorem d_Mod_runs_222 : decode prog_12_method_102_code 222 = .ok (.putfield 567, 3) := by decide +kernel
theorem d_Mod_runs_225 : decode prog_12_method_102_code 225 = .ok (.goto 363, 3) := by decide +kernel
theorem d_Mod_runs_228 : decode prog_12_method_102_code 228 = .ok (.aload_n 0, 1) := by decide +kernel
theorem d_Mod_runs_229 : decode prog_12_method_102_code 229 = .ok (.iload_n 2, 1) := by decide +kernel
theorem d_Mod_runs_230 : decode prog_12_method_102_code 230 = .ok (.iload 4, 2) := by decide +kernel
theorem d_Mod_runs_232 : decode prog_12_method_102_code 232 = .ok (.invokevirtual 582, 3) := by decide +kernel
theorem d_Mod_runs_235 : decode prog_12_method_102_code 235 = .ok (.goto 353, 3) := by decide +kernel
theorem d_Mod_runs_238 : decode prog_12_method_102_code 238 = .ok (.iload 4, 2) := by decide +kernel
theorem d_Mod_runs_240 : decode prog_12_method_102_code 240 = .ok (.istore_n 3, 1) := by decide +kernel
theorem d_Mod_runs_241 : decode prog_12_method_102_code 241 = .ok (.goto 347, 3) := by decide +kernel
theorem d_Mod_runs_244 : decode prog_12_method_102_code 244 = .ok (.aload_n 0, 1) := by decide +kernel
theorem d_Mod_runs_245 : decode prog_12_method_102_code 245 = .ok (.dup, 1) := by decide +kernel
theorem d_Mod_runs_246 : decode prog_12_method_102_code 246 = .ok (.getfield 549, 3) := by decide +kernel
theorem d_Mod_runs_249 : decode prog_12_method_102_code 249 = .ok (.iconst 1, 1) := by decide +kernel
theorem d_Mod_runs_250 : decode prog_12_method_102_code 250 = .ok (.isub, 1) := by decide +kernel
theorem d_Mod_runs_251 : decode prog_12_method_102_code 251 = .ok (.putfield 549, 3) := by decide +kernel
theorem d_Mod_runs_254 : decode prog_12_method_102_code 254 = .ok (.aload_n 0, 1) := by decide +kernel
theorem d_Mod_runs_255 : decode prog_12_method_102_code 255 = .ok (.getfield 430, 3) := by decide +kernel
theorem d_Mod_runs_258 : decode prog_12_method_102_code 258 = .ok (.aload_n 0, 1) := by decide +kernel
theorem d_Mod_runs_259 : decode prog_12_method_102_code 259 = .ok (.getfield 549, 3) := by decide +kernel
theorem d_Mod_runs_262 : decode prog_12_method_102_code 262 = .ok (.iaload, 1) := by decide +kernel
theorem d_Mod_runs_263 : decode prog_12_method_102_code 263 = .ok (.ifCond .ne 325, 3) := by decide +kernel
theorem d_Mod_runs_266 : decode prog_12_method_102_code 266 = .ok (.iload 4, 2) := by decide +kernel
theorem d_Mod_runs_268 : decode prog_12_method_102_code 268 = .ok (.istore_n 3, 1) := by decide +kernel
theorem d_Mod_runs_269 : decode prog_12_method_102_code 269 = .ok (.goto 319, 3) := by decide +kernel
theorem d_Mod_runs_272 : decode prog_12_method_102_code 272 = .ok (.aload_n 0, 1) := by decide +kernel
theorem d_Mod_runs_273 : decode prog_12_method_102_code 273 = .ok (.iload 4, 2) := by decide +kernel
theorem d_Mod_runs_275 : decode prog_12_method_102_code 275 = .ok (.invokevirtual 585, 3) := by decide +kernel
theorem d_Mod_runs_278 : decode prog_12_method_102_code 278 = .ok (.goto 310, 3) := by decide +kernel
theorem d_Mod_runs_281 : decode prog_12_method_102_code 281 = .ok (.aload_n 0, 1) := by decide +kernel
theorem d_Mod_runs_282 : decode prog_12_method_102_code 282 = .ok (.getfield 433, 3) := by decide +kernel
theorem d_Mod_runs_285 : decode prog_12_method_102_code 285 = .ok (.aload_n 0, 1) := by decide +kernel
theorem d_Mod_runs_286 : decode prog_12_method_102_code 286 = .ok (.getfield 549, 3) := by decide +kernel
theorem d_Mod_runs_289 : decode prog_12_method_102_code 289 = .ok (.iconst 2, 1) := by decide +kernel
theorem d_Mod_runs_290 : decode prog_12_method_102_code 290 = .ok (.isub, 1) := by decide +kernel
theorem d_Mod_runs_291 : decode prog_12_method_102_code 291 = .ok (.iaload, 1) := by decide +kernel
theorem d_Mod_runs_292 : decode prog_12_method_102_code 292 = .ok (.istore 7, 2) := by decide +kernel
theorem d_Mod_runs_294 : decode prog_12_method_102_code 294 = .ok (.aload_n 0, 1) := by decide +kernel
theorem d_Mod_runs_295 : decode prog_12_method_102_code 295 = .ok (.getfield 436, 3) := by decide +kernel
theorem d_Mod_runs_298 : decode prog_12_method_102_code 298 = .ok (.aload_n 0, 1) := by decide +kernel
theorem d_Mod_runs_299 : decode prog_12_method_102_code 299 = .ok (.getfield 549, 3) := by decide +kernel
theorem d_Mod_runs_302 : decode prog_12_method_102_code 302 = .ok (.iconst 2, 1) := by decide +kernel
theorem d_Mod_runs_303 : decode prog_12_method_102_code 303 = .ok (.isub, 1) := by decide +kernel
theorem d_Mod_runs_304 : decode prog_12_method_102_code 304 = .ok (.iaload, 1) := by decide +kernel
theorem d_Mod_runs_305 : decode prog_12_method_102_code 305 = .ok (.istore 8, 2) := by decide +kernel
theorem d_Mod_runs_307 : decode prog_12_method_102_code 307 = .ok (.iload_n 1, 1) := by decide +kernel
theorem d_Mod_runs_308 : decode prog_12_method_102_code 308 = .ok (.ifCond .le 28, 3) := by decide +kernel
theorem d_Mod_runs_311 : decode prog_12_method_102_code 311 = .ok (.aload_n 0, 1) := by decide +kernel
theorem d_Mod_runs_312 : decode prog_12_method_102_code 312 = .ok (.getfield 323, 3) := by decide +kernel
theorem d_Mod_runs_315 : decode prog_12_method_102_code 315 = .ok (.aload_n 0, 1) := by decide +kernel
theorem d_Mod_runs_316 : decode prog_12_method_102_code 316 = .ok (.getfield 300, 3) := by decide +kernel
theorem d_Mod_runs_319 : decode prog_12_method_102_code 319 = .ok (.iand, 1) := by decide +kernel
theorem d_Mod_runs_320 : decode prog_12_method_102_code 320 = .ok (.iload 7, 2) := by decide +kernel
theorem d_Mod_runs_322 : decode prog_12_method_102_code 322 = .ok (.invokestatic 326, 3) := by decide +kernel
theorem d_Mod_runs_325 : decode prog_12_method_102_code 325 = .ok (.ifCond .ne 11, 3) := by decide +kernel
theorem d_Mod_runs_328 : decode prog_12_method_102_code 328 = .ok (.aload_n 0, 1) := by decide +kernel
theorem d_Mod_runs_329 : decode prog_12_method_102_code 329 = .ok (.iconst 5, 1) := by decide +kernel
theorem d_Mod_runs_330 : decode prog_12_method_102_code 330 = .ok (.putfield 567, 3) := by decide +kernel
theorem d_Mod_runs_333 : decode prog_12_method_102_code 333 = .ok (.goto 17, 3) := by decide +kernel
theorem d_Mod_runs_336 : decode prog_12_method_102_code 336 = .ok (.aload_n 0, 1) := by decide +kernel
theorem d_Mod_runs_337 : decode prog_12_method_102_code 337 = .ok (.getfield 558, 3) := by decide +kernel
theorem d_Mod_runs_340 : decode prog_12_method_102_code 340 = .ok (.bipush 100, 2) := by decide +kernel
theorem d_Mod_runs_342 : decode prog_12_method_102_code 342 = .ok (.if_icmp .ne 8, 3) := by decide +kernel
theorem d_Mod_runs_345 : decode prog_12_method_102_code 345 = .ok (.aload_n 0, 1) := by decide +kernel
theorem d_Mod_runs_346 : decode prog_12_method_102_code 346 = .ok (.iconst 4, 1) := by decide +kernel
theorem d_Mod_runs_347 : decode prog_12_method_102_code 347 = .ok (.putfield 567, 3) := by decide +kernel
theorem d_Mod_runs_350 : decode prog_12_method_102_code 350 = .ok (.aload_n 0, 1) := by decide +kernel
theorem d_Mod_runs_351 : decode prog_12_method_102_code 351 = .ok (.getfield 567, 3) := by decide +kernel
theorem d_Mod_runs_354 : decode prog_12_method_102_code 354 = .ok (.iconst (-1), 1) := by decide +kernel
theorem d_Mod_runs_355 : decode prog_12_method_102_code 355 = .ok (.if_icmp .eq 6, 3) := by decide +kernel
theorem d_Mod_runs_358 : decode prog_12_method_102_code 358 = .ok (.goto 230, 3) := by decide +kernel
theorem d_Mod_runs_361 : decode prog_12_method_102_code 361 = .ok (.aload_n 0, 1) := by decide +kernel
theorem d_Mod_runs_362 : decode prog_12_method_102_code 362 = .ok (.dup, 1) := by decide +kernel
theorem d_Mod_runs_363 : decode prog_12_method_102_code 363 = .ok (.getfield 558, 3) := by decide +kernel
theorem d_Mod_runs_366 : decode prog_12_method_102_code 366 = .ok (.iconst 1, 1) := by decide +kernel
theorem d_Mod_runs_367 : decode prog_12_method_102_code 367 = .ok (.iadd, 1) := by decide +kernel
theorem d_Mod_runs_368 : decode prog_12_method_102_code 368 = .ok (.putfield 558, 3) := by decide +kernel
theorem d_Mod_runs_371 : decode prog_12_method_102_code 371 = .ok (.aload_n 0, 1) := by decide +kernel
theorem d_Mod_runs_372 : decode prog_12_method_102_code 372 = .ok (.dup, 1) := by decide +kernel
theorem d_Mod_runs_373 : decode prog_12_method_102_code 373 = .ok (.getfield 564, 3) := by decide +kernel
theorem d_Mod_runs_376 : decode prog_12_method_102_code 376 = .ok (.iconst 1, 1) := by decide +kernel
theorem d_Mod_runs_377 : decode prog_12_method_102_code 377 = .ok (.iload 7, 2) := by decide +kernel
theorem d_Mod_runs_379 : decode prog_12_method_102_code 379 = .ok (.ishl, 1) := by decide +kernel
theorem d_Mod_runs_380 : decode prog_12_method_102_code 380 = .ok (.ior, 1) := by decide +kernel
theorem d_Mod_runs_381 : decode prog_12_method_102_code 381 = .ok (.putfield 564, 3) := by decide +kernel
theorem d_Mod_runs_384 : decode prog_12_method_102_code 384 = .ok (.aload_n 0, 1) := by decide +kernel
theorem d_Mod_runs_385 : decode prog_12_method_102_code 385 = .ok (.getfield 454, 3) := by decide +kernel
theorem d_Mod_runs_388 : decode prog_12_method_102_code 388 = .ok (.aload_n 0, 1) := by decide +kernel
theorem d_Mod_runs_389 : decode prog_12_method_102_code 389 = .ok (.getfield 555, 3) := by decide +kernel
theorem d_Mod_runs_392 : decode prog_12_method_102_code 392 = .ok (.iload_n 3, 1) := by decide +kernel
theorem d_Mod_runs_393 : decode prog_12_method_102_code 393 = .ok (.iastore, 1) := by decide +kernel
theorem d_Mod_runs_394 : decode prog_12_method_102_code 394 = .ok (.aload_n 0, 1) := by decide +kernel
theorem d_Mod_runs_395 : decode prog_12_method_102_code 395 = .ok (.getfield 457, 3) := by decide +kernel
theorem d_Mod_runs_398 : decode prog_12_method_102_code 398 = .ok (.aload_n 0, 1) := by decide +kernel
theorem d_Mod_runs_399 : decode prog_12_method_102_code 399 = .ok (.getfield 555, 3) := by decide +kernel
theorem d_Mod_runs_402 : decode prog_12_method_102_code 402 = .ok (.iload_n 2, 1) := by decide +kernel
theorem d_Mod_runs_403 : decode prog_12_method_102_code 403 = .ok (.iastore, 1) := by decide +kernel
theorem d_Mod_runs_404 : decode prog_12_method_102_code 404 = .ok (.aload_n 0, 1) := by decide +kernel
theorem d_Mod_runs_405 : decode prog_12_method_102_code 405 = .ok (.getfield 460, 3) := by decide +kernel
theorem d_Mod_runs_408 : decode prog_12_method_102_code 408 = .ok (.aload_n 0, 1) := by decide +kernel
theorem d_Mod_runs_409 : decode prog_12_method_102_code 409 = .ok (.getfield 555, 3) := by decide +kernel
theorem d_Mod_runs_412 : decode prog_12_method_102_code 412 = .ok (.iload 7, 2) := by decide +kernel
theorem d_Mod_runs_414 : decode prog_12_method_102_code 414 = .ok (.iastore, 1) := by decide +kernel
theorem d_Mod_runs_415 : decode prog_12_method_102_code 415 = .ok (.aload_n 0, 1) := by decide +kernel
theorem d_Mod_runs_416 : decode prog_12_method_102_code 416 = .ok (.dup, 1) := by decide +kernel
theorem d_Mod_runs_417 : decode prog_12_method_102_code 417 = .ok (.getfield 555, 3) := by decide +kernel
theorem d_Mod_runs_420 : decode prog_12_method_102_code 420 = .ok (.iconst 1, 1) := by decide +kernel
theorem d_Mod_runs_421 : decode prog_12_method_102_code 421 = .ok (.iadd, 1) := by decide +kernel
theorem d_Mod_runs_422 : decode prog_12_method_102_code 422 = .ok (.putfield 555, 3) := by decide +kernel
theorem d_Mod_runs_425 : decode prog_12_method_102_code 425 = .ok (.aload_n 0, 1) := by decide +kernel
theorem d_Mod_runs_426 : decode prog_12_method_102_code 426 = .ok (.aload_n 0, 1) := by decide +kernel
theorem d_Mod_runs_427 : decode prog_12_method_102_code 427 = .ok (.getfield 555, 3) := by decide +kernel
theorem d_Mod_runs_430 : decode prog_12_method_102_code 430 = .ok (.aload_n 0, 1) := by decide +kernel
theorem d_Mod_runs_431 : decode prog_12_method_102_code 431 = .ok (.getfield 561, 3) := by decide +kernel
theorem d_Mod_runs_434 : decode prog_12_method_102_code 434 = .ok (.if_icmp .le 10, 3) := by decide +kernel
theorem d_Mod_runs_437 : decode prog_12_method_102_code 437 = .ok (.aload_n 0, 1) := by decide +kernel
theorem d_Mod_runs_438 : decode prog_12_method_102_code 438 = .ok (.getfield 555, 3) := by decide +kernel
theorem d_Mod_runs_441 : decode prog_12_method_102_code 441 = .ok (.goto 7, 3) := by decide +kernel
theorem d_Mod_runs_444 : decode prog_12_method_102_code 444 = .ok (.aload_n 0, 1) := by decide +kernel
theorem d_Mod_runs_445 : decode prog_12_method_102_code 445 = .ok (.getfield 561, 3) := by decide +kernel
theorem d_Mod_runs_448 : decode prog_12_method_102_code 448 = .ok (.putfield 561, 3) := by decide +kernel
theorem d_Mod_runs_451 : decode prog_12_method_102_code 451 = .ok (.aload_n 0, 1) := by decide +kernel
theorem d_Mod_runs_452 : decode prog_12_method_102_code 452 = .ok (.iload 7, 2) := by decide +kernel
theorem d_Mod_runs_454 : decode prog_12_method_102_code 454 = .ok (.iload 8, 2) := by decide +kernel
theorem d_Mod_runs_456 : decode prog_12_method_102_code 456 = .ok (.invokevirtual 573, 3) := by decide +kernel
theorem d_Mod_runs_459 : decode prog_12_method_102_code 459 = .ok (.istore_n 2, 1) := by decide +kernel
theorem d_Mod_runs_460 : decode prog_12_method_102_code 460 = .ok (.aload_n 0, 1) := by decide +kernel
theorem d_Mod_runs_461 : decode prog_12_method_102_code 461 = .ok (.iload_n 2, 1) := by decide +kernel
theorem d_Mod_runs_462 : decode prog_12_method_102_code 462 = .ok (.iload 7, 2) := by decide +kernel
theorem d_Mod_runs_464 : decode prog_12_method_102_code 464 = .ok (.invokevirtual 582, 3) := by decide +kernel
theorem d_Mod_runs_467 : decode prog_12_method_102_code 467 = .ok (.aload_n 0, 1) := by decide +kernel
theorem d_Mod_runs_468 : decode prog_12_method_102_code 468 = .ok (.dup, 1) := by decide +kernel
theorem d_Mod_runs_469 : decode prog_12_method_102_code 469 = .ok (.getfield 549, 3) := by decide +kernel
theorem d_Mod_runs_472 : decode prog_12_method_102_code 472 = .ok (.iconst 1, 1) := by decide +kernel
theorem d_Mod_runs_473 : decode prog_12_method_102_code 473 = .ok (.isub, 1) := by decide +kernel
theorem d_Mod_runs_474 : decode prog_12_method_102_code 474 = .ok (.putfield 549, 3) := by decide +kernel
theorem d_Mod_runs_477 : decode prog_12_method_102_code 477 = .ok (.aload_n 0, 1) := by decide +kernel
theorem d_Mod_runs_478 : decode prog_12_method_102_code 478 = .ok (.getfield 396, 3) := by decide +kernel
theorem d_Mod_runs_481 : decode prog_12_method_102_code 481 = .ok (.iload 7, 2) := by decide +kernel
theorem d_Mod_runs_483 : decode prog_12_method_102_code 483 = .ok (.iaload, 1) := by decide +kernel
theorem d_Mod_runs_484 : decode prog_12_method_102_code 484 = .ok (.istore_n 3, 1) := by decide +kernel
theorem d_Mod_runs_485 : decode prog_12_method_102_code 485 = .ok (.goto 103, 3) := by decide +kernel
theorem d_Mod_runs_488 : decode prog_12_method_102_code 488 = .ok (.aload_n 0, 1) := by decide +kernel
theorem d_Mod_runs_489 : decode prog_12_method_102_code 489 = .ok (.getfield 555, 3) := by decide +kernel
theorem d_Mod_runs_492 : decode prog_12_method_102_code 492 = .ok (.ifCond .ne 66, 3) := by decide +kernel
theorem d_Mod_runs_495 : decode prog_12_method_102_code 495 = .ok (.aload_n 0, 1) := by decide +kernel
theorem d_Mod_runs_496 : decode prog_12_method_102_code 496 = .ok (.aload_n 0, 1) := by decide +kernel
theorem d_Mod_runs_497 : decode prog_12_method_102_code 497 = .ok (.getfield 433, 3) := by decide +kernel
theorem d_Mod_runs_500 : decode prog_12_method_102_code 500 = .ok (.aload_n 0, 1) := by decide +kernel
theorem d_Mod_runs_501 : decode prog_12_method_102_code 501 = .ok (.getfield 549, 3) := by decide +kernel
theorem d_Mod_runs_504 : decode prog_12_method_102_code 504 = .ok (.iconst 1, 1) := by decide +kernel
theorem d_Mod_runs_505 : decode prog_12_method_102_code 505 = .ok (.isub, 1) := by decide +kernel
theorem d_Mod_runs_506 : decode prog_12_method_102_code 506 = .ok (.iaload, 1) := by decide +kernel
theorem d_Mod_runs_507 : decode prog_12_method_102_code 507 = .ok (.iconst (-1), 1) := by decide +kernel
theorem d_Mod_runs_508 : decode prog_12_method_102_code 508 = .ok (.if_icmp .ne 7, 3) := by decide +kernel
theorem d_Mod_runs_511 : decode prog_12_method_102_code 511 = .ok (.iconst 0, 1) := by decide +kernel
theorem d_Mod_runs_512 : decode prog_12_method_102_code 512 = .ok (.goto 4, 3) := by decide +kernel
theorem d_Mod_runs_515 : decode prog_12_method_102_code 515 = .ok (.iconst 1, 1) := by decide +kernel
theorem d_Mod_runs_516 : decode prog_12_method_102_code 516 = .ok (.putfield 567, 3) := by decide +kernel
theorem d_Mod_runs_519 : decode prog_12_method_102_code 519 = .ok (.aload_n 0, 1) := by decide +kernel
theorem d_Mod_runs_520 : decode prog_12_method_102_code 520 = .ok (.aload_n 0, 1) := by decide +kernel
theorem d_Mod_runs_521 : decode prog_12_method_102_code 521 = .ok (.getfield 567, 3) := by decide +kernel
theorem d_Mod_runs_524 : decode prog_12_method_102_code 524 = .ok (.ifCond .ne 17, 3) := by decide +kernel
theorem d_Mod_runs_527 : decode prog_12_method_102_code 527 = .ok (.aload_n 0, 1) := by decide +kernel
theorem d_Mod_runs_528 : decode prog_12_method_102_code 528 = .ok (.getfield 430, 3) := by decide +kernel
theorem d_Mod_runs_531 : decode prog_12_method_102_code 531 = .ok (.aload_n 0, 1) := by decide +kernel
theorem d_Mod_runs_532 : decode prog_12_method_102_code 532 = .ok (.getfield 549, 3) := by decide +kernel
theorem d_Mod_runs_535 : decode prog_12_method_102_code 535 = .ok (.iconst 1, 1) := by decide +kernel
theorem d_Mod_runs_536 : decode prog_12_method_102_code 536 = .ok (.isub, 1) := by decide +kernel
theorem d_Mod_runs_537 : decode prog_12_method_102_code 537 = .ok (.iaload, 1) := by decide +kernel
theorem d_Mod_runs_538 : decode prog_12_method_102_code 538 = .ok (.goto 14, 3) := by decide +kernel
theorem d_Mod_runs_541 : decode prog_12_method_102_code 541 = .ok (.aload_n 0, 1) := by decide +kernel
theorem d_Mod_runs_542 : decode prog_12_method_102_code 542 = .ok (.getfield 433, 3) := by decide +kernel
theorem d_Mod_runs_545 : decode prog_12_method_102_code 545 = .ok (.aload_n 0, 1) := by decide +kernel
theorem d_Mod_runs_546 : decode prog_12_method_102_code 546 = .ok (.getfield 549, 3) := by decide +kernel
theorem d_Mod_runs_549 : decode prog_12_method_102_code 549 = .ok (.iconst 1, 1) := by decide +kernel
theorem d_Mod_runs_550 : decode prog_12_method_102_code 550 = .ok (.isub, 1) := by decide +kernel
theorem d_Mod_runs_551 : decode prog_12_method_102_code 551 = .ok (.iaload, 1) := by decide +kernel
theorem d_Mod_runs_552 : decode prog_12_method_102_code 552 = .ok (.putfield 570, 3) := by decide +kernel
theorem d_Mod_runs_555 : decode prog_12_method_102_code 555 = .ok (.goto 33, 3) := by decide +kernel
theorem d_Mod_runs_558 : decode prog_12_method_102_code 558 = .ok (.aload_n 0, 1) := by decide +kernel
theorem d_Mod_runs_559 : decode prog_12_method_102_code 559 = .ok (.dup, 1) := by decide +kernel
theorem d_Mod_runs_560 : decode prog_12_method_102_code 560 = .ok (.getfield 555, 3) := by decide +kernel
theorem d_Mod_runs_563 : decode prog_12_method_102_code 563 = .ok (.iconst 1, 1) := by decide +kernel
theorem d_Mod_runs_564 : decode prog_12_method_102_code 564 = .ok (.isub, 1) := by decide +kernel
theorem d_Mod_runs_565 : decode prog_12_method_102_code 565 = .ok (.putfield 555, 3) := by decide +kernel
theorem d_Mod_runs_568 : decode prog_12_method_102_code 568 = .ok (.aload_n 0, 1) := by decide +kernel
theorem d_Mod_runs_569 : decode prog_12_method_102_code 569 = .ok (.getfield 454, 3) := by decide +kernel
theorem d_Mod_runs_572 : decode prog_12_method_102_code 572 = .ok (.aload_n 0, 1) := by decide +kernel
theorem d_Mod_runs_573 : decode prog_12_method_102_code 573 = .ok (.getfield 555, 3) := by decide +kernel
theorem d_Mod_runs_576 : decode prog_12_method_102_code 576 = .ok (.iaload, 1) := by decide +kernel
theorem d_Mod_runs_577 : decode prog_12_method_102_code 577 = .ok (.istore_n 3, 1) := by decide +kernel
theorem d_Mod_runs_578 : decode prog_12_method_102_code 578 = .ok (.aload_n 0, 1) := by decide +kernel
theorem d_Mod_runs_579 : decode prog_12_method_102_code 579 = .ok (.getfield 457, 3) := by decide +kernel
theorem d_Mod_runs_582 : decode prog_12_method_102_code 582 = .ok (.aload_n 0, 1) := by decide +kernel
theorem d_Mod_runs_583 : decode prog_12_method_102_code 583 = .ok (.getfield 555, 3) := by decide +kernel
theorem d_Mod_runs_586 : decode prog_12_method_102_code 586 = .ok (.iaload, 1) := by decide +kernel
theorem d_Mod_runs_587 : decode prog_12_method_102_code 587 = .ok (.istore_n 2, 1) := by decide +kernel
theorem d_Mod_runs_588 : decode prog_12_method_102_code 588 = .ok (.goto (-531), 3) := by decide +kernel
theorem d_Mod_runs_591 : decode prog_12_method_102_code 591 = .ok (.return_, 1) := by decide +kernel
def fm_Mod_runs_j448 (a1 : Int) (k57 : Int → Int → fa_W → Option fa_W) (x7 : Int) (x8 : Int) (s0 : Int) (w : fa_W) : Option fa_W :=
  fa_let (fa_st w 181 90 s0) fun w65 =>
  fa_bd (fm_Mod_frame x7 x8 w65) fun v67 w68 =>
  (fm_Mod_holdsIn v67 x7 w68).bind fun w70 =>
  fa_let (fa_st w70 181 86 ((w70 181 86) - 1)) fun w71 =>
  (fa_ix x7 25).bind fun j72 =>
  fa_let (w71 223 j72) fun x3_73 =>
  k57 v67 x3_73 w71
set_option maxHeartbeats 4000000 in
set_option maxRecDepth 100000 in
theorem c_Mod_runs_j448 {p : Program} {l : Launch} {e : Env} {s : State} {m : MethodId} {args : Array Value} {below : List Frame} {meth : Method} {c : Code} {hh : Nat} {D : va_G} {b : Nat} {aC : Nat → ClassId} {H0 : Heap} {N T : Nat} (X : fa_GX p s m args meth c prog_12_method_102_code 9 ((Option.none : Option Jvm.ClassFile.FieldType)) y_Mod_runs.cls D b aC) (hle : 2 ≤ hh) (hN : fa_NM ≤ N) (hT : fa_TM ≤ T) (a1 : Int) {r : fa_W} (k57 : Int → Int → fa_W → Option fa_W) (K57 : ∀ (x2 : Int) (x3 : Int) (w : fa_W), k57 x2 x3 w = some r → fa_GJ p l e (fa_rm hh) s m args below meth c 0 0 (MQ below (fa_Qc D b aC H0 N T (none) r) args s 0 0 (fun q => b ≤ q)) D b aC H0 N T 9 w 57 [(0, .ref (b + 181)), (1, .int (fa_I a1)), (2, .int (fa_I x2)), (3, .int (fa_I x3))] []) : ∀ (x7 : Int) (x8 : Int) (s0 : Int) (w : fa_W) (_ : fm_Mod_runs_j448 a1 k57 x7 x8 s0 w = some r), fa_GJ p l e (fa_rm hh) s m args below meth c 0 0 (MQ below (fa_Qc D b aC H0 N T (none) r) args s 0 0 (fun q => b ≤ q)) D b aC H0 N T 9 w 448 [(0, .ref (b + 181)), (1, .int (fa_I a1)), (7, .int (fa_I x7)), (8, .int (fa_I x8))] [.int (fa_I s0), .ref (b + 181)] := by
  intro x7 x8 s0 w hM
  unfold fm_Mod_runs_j448 at hM
  refine g_put X ck_10 fo_181 (fn_181 hN) 90 (z := s0) (by decide) wd_1831 rfl (fa_fvI' rfl) rfl rfl rfl d_Mod_runs_448 (fun w65 ew65 => ?_)
  have hM := fa_let_to hM ew65
  refine g_aload_n X 0 rfl d_Mod_runs_451 ?_
  refine g_iload X 2 rfl d_Mod_runs_452 ?_
  refine g_iload X 3 rfl d_Mod_runs_454 ?_
  obtain ⟨v67, w68, e66, hM⟩ := fa_obd hM
  refine g_callV_i X ck_10 fo_181 (fn_181 hN) rfl mi_Mod_frame (c_Mod_frame hN hT x7 x8 w65 _ e66) wd_2160 rfl (Nat.le_trans (Nat.le_of_ble_eq_true rfl) hle) (st := []) (Nat.le_of_ble_eq_true rfl) rfl d_Mod_runs_456 ?_
  refine g_istorec_n X [(2, .int (fa_I v67)), (0, .ref (b + 181)), (1, .int (fa_I a1)), (7, .int (fa_I x7)), (8, .int (fa_I x8))] d_Mod_runs_459 (by decide) rfl ?_
  refine g_aload_n X 1 rfl d_Mod_runs_460 ?_
  refine g_iload_n X 0 rfl d_Mod_runs_461 ?_
  refine g_iload X 3 rfl d_Mod_runs_462 ?_
  obtain ⟨w70, e69, hM⟩ := fa_ob hM
  refine g_callV_v X ck_10 fo_181 (fn_181 hN) rfl mi_Mod_holdsIn (c_Mod_holdsIn hN hT v67 x7 w68 _ e69) wd_2172 rfl (Nat.le_trans (Nat.le_of_ble_eq_true rfl) hle) (st := []) (Nat.le_of_ble_eq_true rfl) rfl d_Mod_runs_464 ?_
  refine g_aload_n X 1 rfl d_Mod_runs_467 ?_
  refine g_dup X rfl d_Mod_runs_468 ?_
  refine g_get X ck_10 fo_181 (fn_181 hN) 86 (by decide) wd_1827 rfl (fa_fvI rfl) d_Mod_runs_469 ?_
  refine g_iconst X d_Mod_runs_472 ?_
  refine g_isub X d_Mod_runs_473 ?_
  refine g_put X ck_10 fo_181 (fn_181 hN) 86 (z := ((w70 181 86) - 1)) (by decide) wd_1827 rfl (fa_fvI' rfl) rfl rfl rfl d_Mod_runs_474 (fun w71 ew71 => ?_)
  have hM := fa_let_to hM ew71
  refine g_aload_n X 1 rfl d_Mod_runs_477 ?_
  refine g_get X ck_10 fo_181 (fn_181 hN) 67 (by decide) wd_1808 rfl (fr_181_67 rfl hT) d_Mod_runs_478 ?_
  refine g_iload X 3 rfl d_Mod_runs_481 ?_
  obtain ⟨j72, ej72, hM⟩ := fa_ob hM
  refine g_iald X fs_223 (fn_223 hN) ej72 d_Mod_runs_483 ?_
  refine g_istore_n X (fun x3_73 => [(3, .int (fa_I x3_73)), (2, .int (fa_I v67)), (0, .ref (b + 181)), (1, .int (fa_I a1)), (7, .int (fa_I x7)), (8, .int (fa_I x8))]) d_Mod_runs_484 (by decide) (fun _ => rfl) (fun x3_73 ex3_73 => ?_)
  have hM := fa_let_to hM ex3_73
  refine g_goto X 588 d_Mod_runs_485 (by decide) ?_
  refine g_goto X 57 d_Mod_runs_588 (by decide) ?_
  exact g_lv [2, 3, 1, 0] rfl (K57 _ _ _ hM)
def fm_Mod_runs_j350 (a1 : Int) (k57 : Int → Int → fa_W → Option fa_W) (x2 : Int) (x3 : Int) (x7 : Int) (x8 : Int) (w : fa_W) : Option fa_W :=
  if fa_wr (w 181 92) = (-1) then
  (fa_let (fa_st w 181 89 ((w 181 89) + 1)) fun w55 =>
  fa_let (fa_st w55 181 91 (fa_ior (w55 181 91) (fa_ishl 1 x7))) fun w56 =>
  (fa_ix (w56 181 88) 110).bind fun j57 =>
  fa_let (fa_st w56 234 j57 x3) fun w58 =>
  (fa_ix (w58 181 88) 110).bind fun j59 =>
  fa_let (fa_st w58 235 j59 x2) fun w60 =>
  (fa_ix (w60 181 88) 110).bind fun j61 =>
  fa_let (fa_st w60 236 j61 x7) fun w62 =>
  fa_let (fa_st w62 181 88 ((w62 181 88) + 1)) fun w63 =>
  if fa_wr (w63 181 88) ≤ fa_wr (w63 181 90) then
  fm_Mod_runs_j448 a1 k57 x7 x8 (w63 181 90) w63
  else
  fm_Mod_runs_j448 a1 k57 x7 x8 (w63 181 88) w63)
  else
  k57 x2 x3 w
set_option maxHeartbeats 4000000 in
set_option maxRecDepth 100000 in
theorem c_Mod_runs_j350 {p : Program} {l : Launch} {e : Env} {s : State} {m : MethodId} {args : Array Value} {below : List Frame} {meth : Method} {c : Code} {hh : Nat} {D : va_G} {b : Nat} {aC : Nat → ClassId} {H0 : Heap} {N T : Nat} (X : fa_GX p s m args meth c prog_12_method_102_code 9 ((Option.none : Option Jvm.ClassFile.FieldType)) y_Mod_runs.cls D b aC) (hle : 2 ≤ hh) (hN : fa_NM ≤ N) (hT : fa_TM ≤ T) (a1 : Int) {r : fa_W} (k57 : Int → Int → fa_W → Option fa_W) (K57 : ∀ (x2 : Int) (x3 : Int) (w : fa_W), k57 x2 x3 w = some r → fa_GJ p l e (fa_rm hh) s m args below meth c 0 0 (MQ below (fa_Qc D b aC H0 N T (none) r) args s 0 0 (fun q => b ≤ q)) D b aC H0 N T 9 w 57 [(0, .ref (b + 181)), (1, .int (fa_I a1)), (2, .int (fa_I x2)), (3, .int (fa_I x3))] []) : ∀ (x2 : Int) (x3 : Int) (x7 : Int) (x8 : Int) (w : fa_W) (_ : fm_Mod_runs_j350 a1 k57 x2 x3 x7 x8 w = some r), fa_GJ p l e (fa_rm hh) s m args below meth c 0 0 (MQ below (fa_Qc D b aC H0 N T (none) r) args s 0 0 (fun q => b ≤ q)) D b aC H0 N T 9 w 350 [(0, .ref (b + 181)), (1, .int (fa_I a1)), (2, .int (fa_I x2)), (3, .int (fa_I x3)), (7, .int (fa_I x7)), (8, .int (fa_I x8))] [] := by
  intro x2 x3 x7 x8 w hM
  unfold fm_Mod_runs_j350 at hM
  refine g_aload_n X 0 rfl d_Mod_runs_350 ?_
  refine g_get X ck_10 fo_181 (fn_181 hN) 92 (by decide) wd_1833 rfl (fa_fvI rfl) d_Mod_runs_351 ?_
  refine g_iconst X d_Mod_runs_354 ?_
  refine g_icmp_eq X 361 d_Mod_runs_355 (by decide) (fun hc54 => ?_) (fun hc54 => ?_)
  · have hM := fa_if_t hM hc54
    refine g_aload_n X 0 rfl d_Mod_runs_361 ?_
    refine g_dup X rfl d_Mod_runs_362 ?_
    refine g_get X ck_10 fo_181 (fn_181 hN) 89 (by decide) wd_1830 rfl (fa_fvI rfl) d_Mod_runs_363 ?_
    refine g_iconst X d_Mod_runs_366 ?_
    refine g_iadd X d_Mod_runs_367 ?_
    refine g_put X ck_10 fo_181 (fn_181 hN) 89 (z := ((w 181 89) + 1)) (by decide) wd_1830 rfl (fa_fvI' rfl) rfl rfl rfl d_Mod_runs_368 (fun w55 ew55 => ?_)
    have hM := fa_let_to hM ew55
    refine g_aload_n X 0 rfl d_Mod_runs_371 ?_
    refine g_dup X rfl d_Mod_runs_372 ?_
    refine g_get X ck_10 fo_181 (fn_181 hN) 91 (by decide) wd_1832 rfl (fa_fvI rfl) d_Mod_runs_373 ?_
    refine g_iconst X d_Mod_runs_376 ?_
    refine g_iload X 4 rfl d_Mod_runs_377 ?_
    refine g_ishl X d_Mod_runs_379 ?_
    refine g_ior X d_Mod_runs_380 ?_
    refine g_put X ck_10 fo_181 (fn_181 hN) 91 (z := (fa_ior (w55 181 91) (fa_ishl 1 x7))) (by decide) wd_1832 rfl (fa_fvI' rfl) rfl rfl rfl d_Mod_runs_381 (fun w56 ew56 => ?_)
    have hM := fa_let_to hM ew56
    refine g_aload_n X 0 rfl d_Mod_runs_384 ?_
    refine g_get X ck_10 fo_181 (fn_181 hN) 83 (by decide) wd_1824 rfl (fr_181_83 rfl hT) d_Mod_runs_385 ?_
    refine g_aload_n X 0 rfl d_Mod_runs_388 ?_
    refine g_get X ck_10 fo_181 (fn_181 hN) 88 (by decide) wd_1829 rfl (fa_fvI rfl) d_Mod_runs_389 ?_
    refine g_iload_n X 3 rfl d_Mod_runs_392 ?_
    obtain ⟨j57, ej57, hM⟩ := fa_ob hM
    refine g_iast X fs_234 (fn_234 hN) ej57 d_Mod_runs_393 (fun w58 ew58 => ?_)
    have hM := fa_let_to hM ew58
    refine g_aload_n X 0 rfl d_Mod_runs_394 ?_
    refine g_get X ck_10 fo_181 (fn_181 hN) 84 (by decide) wd_1825 rfl (fr_181_84 rfl hT) d_Mod_runs_395 ?_
    refine g_aload_n X 0 rfl d_Mod_runs_398 ?_
    refine g_get X ck_10 fo_181 (fn_181 hN) 88 (by decide) wd_1829 rfl (fa_fvI rfl) d_Mod_runs_399 ?_
    refine g_iload_n X 2 rfl d_Mod_runs_402 ?_
    obtain ⟨j59, ej59, hM⟩ := fa_ob hM
    refine g_iast X fs_235 (fn_235 hN) ej59 d_Mod_runs_403 (fun w60 ew60 => ?_)
    have hM := fa_let_to hM ew60
    refine g_aload_n X 0 rfl d_Mod_runs_404 ?_
    refine g_get X ck_10 fo_181 (fn_181 hN) 85 (by decide) wd_1826 rfl (fr_181_85 rfl hT) d_Mod_runs_405 ?_
    refine g_aload_n X 0 rfl d_Mod_runs_408 ?_
    refine g_get X ck_10 fo_181 (fn_181 hN) 88 (by decide) wd_1829 rfl (fa_fvI rfl) d_Mod_runs_409 ?_
    refine g_iload X 4 rfl d_Mod_runs_412 ?_
    obtain ⟨j61, ej61, hM⟩ := fa_ob hM
    refine g_iast X fs_236 (fn_236 hN) ej61 d_Mod_runs_414 (fun w62 ew62 => ?_)
    have hM := fa_let_to hM ew62
    refine g_aload_n X 0 rfl d_Mod_runs_415 ?_
    refine g_dup X rfl d_Mod_runs_416 ?_
    refine g_get X ck_10 fo_181 (fn_181 hN) 88 (by decide) wd_1829 rfl (fa_fvI rfl) d_Mod_runs_417 ?_
    refine g_iconst X d_Mod_runs_420 ?_
    refine g_iadd X d_Mod_runs_421 ?_
    refine g_put X ck_10 fo_181 (fn_181 hN) 88 (z := ((w62 181 88) + 1)) (by decide) wd_1829 rfl (fa_fvI' rfl) rfl rfl rfl d_Mod_runs_422 (fun w63 ew63 => ?_)
    have hM := fa_let_to hM ew63
    refine g_aload_n X 0 rfl d_Mod_runs_425 ?_
    refine g_aload_n X 0 rfl d_Mod_runs_426 ?_
    refine g_get X ck_10 fo_181 (fn_181 hN) 88 (by decide) wd_1829 rfl (fa_fvI rfl) d_Mod_runs_427 ?_
    refine g_aload_n X 0 rfl d_Mod_runs_430 ?_
    refine g_get X ck_10 fo_181 (fn_181 hN) 90 (by decide) wd_1831 rfl (fa_fvI rfl) d_Mod_runs_431 ?_
    refine g_icmp_le X 444 d_Mod_runs_434 (by decide) (fun hc64 => ?_) (fun hc64 => ?_)
    · have hM := fa_if_t hM hc64
      refine g_aload_n X 0 rfl d_Mod_runs_444 ?_
      refine g_get X ck_10 fo_181 (fn_181 hN) 90 (by decide) wd_1831 rfl (fa_fvI rfl) d_Mod_runs_445 ?_
      exact g_lv [0, 1, 4, 5] rfl (c_Mod_runs_j448 X hle hN hT a1  k57 K57  _ _ _ _ hM)
    · have hM := fa_if_f hM hc64
      refine g_aload_n X 0 rfl d_Mod_runs_437 ?_
      refine g_get X ck_10 fo_181 (fn_181 hN) 88 (by decide) wd_1829 rfl (fa_fvI rfl) d_Mod_runs_438 ?_
      refine g_goto X 448 d_Mod_runs_441 (by decide) ?_
      exact g_lv [0, 1, 4, 5] rfl (c_Mod_runs_j448 X hle hN hT a1  k57 K57  _ _ _ _ hM)
  · have hM := fa_if_f hM hc54
    refine g_goto X 588 d_Mod_runs_358 (by decide) ?_
    refine g_goto X 57 d_Mod_runs_588 (by decide) ?_
    exact g_lv [0, 1, 2, 3] rfl (K57 _ _ _ hM)
def fm_Mod_runs_j336 (a1 : Int) (k57 : Int → Int → fa_W → Option fa_W) (x2 : Int) (x3 : Int) (x7 : Int) (x8 : Int) (w : fa_W) : Option fa_W :=
  if fa_wr (w 181 89) = 100 then
  (fa_let (fa_st w 181 92 4) fun w74 =>
  fm_Mod_runs_j350 a1 k57 x2 x3 x7 x8 w74)
  else
  fm_Mod_runs_j350 a1 k57 x2 x3 x7 x8 w
set_option maxHeartbeats 4000000 in
set_option maxRecDepth 100000 in
theorem c_Mod_runs_j336 {p : Program} {l : Launch} {e : Env} {s : State} {m : MethodId} {args : Array Value} {below : List Frame} {meth : Method} {c : Code} {hh : Nat} {D : va_G} {b : Nat} {aC : Nat → ClassId} {H0 : Heap} {N T : Nat} (X : fa_GX p s m args meth c prog_12_method_102_code 9 ((Option.none : Option Jvm.ClassFile.FieldType)) y_Mod_runs.cls D b aC) (hle : 2 ≤ hh) (hN : fa_NM ≤ N) (hT : fa_TM ≤ T) (a1 : Int) {r : fa_W} (k57 : Int → Int → fa_W → Option fa_W) (K57 : ∀ (x2 : Int) (x3 : Int) (w : fa_W), k57 x2 x3 w = some r → fa_GJ p l e (fa_rm hh) s m args below meth c 0 0 (MQ below (fa_Qc D b aC H0 N T (none) r) args s 0 0 (fun q => b ≤ q)) D b aC H0 N T 9 w 57 [(0, .ref (b + 181)), (1, .int (fa_I a1)), (2, .int (fa_I x2)), (3, .int (fa_I x3))] []) : ∀ (x2 : Int) (x3 : Int) (x7 : Int) (x8 : Int) (w : fa_W) (_ : fm_Mod_runs_j336 a1 k57 x2 x3 x7 x8 w = some r), fa_GJ p l e (fa_rm hh) s m args below meth c 0 0 (MQ below (fa_Qc D b aC H0 N T (none) r) args s 0 0 (fun q => b ≤ q)) D b aC H0 N T 9 w 336 [(0, .ref (b + 181)), (1, .int (fa_I a1)), (2, .int (fa_I x2)), (3, .int (fa_I x3)), (7, .int (fa_I x7)), (8, .int (fa_I x8))] [] := by
  intro x2 x3 x7 x8 w hM
  unfold fm_Mod_runs_j336 at hM
  refine g_aload_n X 0 rfl d_Mod_runs_336 ?_
  refine g_get X ck_10 fo_181 (fn_181 hN) 89 (by decide) wd_1830 rfl (fa_fvI rfl) d_Mod_runs_337 ?_
  refine g_bipush X (by decide) d_Mod_runs_340 ?_
  refine g_icmp_ne X 350 d_Mod_runs_342 (by decide) (fun hc53 => ?_) (fun hc53 => ?_)
  · have hM := fa_if_f hM hc53
    exact g_lv [0, 1, 2, 3, 4, 5] rfl (c_Mod_runs_j350 X hle hN hT a1  k57 K57  _ _ _ _ _ hM)
  · have hM := fa_if_t hM hc53
    refine g_aload_n X 0 rfl d_Mod_runs_345 ?_
    refine g_iconst X d_Mod_runs_346 ?_
    refine g_put X ck_10 fo_181 (fn_181 hN) 92 (z := 4) (by decide) wd_1833 rfl (fa_fvI' rfl) rfl rfl rfl d_Mod_runs_347 (fun w74 ew74 => ?_)
    have hM := fa_let_to hM ew74
    exact g_lv [0, 1, 2, 3, 4, 5] rfl (c_Mod_runs_j350 X hle hN hT a1  k57 K57  _ _ _ _ _ hM)
def fm_Mod_runs_j552 (a1 : Int) (k57 : Int → Int → fa_W → Option fa_W) (x2 : Int) (x3 : Int) (s0 : Int) (w : fa_W) : Option fa_W :=
  fa_let (fa_st w 181 93 s0) fun w94 =>
  k57 x2 x3 w94
set_option maxHeartbeats 4000000 in
set_option maxRecDepth 100000 in
theorem c_Mod_runs_j552 {p : Program} {l : Launch} {e : Env} {s : State} {m : MethodId} {args : Array Value} {below : List Frame} {meth : Method} {c : Code} {hh : Nat} {D : va_G} {b : Nat} {aC : Nat → ClassId} {H0 : Heap} {N T : Nat} (X : fa_GX p s m args meth c prog_12_method_102_code 9 ((Option.none : Option Jvm.ClassFile.FieldType)) y_Mod_runs.cls D b aC) (hle : 2 ≤ hh) (hN : fa_NM ≤ N) (hT : fa_TM ≤ T) (a1 : Int) {r : fa_W} (k57 : Int → Int → fa_W → Option fa_W) (K57 : ∀ (x2 : Int) (x3 : Int) (w : fa_W), k57 x2 x3 w = some r → fa_GJ p l e (fa_rm hh) s m args below meth c 0 0 (MQ below (fa_Qc D b aC H0 N T (none) r) args s 0 0 (fun q => b ≤ q)) D b aC H0 N T 9 w 57 [(0, .ref (b + 181)), (1, .int (fa_I a1)), (2, .int (fa_I x2)), (3, .int (fa_I x3))] []) : ∀ (x2 : Int) (x3 : Int) (s0 : Int) (w : fa_W) (_ : fm_Mod_runs_j552 a1 k57 x2 x3 s0 w = some r), fa_GJ p l e (fa_rm hh) s m args below meth c 0 0 (MQ below (fa_Qc D b aC H0 N T (none) r) args s 0 0 (fun q => b ≤ q)) D b aC H0 N T 9 w 552 [(0, .ref (b + 181)), (1, .int (fa_I a1)), (2, .int (fa_I x2)), (3, .int (fa_I x3))] [.int (fa_I s0), .ref (b + 181)] := by
  intro x2 x3 s0 w hM
  unfold fm_Mod_runs_j552 at hM
  refine g_put X ck_10 fo_181 (fn_181 hN) 93 (z := s0) (by decide) wd_1834 rfl (fa_fvI' rfl) rfl rfl rfl d_Mod_runs_552 (fun w94 ew94 => ?_)
  have hM := fa_let_to hM ew94
  refine g_goto X 588 d_Mod_runs_555 (by decide) ?_
  refine g_goto X 57 d_Mod_runs_588 (by decide) ?_
  exact g_lv [0, 1, 2, 3] rfl (K57 _ _ _ hM)
def fm_Mod_runs_j516 (a1 : Int) (k57 : Int → Int → fa_W → Option fa_W) (x2 : Int) (x3 : Int) (s0 : Bool) (w : fa_W) : Option fa_W :=
  fa_let (fa_st w 181 92 (fa_bi s0)) fun w91 =>
  if fa_wr (w91 181 92) = 0 then
  ((fa_ix ((w91 181 86) - 1) 55000).bind fun j95 =>
  fm_Mod_runs_j552 a1 k57 x2 x3 (w91 226 j95) w91)
  else
  ((fa_ix ((w91 181 86) - 1) 55000).bind fun j93 =>
  fm_Mod_runs_j552 a1 k57 x2 x3 (w91 227 j93) w91)
set_option maxHeartbeats 4000000 in
set_option maxRecDepth 100000 in
theorem c_Mod_runs_j516 {p : Program} {l : Launch} {e : Env} {s : State} {m : MethodId} {args : Array Value} {below : List Frame} {meth : Method} {c : Code} {hh : Nat} {D : va_G} {b : Nat} {aC : Nat → ClassId} {H0 : Heap} {N T : Nat} (X : fa_GX p s m args meth c prog_12_method_102_code 9 ((Option.none : Option Jvm.ClassFile.FieldType)) y_Mod_runs.cls D b aC) (hle : 2 ≤ hh) (hN : fa_NM ≤ N) (hT : fa_TM ≤ T) (a1 : Int) {r : fa_W} (k57 : Int → Int → fa_W → Option fa_W) (K57 : ∀ (x2 : Int) (x3 : Int) (w : fa_W), k57 x2 x3 w = some r → fa_GJ p l e (fa_rm hh) s m args below meth c 0 0 (MQ below (fa_Qc D b aC H0 N T (none) r) args s 0 0 (fun q => b ≤ q)) D b aC H0 N T 9 w 57 [(0, .ref (b + 181)), (1, .int (fa_I a1)), (2, .int (fa_I x2)), (3, .int (fa_I x3))] []) : ∀ (x2 : Int) (x3 : Int) (s0 : Bool) (w : fa_W) (_ : fm_Mod_runs_j516 a1 k57 x2 x3 s0 w = some r), fa_GJ p l e (fa_rm hh) s m args below meth c 0 0 (MQ below (fa_Qc D b aC H0 N T (none) r) args s 0 0 (fun q => b ≤ q)) D b aC H0 N T 9 w 516 [(0, .ref (b + 181)), (1, .int (fa_I a1)), (2, .int (fa_I x2)), (3, .int (fa_I x3))] [.int (fa_I (fa_bi s0)), .ref (b + 181)] := by
  intro x2 x3 s0 w hM
  unfold fm_Mod_runs_j516 at hM
  refine g_put X ck_10 fo_181 (fn_181 hN) 92 (z := (fa_bi s0)) (by decide) wd_1833 rfl (fa_fvI' rfl) rfl rfl rfl d_Mod_runs_516 (fun w91 ew91 => ?_)
  have hM := fa_let_to hM ew91
  refine g_aload_n X 0 rfl d_Mod_runs_519 ?_
  refine g_aload_n X 0 rfl d_Mod_runs_520 ?_
  refine g_get X ck_10 fo_181 (fn_181 hN) 92 (by decide) wd_1833 rfl (fa_fvI rfl) d_Mod_runs_521 ?_
  refine g_if_ne X 541 d_Mod_runs_524 (by decide) (fun hc92 => ?_) (fun hc92 => ?_)
  · have hM := fa_if_f hM hc92
    refine g_aload_n X 0 rfl d_Mod_runs_541 ?_
    refine g_get X ck_10 fo_181 (fn_181 hN) 76 (by decide) wd_1817 rfl (fr_181_76 rfl hT) d_Mod_runs_542 ?_
    refine g_aload_n X 0 rfl d_Mod_runs_545 ?_
    refine g_get X ck_10 fo_181 (fn_181 hN) 86 (by decide) wd_1827 rfl (fa_fvI rfl) d_Mod_runs_546 ?_
    refine g_iconst X d_Mod_runs_549 ?_
    refine g_isub X d_Mod_runs_550 ?_
    obtain ⟨j93, ej93, hM⟩ := fa_ob hM
    refine g_iald X fs_227 (fn_227 hN) ej93 d_Mod_runs_551 ?_
    exact g_lv [0, 1, 2, 3] rfl (c_Mod_runs_j552 X hle hN hT a1  k57 K57  _ _ _ _ hM)
  · have hM := fa_if_t hM hc92
    refine g_aload_n X 0 rfl d_Mod_runs_527 ?_
    refine g_get X ck_10 fo_181 (fn_181 hN) 75 (by decide) wd_1816 rfl (fr_181_75 rfl hT) d_Mod_runs_528 ?_
    refine g_aload_n X 0 rfl d_Mod_runs_531 ?_
    refine g_get X ck_10 fo_181 (fn_181 hN) 86 (by decide) wd_1827 rfl (fa_fvI rfl) d_Mod_runs_532 ?_
    refine g_iconst X d_Mod_runs_535 ?_
    refine g_isub X d_Mod_runs_536 ?_
    obtain ⟨j95, ej95, hM⟩ := fa_ob hM
    refine g_iald X fs_226 (fn_226 hN) ej95 d_Mod_runs_537 ?_
    refine g_goto X 552 d_Mod_runs_538 (by decide) ?_
    exact g_lv [0, 1, 2, 3] rfl (c_Mod_runs_j552 X hle hN hT a1  k57 K57  _ _ _ _ hM)
def fm_Mod_runs_l57 (a1 : Int) : Nat → Int → Int → fa_W → Option fa_W
  | 0, _, _, _ => none
  | n + 1, x2, x3, w => if fa_wr (w 181 92) = (-1) then
  ((fa_ix x3 500).bind fun j16 =>
  fa_let (w 222 j16) fun x4_17 =>
  (fa_ix x3 500).bind fun j18 =>
  fa_let (w 221 j18) fun x5_19 =>
  fa_let (x3 + 1) fun x3_20 =>
  if fa_wr x5_19 = 0 then
  ((fm_Mod_puts x4_17 (-1) (-1) w).bind fun w23 =>
  fm_Mod_runs_l57 a1 n x2 x3_20 w23)
  else
  if fa_wr x5_19 = 1 then
  ((fm_Mod_frameOfBinder x4_17 x2 w).bind fun v26 =>
  fa_let ((124 * v26) + x4_17) fun x6_27 =>
  (fa_ix x6_27 13640).bind fun j28 =>
  (fa_ix x6_27 13640).bind fun j29 =>
  (fa_ix x6_27 13640).bind fun j30 =>
  (fm_Mod_puts (w 229 j28) (w 230 j29) (w 231 j30) w).bind fun w32 =>
  fm_Mod_runs_l57 a1 n x2 x3_20 w32)
  else
  if fa_wr x5_19 = 2 then
  ((fm_Mod_puts 0 x4_17 (-1) w).bind fun w35 =>
  fm_Mod_runs_l57 a1 n x2 x3_20 w35)
  else
  if fa_wr x5_19 = 3 then
  (fa_let (fa_st w 181 92 3) fun w37 =>
  fm_Mod_runs_l57 a1 n x2 x3_20 w37)
  else
  if fa_wr x5_19 = 4 then
  ((fm_Mod_puts 0 x4_17 x2 w).bind fun w40 =>
  fm_Mod_runs_l57 a1 n x2 x3_20 w40)
  else
  if fa_wr x5_19 = 6 then
  ((fm_Mod_holdsIn x2 x4_17 w).bind fun w43 =>
  fm_Mod_runs_l57 a1 n x2 x3_20 w43)
  else
  if fa_wr x5_19 = 7 then
  ((fm_Mod_reckons x4_17 w).bind fun w46 =>
  fm_Mod_runs_l57 a1 n x2 x3_20 w46)
  else
  if fa_wr x5_19 = 8 then
  ((fa_ix ((w 181 86) - 2) 55000).bind fun j48 =>
  fa_let (w 227 j48) fun x7_49 =>
  (fa_ix ((w 181 86) - 2) 55000).bind fun j50 =>
  fa_let (w 228 j50) fun x8_51 =>
  if fa_wr a1 ≤ 0 then
  fm_Mod_runs_j336 a1 (fun x2 x3 w9 => fm_Mod_runs_l57 a1 n x2 x3 w9) x2 x3_20 x7_49 x8_51 w
  else
  (if fm_Mod_holds (fa_iand (w 181 53) (w 181 52)) x7_49 w = true then
  fm_Mod_runs_j336 a1 (fun x2 x3 w9 => fm_Mod_runs_l57 a1 n x2 x3 w9) x2 x3_20 x7_49 x8_51 w
  else
  (fa_let (fa_st w 181 92 5) fun w77 =>
  fm_Mod_runs_j350 a1 (fun x2 x3 w9 => fm_Mod_runs_l57 a1 n x2 x3 w9) x2 x3_20 x7_49 x8_51 w77)))
  else
  if fa_wr x5_19 = 9 then
  (fa_let (fa_st w 181 86 ((w 181 86) - 1)) fun w79 =>
  (fa_ix (w79 181 86) 55000).bind fun j80 =>
  if fa_wr (w79 226 j80) = 0 then
  fm_Mod_runs_l57 a1 n x2 x4_17 w79
  else
  fm_Mod_runs_l57 a1 n x2 x3_20 w79)
  else
  if fa_wr x5_19 = 10 then
  fm_Mod_runs_l57 a1 n x2 x4_17 w
  else
  (if fa_wr (w 181 88) = 0 then
  ((fa_ix ((w 181 86) - 1) 55000).bind fun j89 =>
  if fa_wr (w 227 j89) = (-1) then
  fm_Mod_runs_j516 a1 (fun x2 x3 w9 => fm_Mod_runs_l57 a1 n x2 x3 w9) x2 x3_20 false w
  else
  fm_Mod_runs_j516 a1 (fun x2 x3 w9 => fm_Mod_runs_l57 a1 n x2 x3 w9) x2 x3_20 true w)
  else
  (fa_let (fa_st w 181 88 ((w 181 88) - 1)) fun w84 =>
  (fa_ix (w84 181 88) 110).bind fun j85 =>
  fa_let (w84 234 j85) fun x3_86 =>
  (fa_ix (w84 181 88) 110).bind fun j87 =>
  fa_let (w84 235 j87) fun x2_88 =>
  fm_Mod_runs_l57 a1 n x2_88 x3_86 w84)))
  else
  some w
set_option maxHeartbeats 4000000 in
set_option maxRecDepth 100000 in
theorem c_Mod_runs_l57 {p : Program} {l : Launch} {e : Env} {s : State} {m : MethodId} {args : Array Value} {below : List Frame} {meth : Method} {c : Code} {hh : Nat} {D : va_G} {b : Nat} {aC : Nat → ClassId} {H0 : Heap} {N T : Nat} (X : fa_GX p s m args meth c prog_12_method_102_code 9 ((Option.none : Option Jvm.ClassFile.FieldType)) y_Mod_runs.cls D b aC) (hle : 2 ≤ hh) (hN : fa_NM ≤ N) (hT : fa_TM ≤ T) (a1 : Int) {r : fa_W}  : ∀ (n : Nat) (x2 : Int) (x3 : Int) (w : fa_W), fm_Mod_runs_l57 a1 n x2 x3 w = some r → fa_GJ p l e (fa_rm hh) s m args below meth c 0 0 (MQ below (fa_Qc D b aC H0 N T (none) r) args s 0 0 (fun q => b ≤ q)) D b aC H0 N T 9 w 57 [(0, .ref (b + 181)), (1, .int (fa_I a1)), (2, .int (fa_I x2)), (3, .int (fa_I x3))] [] := by
  intro n
  induction n with
  | zero => intro x2 x3 w hM; exact fa_no hM
  | succ n ih =>
    intro x2 x3 w hM
    rw [fm_Mod_runs_l57] at hM
    refine g_aload_n X 0 rfl d_Mod_runs_57 ?_
    refine g_get X ck_10 fo_181 (fn_181 hN) 92 (by decide) wd_1833 rfl (fa_fvI rfl) d_Mod_runs_58 ?_
    refine g_iconst X d_Mod_runs_61 ?_
    refine g_icmp_ne X 591 d_Mod_runs_62 (by decide) (fun hc15 => ?_) (fun hc15 => ?_)
    · have hM := fa_if_f hM hc15
      cases hM
      exact g_vret X d_Mod_runs_591
    · have hM := fa_if_t hM hc15
      refine g_aload_n X 0 rfl d_Mod_runs_65 ?_
      refine g_get X ck_10 fo_181 (fn_181 hN) 66 (by decide) wd_1807 rfl (fr_181_66 rfl hT) d_Mod_runs_66 ?_
      refine g_iload_n X 3 rfl d_Mod_runs_69 ?_
      obtain ⟨j16, ej16, hM⟩ := fa_ob hM
      refine g_iald X fs_222 (fn_222 hN) ej16 d_Mod_runs_70 ?_
      refine g_istore X (fun x4_17 => [(4, .int (fa_I x4_17)), (0, .ref (b + 181)), (1, .int (fa_I a1)), (2, .int (fa_I x2)), (3, .int (fa_I x3))]) d_Mod_runs_71 (by decide) (fun _ => rfl) (fun x4_17 ex4_17 => ?_)
      have hM := fa_let_to hM ex4_17
      refine g_aload_n X 1 rfl d_Mod_runs_73 ?_
      refine g_get X ck_10 fo_181 (fn_181 hN) 65 (by decide) wd_1806 rfl (fr_181_65 rfl hT) d_Mod_runs_74 ?_
      refine g_iload_n X 4 rfl d_Mod_runs_77 ?_
      obtain ⟨j18, ej18, hM⟩ := fa_ob hM
      refine g_iald X fs_221 (fn_221 hN) ej18 d_Mod_runs_78 ?_
      refine g_istore X (fun x5_19 => [(5, .int (fa_I x5_19)), (4, .int (fa_I x4_17)), (0, .ref (b + 181)), (1, .int (fa_I a1)), (2, .int (fa_I x2)), (3, .int (fa_I x3))]) d_Mod_runs_79 (by decide) (fun _ => rfl) (fun x5_19 ex5_19 => ?_)
      have hM := fa_let_to hM ex5_19
      refine g_iinc X 5 (fun x3_20 => [(3, .int (fa_I x3_20)), (5, .int (fa_I x5_19)), (4, .int (fa_I x4_17)), (0, .ref (b + 181)), (1, .int (fa_I a1)), (2, .int (fa_I x2))]) d_Mod_runs_81 rfl (by decide) (fun _ => rfl) (fun x3_20 ex3_20 => ?_)
      have hM := fa_let_to hM ex3_20
      refine g_iload X 1 rfl d_Mod_runs_84 ?_
      by_cases hc21 : fa_wr x5_19 = 0
      · have hM := fa_if_t hM hc21
        refine g_tableIn X 0 144 d_Mod_runs_86 hc21 (by decide) (by decide) rfl (by decide) ?_
        refine g_aload_n X 3 rfl d_Mod_runs_144 ?_
        refine g_iload X 2 rfl d_Mod_runs_145 ?_
        refine g_iconst X d_Mod_runs_147 ?_
        refine g_iconst X d_Mod_runs_148 ?_
        obtain ⟨w23, e22, hM⟩ := fa_ob hM
        refine g_callV_v X ck_10 fo_181 (fn_181 hN) rfl mi_Mod_puts (c_Mod_puts hN hT x4_17 (-1) (-1) w _ e22) wd_2164 rfl (Nat.le_trans (Nat.le_of_ble_eq_true rfl) hle) (st := []) (Nat.le_of_ble_eq_true rfl) rfl d_Mod_runs_149 ?_
        refine g_goto X 588 d_Mod_runs_152 (by decide) ?_
        refine g_goto X 57 d_Mod_runs_588 (by decide) ?_
        exact g_lv [3, 4, 5, 0] rfl (ih _ _ _ hM)
      have hM := fa_if_f hM hc21
      by_cases hc24 : fa_wr x5_19 = 1
      · have hM := fa_if_t hM hc24
        refine g_tableIn X 1 155 d_Mod_runs_86 hc24 (by decide) (by decide) rfl (by decide) ?_
        refine g_bipush X (by decide) d_Mod_runs_155 ?_
        refine g_aload_n X 3 rfl d_Mod_runs_157 ?_
        refine g_iload X 2 rfl d_Mod_runs_158 ?_
        refine g_iload_n X 5 rfl d_Mod_runs_160 ?_
        obtain ⟨v26, e25, hM⟩ := fa_ob hM
        refine g_callV_i X ck_10 fo_181 (fn_181 hN) rfl mi_Mod_frameOfBinder (c_Mod_frameOfBinder hN hT x4_17 x2 w _ e25) wd_2168 rfl (Nat.le_trans (Nat.le_of_ble_eq_true rfl) hle) (st := [.int (fa_I 124)]) (Nat.le_of_ble_eq_true rfl) rfl d_Mod_runs_161 ?_
        refine g_imul X d_Mod_runs_164 ?_
        refine g_iload X 2 rfl d_Mod_runs_165 ?_
        refine g_iadd X d_Mod_runs_167 ?_
        refine g_istore X (fun x6_27 => [(6, .int (fa_I x6_27)), (3, .int (fa_I x3_20)), (5, .int (fa_I x5_19)), (4, .int (fa_I x4_17)), (0, .ref (b + 181)), (1, .int (fa_I a1)), (2, .int (fa_I x2))]) d_Mod_runs_168 (by decide) (fun _ => rfl) (fun x6_27 ex6_27 => ?_)
        have hM := fa_let_to hM ex6_27
        refine g_aload_n X 4 rfl d_Mod_runs_170 ?_
        refine g_aload_n X 4 rfl d_Mod_runs_171 ?_
        refine g_get X ck_10 fo_181 (fn_181 hN) 78 (by decide) wd_1819 rfl (fr_181_78 rfl hT) d_Mod_runs_172 ?_
        refine g_iload X 0 rfl d_Mod_runs_175 ?_
        obtain ⟨j28, ej28, hM⟩ := fa_ob hM
        refine g_iald X fs_229 (fn_229 hN) ej28 d_Mod_runs_177 ?_
        refine g_aload_n X 4 rfl d_Mod_runs_178 ?_
        refine g_get X ck_10 fo_181 (fn_181 hN) 79 (by decide) wd_1820 rfl (fr_181_79 rfl hT) d_Mod_runs_179 ?_
        refine g_iload X 0 rfl d_Mod_runs_182 ?_
        obtain ⟨j29, ej29, hM⟩ := fa_ob hM
        refine g_iald X fs_230 (fn_230 hN) ej29 d_Mod_runs_184 ?_
        refine g_aload_n X 4 rfl d_Mod_runs_185 ?_
        refine g_get X ck_10 fo_181 (fn_181 hN) 80 (by decide) wd_1821 rfl (fr_181_80 rfl hT) d_Mod_runs_186 ?_
        refine g_iload X 0 rfl d_Mod_runs_189 ?_
        obtain ⟨j30, ej30, hM⟩ := fa_ob hM
        refine g_iald X fs_231 (fn_231 hN) ej30 d_Mod_runs_191 ?_
        obtain ⟨w32, e31, hM⟩ := fa_ob hM
        refine g_callV_v X ck_10 fo_181 (fn_181 hN) rfl mi_Mod_puts (c_Mod_puts hN hT (w 229 j28) (w 230 j29) (w 231 j30) w _ e31) wd_2164 rfl (Nat.le_trans (Nat.le_of_ble_eq_true rfl) hle) (st := []) (Nat.le_of_ble_eq_true rfl) rfl d_Mod_runs_192 ?_
        refine g_goto X 588 d_Mod_runs_195 (by decide) ?_
        refine g_goto X 57 d_Mod_runs_588 (by decide) ?_
        exact g_lv [4, 5, 6, 1] rfl (ih _ _ _ hM)
      have hM := fa_if_f hM hc24
      by_cases hc33 : fa_wr x5_19 = 2
      · have hM := fa_if_t hM hc33
        refine g_tableIn X 2 198 d_Mod_runs_86 hc33 (by decide) (by decide) rfl (by decide) ?_
        refine g_aload_n X 3 rfl d_Mod_runs_198 ?_
        refine g_iconst X d_Mod_runs_199 ?_
        refine g_iload X 2 rfl d_Mod_runs_200 ?_
        refine g_iconst X d_Mod_runs_202 ?_
        obtain ⟨w35, e34, hM⟩ := fa_ob hM
        refine g_callV_v X ck_10 fo_181 (fn_181 hN) rfl mi_Mod_puts (c_Mod_puts hN hT 0 x4_17 (-1) w _ e34) wd_2164 rfl (Nat.le_trans (Nat.le_of_ble_eq_true rfl) hle) (st := []) (Nat.le_of_ble_eq_true rfl) rfl d_Mod_runs_203 ?_
        refine g_goto X 588 d_Mod_runs_206 (by decide) ?_
        refine g_goto X 57 d_Mod_runs_588 (by decide) ?_
        exact g_lv [3, 4, 5, 0] rfl (ih _ _ _ hM)
      have hM := fa_if_f hM hc33
      by_cases hc36 : fa_wr x5_19 = 3
      · have hM := fa_if_t hM hc36
        refine g_tableIn X 3 220 d_Mod_runs_86 hc36 (by decide) (by decide) rfl (by decide) ?_
        refine g_aload_n X 3 rfl d_Mod_runs_220 ?_
        refine g_iconst X d_Mod_runs_221 ?_
        refine g_put X ck_10 fo_181 (fn_181 hN) 92 (z := 3) (by decide) wd_1833 rfl (fa_fvI' rfl) rfl rfl rfl d_Mod_runs_222 (fun w37 ew37 => ?_)
        have hM := fa_let_to hM ew37
        refine g_goto X 588 d_Mod_runs_225 (by decide) ?_
        refine g_goto X 57 d_Mod_runs_588 (by decide) ?_
        exact g_lv [3, 4, 5, 0] rfl (ih _ _ _ hM)
      have hM := fa_if_f hM hc36
      by_cases hc38 : fa_wr x5_19 = 4
      · have hM := fa_if_t hM hc38
        refine g_tableIn X 4 209 d_Mod_runs_86 hc38 (by decide) (by decide) rfl (by decide) ?_
        refine g_aload_n X 3 rfl d_Mod_runs_209 ?_
        refine g_iconst X d_Mod_runs_210 ?_
        refine g_iload X 2 rfl d_Mod_runs_211 ?_
        refine g_iload_n X 5 rfl d_Mod_runs_213 ?_
        obtain ⟨w40, e39, hM⟩ := fa_ob hM
        refine g_callV_v X ck_10 fo_181 (fn_181 hN) rfl mi_Mod_puts (c_Mod_puts hN hT 0 x4_17 x2 w _ e39) wd_2164 rfl (Nat.le_trans (Nat.le_of_ble_eq_true rfl) hle) (st := []) (Nat.le_of_ble_eq_true rfl) rfl d_Mod_runs_214 ?_
        refine g_goto X 588 d_Mod_runs_217 (by decide) ?_
        refine g_goto X 57 d_Mod_runs_588 (by decide) ?_
        exact g_lv [3, 4, 5, 0] rfl (ih _ _ _ hM)
      have hM := fa_if_f hM hc38
      by_cases hc41 : fa_wr x5_19 = 6
      · have hM := fa_if_t hM hc41
        refine g_tableIn X 6 228 d_Mod_runs_86 hc41 (by decide) (by decide) rfl (by decide) ?_
        refine g_aload_n X 3 rfl d_Mod_runs_228 ?_
        refine g_iload_n X 5 rfl d_Mod_runs_229 ?_
        refine g_iload X 2 rfl d_Mod_runs_230 ?_
        obtain ⟨w43, e42, hM⟩ := fa_ob hM
        refine g_callV_v X ck_10 fo_181 (fn_181 hN) rfl mi_Mod_holdsIn (c_Mod_holdsIn hN hT x2 x4_17 w _ e42) wd_2172 rfl (Nat.le_trans (Nat.le_of_ble_eq_true rfl) hle) (st := []) (Nat.le_of_ble_eq_true rfl) rfl d_Mod_runs_232 ?_
        refine g_goto X 588 d_Mod_runs_235 (by decide) ?_
        refine g_goto X 57 d_Mod_runs_588 (by decide) ?_
        exact g_lv [3, 4, 5, 0] rfl (ih _ _ _ hM)
      have hM := fa_if_f hM hc41
      by_cases hc44 : fa_wr x5_19 = 7
      · have hM := fa_if_t hM hc44
        refine g_tableIn X 7 272 d_Mod_runs_86 hc44 (by decide) (by decide) rfl (by decide) ?_
        refine g_aload_n X 3 rfl d_Mod_runs_272 ?_
        refine g_iload X 2 rfl d_Mod_runs_273 ?_
        obtain ⟨w46, e45, hM⟩ := fa_ob hM
        refine g_callV_v X ck_10 fo_181 (fn_181 hN) rfl mi_Mod_reckons (c_Mod_reckons hN hT x4_17 w _ e45) wd_2176 rfl (Nat.le_trans (Nat.le_of_ble_eq_true rfl) hle) (st := []) (Nat.le_of_ble_eq_true rfl) rfl d_Mod_runs_275 ?_
        refine g_goto X 588 d_Mod_runs_278 (by decide) ?_
        refine g_goto X 57 d_Mod_runs_588 (by decide) ?_
        exact g_lv [3, 4, 5, 0] rfl (ih _ _ _ hM)
      have hM := fa_if_f hM hc44
      by_cases hc47 : fa_wr x5_19 = 8
      · have hM := fa_if_t hM hc47
        refine g_tableIn X 8 281 d_Mod_runs_86 hc47 (by decide) (by decide) rfl (by decide) ?_
        refine g_aload_n X 3 rfl d_Mod_runs_281 ?_
        refine g_get X ck_10 fo_181 (fn_181 hN) 76 (by decide) wd_1817 rfl (fr_181_76 rfl hT) d_Mod_runs_282 ?_
        refine g_aload_n X 3 rfl d_Mod_runs_285 ?_
        refine g_get X ck_10 fo_181 (fn_181 hN) 86 (by decide) wd_1827 rfl (fa_fvI rfl) d_Mod_runs_286 ?_
        refine g_iconst X d_Mod_runs_289 ?_
        refine g_isub X d_Mod_runs_290 ?_
        obtain ⟨j48, ej48, hM⟩ := fa_ob hM
        refine g_iald X fs_227 (fn_227 hN) ej48 d_Mod_runs_291 ?_
        refine g_istore X (fun x7_49 => [(7, .int (fa_I x7_49)), (3, .int (fa_I x3_20)), (5, .int (fa_I x5_19)), (4, .int (fa_I x4_17)), (0, .ref (b + 181)), (1, .int (fa_I a1)), (2, .int (fa_I x2))]) d_Mod_runs_292 (by decide) (fun _ => rfl) (fun x7_49 ex7_49 => ?_)
        have hM := fa_let_to hM ex7_49
        refine g_aload_n X 4 rfl d_Mod_runs_294 ?_
        refine g_get X ck_10 fo_181 (fn_181 hN) 77 (by decide) wd_1818 rfl (fr_181_77 rfl hT) d_Mod_runs_295 ?_
        refine g_aload_n X 4 rfl d_Mod_runs_298 ?_
        refine g_get X ck_10 fo_181 (fn_181 hN) 86 (by decide) wd_1827 rfl (fa_fvI rfl) d_Mod_runs_299 ?_
        refine g_iconst X d_Mod_runs_302 ?_
        refine g_isub X d_Mod_runs_303 ?_
        obtain ⟨j50, ej50, hM⟩ := fa_ob hM
        refine g_iald X fs_228 (fn_228 hN) ej50 d_Mod_runs_304 ?_
        refine g_istore X (fun x8_51 => [(8, .int (fa_I x8_51)), (7, .int (fa_I x7_49)), (3, .int (fa_I x3_20)), (5, .int (fa_I x5_19)), (4, .int (fa_I x4_17)), (0, .ref (b + 181)), (1, .int (fa_I a1)), (2, .int (fa_I x2))]) d_Mod_runs_305 (by decide) (fun _ => rfl) (fun x8_51 ex8_51 => ?_)
        have hM := fa_let_to hM ex8_51
        refine g_iload_n X 6 rfl d_Mod_runs_307 ?_
        refine g_if_le X 336 d_Mod_runs_308 (by decide) (fun hc52 => ?_) (fun hc52 => ?_)
        · have hM := fa_if_t hM hc52
          exact g_lv [5, 6, 7, 2, 1, 0] rfl (c_Mod_runs_j336 X hle hN hT a1  (fun x2 x3 w9 => fm_Mod_runs_l57 a1 n x2 x3 w9) (fun _ _ _ h => ih _ _ _ h)  _ _ _ _ _ hM)
        · have hM := fa_if_f hM hc52
          refine g_aload_n X 5 rfl d_Mod_runs_311 ?_
          refine g_get X ck_10 fo_181 (fn_181 hN) 53 (by decide) wd_1794 rfl (fa_fvI rfl) d_Mod_runs_312 ?_
          refine g_aload_n X 5 rfl d_Mod_runs_315 ?_
          refine g_get X ck_10 fo_181 (fn_181 hN) 52 (by decide) wd_1793 rfl (fa_fvI rfl) d_Mod_runs_316 ?_
          refine g_iand X d_Mod_runs_319 ?_
          refine g_iload X 1 rfl d_Mod_runs_320 ?_
          refine g_callS_i X mi_Mod_holds (c_Mod_holds hN hT (fa_iand (w 181 53) (w 181 52)) x7_49 w _ rfl) wd_1691 rfl (Nat.le_trans (Nat.le_of_ble_eq_true rfl) hle) (st := []) (Nat.le_of_ble_eq_true rfl) rfl d_Mod_runs_322 ?_
          refine g_ifb_ne X 336 d_Mod_runs_325 (by decide) (fun hc76 => ?_) (fun hc76 => ?_)
          · have hM := fa_ifb_t hM hc76
            exact g_lv [5, 6, 7, 2, 1, 0] rfl (c_Mod_runs_j336 X hle hN hT a1  (fun x2 x3 w9 => fm_Mod_runs_l57 a1 n x2 x3 w9) (fun _ _ _ h => ih _ _ _ h)  _ _ _ _ _ hM)
          · have hM := fa_ifb_f hM hc76
            refine g_aload_n X 5 rfl d_Mod_runs_328 ?_
            refine g_iconst X d_Mod_runs_329 ?_
            refine g_put X ck_10 fo_181 (fn_181 hN) 92 (z := 5) (by decide) wd_1833 rfl (fa_fvI' rfl) rfl rfl rfl d_Mod_runs_330 (fun w77 ew77 => ?_)
            have hM := fa_let_to hM ew77
            refine g_goto X 350 d_Mod_runs_333 (by decide) ?_
            exact g_lv [5, 6, 7, 2, 1, 0] rfl (c_Mod_runs_j350 X hle hN hT a1  (fun x2 x3 w9 => fm_Mod_runs_l57 a1 n x2 x3 w9) (fun _ _ _ h => ih _ _ _ h)  _ _ _ _ _ hM)
      have hM := fa_if_f hM hc47
      by_cases hc78 : fa_wr x5_19 = 9
      · have hM := fa_if_t hM hc78
        refine g_tableIn X 9 244 d_Mod_runs_86 hc78 (by decide) (by decide) rfl (by decide) ?_
        refine g_aload_n X 3 rfl d_Mod_runs_244 ?_
        refine g_dup X rfl d_Mod_runs_245 ?_
        refine g_get X ck_10 fo_181 (fn_181 hN) 86 (by decide) wd_1827 rfl (fa_fvI rfl) d_Mod_runs_246 ?_
        refine g_iconst X d_Mod_runs_249 ?_
        refine g_isub X d_Mod_runs_250 ?_
        refine g_put X ck_10 fo_181 (fn_181 hN) 86 (z := ((w 181 86) - 1)) (by decide) wd_1827 rfl (fa_fvI' rfl) rfl rfl rfl d_Mod_runs_251 (fun w79 ew79 => ?_)
        have hM := fa_let_to hM ew79
        refine g_aload_n X 3 rfl d_Mod_runs_254 ?_
        refine g_get X ck_10 fo_181 (fn_181 hN) 75 (by decide) wd_1816 rfl (fr_181_75 rfl hT) d_Mod_runs_255 ?_
        refine g_aload_n X 3 rfl d_Mod_runs_258 ?_
        refine g_get X ck_10 fo_181 (fn_181 hN) 86 (by decide) wd_1827 rfl (fa_fvI rfl) d_Mod_runs_259 ?_
        obtain ⟨j80, ej80, hM⟩ := fa_ob hM
        refine g_iald X fs_226 (fn_226 hN) ej80 d_Mod_runs_262 ?_
        refine g_if_ne X 588 d_Mod_runs_263 (by decide) (fun hc81 => ?_) (fun hc81 => ?_)
        · have hM := fa_if_f hM hc81
          refine g_goto X 57 d_Mod_runs_588 (by decide) ?_
          exact g_lv [3, 4, 5, 0] rfl (ih _ _ _ hM)
        · have hM := fa_if_t hM hc81
          refine g_iload X 2 rfl d_Mod_runs_266 ?_
          refine g_istorec_n X [(3, .int (fa_I x4_17)), (5, .int (fa_I x5_19)), (4, .int (fa_I x4_17)), (0, .ref (b + 181)), (1, .int (fa_I a1)), (2, .int (fa_I x2))] d_Mod_runs_268 (by decide) rfl ?_
          refine g_goto X 588 d_Mod_runs_269 (by decide) ?_
          refine g_goto X 57 d_Mod_runs_588 (by decide) ?_
          exact g_lv [3, 4, 5, 0] rfl (ih _ _ _ hM)
      have hM := fa_if_f hM hc78
      by_cases hc82 : fa_wr x5_19 = 10
      · have hM := fa_if_t hM hc82
        refine g_tableIn X 10 238 d_Mod_runs_86 hc82 (by decide) (by decide) rfl (by decide) ?_
        refine g_iload X 2 rfl d_Mod_runs_238 ?_
        refine g_istorec_n X [(3, .int (fa_I x4_17)), (5, .int (fa_I x5_19)), (4, .int (fa_I x4_17)), (0, .ref (b + 181)), (1, .int (fa_I a1)), (2, .int (fa_I x2))] d_Mod_runs_240 (by decide) rfl ?_
        refine g_goto X 588 d_Mod_runs_241 (by decide) ?_
        refine g_goto X 57 d_Mod_runs_588 (by decide) ?_
        exact g_lv [3, 4, 5, 0] rfl (ih _ _ _ hM)
      have hM := fa_if_f hM hc82
      refine g_tableDef X 488 d_Mod_runs_86 (by
    by_cases h9 : fa_wr x5_19 = 5
    · rw [h9]; exact Or.inr ⟨by decide, by decide, _, rfl, by decide⟩
    exact Or.inl (by omega)) (by decide) ?_
      refine g_aload_n X 3 rfl d_Mod_runs_488 ?_
      refine g_get X ck_10 fo_181 (fn_181 hN) 88 (by decide) wd_1829 rfl (fa_fvI rfl) d_Mod_runs_489 ?_
      refine g_if_ne X 558 d_Mod_runs_492 (by decide) (fun hc83 => ?_) (fun hc83 => ?_)
      · have hM := fa_if_f hM hc83
        refine g_aload_n X 3 rfl d_Mod_runs_558 ?_
        refine g_dup X rfl d_Mod_runs_559 ?_
        refine g_get X ck_10 fo_181 (fn_181 hN) 88 (by decide) wd_1829 rfl (fa_fvI rfl) d_Mod_runs_560 ?_
        refine g_iconst X d_Mod_runs_563 ?_
        refine g_isub X d_Mod_runs_564 ?_
        refine g_put X ck_10 fo_181 (fn_181 hN) 88 (z := ((w 181 88) - 1)) (by decide) wd_1829 rfl (fa_fvI' rfl) rfl rfl rfl d_Mod_runs_565 (fun w84 ew84 => ?_)
        have hM := fa_let_to hM ew84
        refine g_aload_n X 3 rfl d_Mod_runs_568 ?_
        refine g_get X ck_10 fo_181 (fn_181 hN) 83 (by decide) wd_1824 rfl (fr_181_83 rfl hT) d_Mod_runs_569 ?_
        refine g_aload_n X 3 rfl d_Mod_runs_572 ?_
        refine g_get X ck_10 fo_181 (fn_181 hN) 88 (by decide) wd_1829 rfl (fa_fvI rfl) d_Mod_runs_573 ?_
        obtain ⟨j85, ej85, hM⟩ := fa_ob hM
        refine g_iald X fs_234 (fn_234 hN) ej85 d_Mod_runs_576 ?_
        refine g_istore_n X (fun x3_86 => [(3, .int (fa_I x3_86)), (5, .int (fa_I x5_19)), (4, .int (fa_I x4_17)), (0, .ref (b + 181)), (1, .int (fa_I a1)), (2, .int (fa_I x2))]) d_Mod_runs_577 (by decide) (fun _ => rfl) (fun x3_86 ex3_86 => ?_)
        have hM := fa_let_to hM ex3_86
        refine g_aload_n X 3 rfl d_Mod_runs_578 ?_
        refine g_get X ck_10 fo_181 (fn_181 hN) 84 (by decide) wd_1825 rfl (fr_181_84 rfl hT) d_Mod_runs_579 ?_
        refine g_aload_n X 3 rfl d_Mod_runs_582 ?_
        refine g_get X ck_10 fo_181 (fn_181 hN) 88 (by decide) wd_1829 rfl (fa_fvI rfl) d_Mod_runs_583 ?_
        obtain ⟨j87, ej87, hM⟩ := fa_ob hM
        refine g_iald X fs_235 (fn_235 hN) ej87 d_Mod_runs_586 ?_
        refine g_istore_n X (fun x2_88 => [(2, .int (fa_I x2_88)), (3, .int (fa_I x3_86)), (5, .int (fa_I x5_19)), (4, .int (fa_I x4_17)), (0, .ref (b + 181)), (1, .int (fa_I a1))]) d_Mod_runs_587 (by decide) (fun _ => rfl) (fun x2_88 ex2_88 => ?_)
        have hM := fa_let_to hM ex2_88
        refine g_goto X 57 d_Mod_runs_588 (by decide) ?_
        exact g_lv [4, 5, 0, 1] rfl (ih _ _ _ hM)
      · have hM := fa_if_t hM hc83
        refine g_aload_n X 3 rfl d_Mod_runs_495 ?_
        refine g_aload_n X 3 rfl d_Mod_runs_496 ?_
        refine g_get X ck_10 fo_181 (fn_181 hN) 76 (by decide) wd_1817 rfl (fr_181_76 rfl hT) d_Mod_runs_497 ?_
        refine g_aload_n X 3 rfl d_Mod_runs_500 ?_
        refine g_get X ck_10 fo_181 (fn_181 hN) 86 (by decide) wd_1827 rfl (fa_fvI rfl) d_Mod_runs_501 ?_
        refine g_iconst X d_Mod_runs_504 ?_
        refine g_isub X d_Mod_runs_505 ?_
        obtain ⟨j89, ej89, hM⟩ := fa_ob hM
        refine g_iald X fs_227 (fn_227 hN) ej89 d_Mod_runs_506 ?_
        refine g_iconst X d_Mod_runs_507 ?_
        refine g_icmp_ne X 515 d_Mod_runs_508 (by decide) (fun hc90 => ?_) (fun hc90 => ?_)
        · have hM := fa_if_f hM hc90
          refine g_iconst X d_Mod_runs_515 ?_
          exact g_lv [3, 4, 5, 0] rfl (c_Mod_runs_j516 X hle hN hT a1  (fun x2 x3 w9 => fm_Mod_runs_l57 a1 n x2 x3 w9) (fun _ _ _ h => ih _ _ _ h)  _ _ _ _ hM)
        · have hM := fa_if_t hM hc90
          refine g_iconst X d_Mod_runs_511 ?_
          refine g_goto X 516 d_Mod_runs_512 (by decide) ?_
          exact g_lv [3, 4, 5, 0] rfl (c_Mod_runs_j516 X hle hN hT a1  (fun x2 x3 w9 => fm_Mod_runs_l57 a1 n x2 x3 w9) (fun _ _ _ h => ih _ _ _ h)  _ _ _ _ hM)
def fm_Mod_runs (a1 : Int) (w : fa_W) : Option fa_W :=
  fa_let (fa_st w 181 86 0) fun w1 =>
  fa_let (fa_st w1 181 87 0) fun w2 =>
  fa_let (fa_st w2 181 88 0) fun w3 =>
  fa_let (fa_st w3 181 89 0) fun w4 =>
  fa_let (fa_st w4 181 90 0) fun w5 =>
  fa_let (fa_st w5 181 91 0) fun w6 =>
  fa_let (fa_st w6 181 92 (-1)) fun w7 =>
  fa_let (fa_st w7 181 93 0) fun w8 =>
  fa_bd (fm_Mod_frame (-1) (-1) w8) fun v10 w11 =>
  (fa_ix (fm_Mod_functions w11) 25).bind fun j13 =>
  fa_let (w11 223 j13) fun x3_14 =>
  fm_Mod_runs_l57 a1 fa_FU v10 x3_14 w11
set_option maxHeartbeats 4000000 in
set_option maxRecDepth 100000 in
theorem c_Mod_runs {l : Launch} {D : va_G} {b : Nat} {aC : Nat → ClassId} {H0 : Heap} {N T : Nat} (hN : fa_NM ≤ N) (hT : fa_TM ≤ T) (a1 : Int)  (w : fa_W) (r : fa_W) (hM : fm_Mod_runs a1 w = some r) : fa_MC l D b aC H0 N T y_Mod_runs prog_12_method_102_code 9 ((Option.none : Option Jvm.ClassFile.FieldType)) (2) [.ref (b + 181), .int (fa_I a1)] w (none) r := by
  refine fa_enter (lv := [(0, .ref (b + 181)), (1, .int (fa_I a1))]) (by decide +kernel) (Nat.le_of_ble_eq_true rfl) rfl (fun hh hle hnm X => ?_)
  unfold fm_Mod_runs at hM
  refine g_aload_n X 0 rfl d_Mod_runs_0 ?_
  refine g_iconst X d_Mod_runs_1 ?_
  refine g_put X ck_10 fo_181 (fn_181 hN) 86 (z := 0) (by decide) wd_1827 rfl (fa_fvI' rfl) rfl rfl rfl d_Mod_runs_2 (fun w1 ew1 => ?_)
  have hM := fa_let_to hM ew1
  refine g_aload_n X 0 rfl d_Mod_runs_5 ?_
  refine g_iconst X d_Mod_runs_6 ?_
  refine g_put X ck_10 fo_181 (fn_181 hN) 87 (z := 0) (by decide) wd_1828 rfl (fa_fvI' rfl) rfl rfl rfl d_Mod_runs_7 (fun w2 ew2 => ?_)
  have hM := fa_let_to hM ew2
  refine g_aload_n X 0 rfl d_Mod_runs_10 ?_
  refine g_iconst X d_Mod_runs_11 ?_
  refine g_put X ck_10 fo_181 (fn_181 hN) 88 (z := 0) (by decide) wd_1829 rfl (fa_fvI' rfl) rfl rfl rfl d_Mod_runs_12 (fun w3 ew3 => ?_)
  have hM := fa_let_to hM ew3
  refine g_aload_n X 0 rfl d_Mod_runs_15 ?_
  refine g_iconst X d_Mod_runs_16 ?_
  refine g_put X ck_10 fo_181 (fn_181 hN) 89 (z := 0) (by decide) wd_1830 rfl (fa_fvI' rfl) rfl rfl rfl d_Mod_runs_17 (fun w4 ew4 => ?_)
  have hM := fa_let_to hM ew4
  refine g_aload_n X 0 rfl d_Mod_runs_20 ?_
  refine g_iconst X d_Mod_runs_21 ?_
  refine g_put X ck_10 fo_181 (fn_181 hN) 90 (z := 0) (by decide) wd_1831 rfl (fa_fvI' rfl) rfl rfl rfl d_Mod_runs_22 (fun w5 ew5 => ?_)
  have hM := fa_let_to hM ew5
  refine g_aload_n X 0 rfl d_Mod_runs_25 ?_
  refine g_iconst X d_Mod_runs_26 ?_
  refine g_put X ck_10 fo_181 (fn_181 hN) 91 (z := 0) (by decide) wd_1832 rfl (fa_fvI' rfl) rfl rfl rfl d_Mod_runs_27 (fun w6 ew6 => ?_)
  have hM := fa_let_to hM ew6
  refine g_aload_n X 0 rfl d_Mod_runs_30 ?_
  refine g_iconst X d_Mod_runs_31 ?_
  refine g_put X ck_10 fo_181 (fn_181 hN) 92 (z := (-1)) (by decide) wd_1833 rfl (fa_fvI' rfl) rfl rfl rfl d_Mod_runs_32 (fun w7 ew7 => ?_)
  have hM := fa_let_to hM ew7
  refine g_aload_n X 0 rfl d_Mod_runs_35 ?_
  refine g_iconst X d_Mod_runs_36 ?_
  refine g_put X ck_10 fo_181 (fn_181 hN) 93 (z := 0) (by decide) wd_1834 rfl (fa_fvI' rfl) rfl rfl rfl d_Mod_runs_37 (fun w8 ew8 => ?_)
  have hM := fa_let_to hM ew8
  refine g_aload_n X 0 rfl d_Mod_runs_40 ?_
  refine g_iconst X d_Mod_runs_41 ?_
  refine g_iconst X d_Mod_runs_42 ?_
  obtain ⟨v10, w11, e9, hM⟩ := fa_obd hM
  refine g_callV_i X ck_10 fo_181 (fn_181 hN) rfl mi_Mod_frame (c_Mod_frame hN hT (-1) (-1) w8 _ e9) wd_2160 rfl (Nat.le_trans (Nat.le_of_ble_eq_true rfl) hle) (st := []) (Nat.le_of_ble_eq_true rfl) rfl d_Mod_runs_43 ?_
  refine g_istorec_n X [(2, .int (fa_I v10)), (0, .ref (b + 181)), (1, .int (fa_I a1))] d_Mod_runs_46 (by decide) rfl ?_
  refine g_aload_n X 1 rfl d_Mod_runs_47 ?_
  refine g_get X ck_10 fo_181 (fn_181 hN) 67 (by decide) wd_1808 rfl (fr_181_67 rfl hT) d_Mod_runs_48 ?_
  refine g_aload_n X 1 rfl d_Mod_runs_51 ?_
  refine g_callV_i X ck_10 fo_181 (fn_181 hN) rfl mi_Mod_functions (c_Mod_functions hN hT w11 _ rfl) wd_1644 rfl (Nat.le_trans (Nat.le_of_ble_eq_true rfl) hle) (st := [.ref (b + 223)]) (Nat.le_of_ble_eq_true rfl) rfl d_Mod_runs_52 ?_
  obtain ⟨j13, ej13, hM⟩ := fa_ob hM
  refine g_iald X fs_223 (fn_223 hN) ej13 d_Mod_runs_55 ?_
  refine g_istore_n X (fun x3_14 => [(3, .int (fa_I x3_14)), (2, .int (fa_I v10)), (0, .ref (b + 181)), (1, .int (fa_I a1))]) d_Mod_runs_56 (by decide) (fun _ => rfl) (fun x3_14 ex3_14 => ?_)
  have hM := fa_let_to hM ex3_14
  exact g_lv [2, 3, 1, 0] rfl (c_Mod_runs_l57 X hle hN hT a1   fa_FU _ _ _ hM)
theorem d_Mod_noHow_0 : decode prog_12_method_104_code 0 = .ok (.aload_n 0, 1) := by decide +kernel
theorem d_Mod_noHow_1 : decode prog_12_method_104_code 1 = .ok (.iload_n 1, 1) := by decide +kernel
theorem d_Mod_noHow_2 : decode prog_12_method_104_code 2 = .ok (.iconst 0, 1) := by decide +kernel
theorem d_Mod_noHow_3 : decode prog_12_method_104_code 3 = .ok (.iconst 3, 1) := by decide +kernel
theorem d_Mod_noHow_4 : decode prog_12_method_104_code 4 = .ok (.invokestatic 530, 3) := by decide +kernel
theorem d_Mod_noHow_7 : decode prog_12_method_104_code 7 = .ok (.ifCond .ne 7, 3) := by decide +kernel
theorem d_Mod_noHow_10 : decode prog_12_method_104_code 10 = .ok (.iconst 1, 1) := by decide +kernel
theorem d_Mod_noHow_11 : decode prog_12_method_104_code 11 = .ok (.goto 4, 3) := by decide +kernel
theorem d_Mod_noHow_14 : decode prog_12_method_104_code 14 = .ok (.iconst 0, 1) := by decide +kernel
theorem d_Mod_noHow_15 : decode prog_12_method_104_code 15 = .ok (.iconst 1, 1) := by decide +kernel
theorem d_Mod_noHow_16 : decode prog_12_method_104_code 16 = .ok (.invokevirtual 533, 3) := by decide +kernel
theorem d_Mod_noHow_19 : decode prog_12_method_104_code 19 = .ok (.ireturn, 1) := by decide +kernel
def fm_Mod_noHow_j15 (a1 : Int) (s0 : Bool) (w : fa_W) : Bool × fa_W :=
  fa_l2 (fm_Mod_throwsIf s0 1 w) fun v4 w5 =>
  (v4, w5)
set_option maxHeartbeats 4000000 in
set_option maxRecDepth 100000 in
theorem c_Mod_noHow_j15 {p : Program} {l : Launch} {e : Env} {s : State} {m : MethodId} {args : Array Value} {below : List Frame} {meth : Method} {c : Code} {hh : Nat} {D : va_G} {b : Nat} {aC : Nat → ClassId} {H0 : Heap} {N T : Nat} (X : fa_GX p s m args meth c prog_12_method_104_code 2 ((Option.some Jvm.ClassFile.FieldType.boolean)) y_Mod_noHow.cls D b aC) (hle : 1 ≤ hh) (hN : fa_NM ≤ N) (hT : fa_TM ≤ T) (a1 : Int) {r : Bool × fa_W}  : ∀ (s0 : Bool) (w : fa_W) (_ : fm_Mod_noHow_j15 a1 s0 w = r), fa_GJ p l e (fa_rm hh) s m args below meth c 0 0 (MQ below (fa_Qc D b aC H0 N T (some (.int (fa_I (fa_bi r.1)))) r.2) args s 0 0 (fun q => b ≤ q)) D b aC H0 N T 2 w 15 [] [.int (fa_I (fa_bi s0)), .ref (b + 181)] := by
  intro s0 w hM
  unfold fm_Mod_noHow_j15 at hM
  refine g_iconst X d_Mod_noHow_15 ?_
  obtain ⟨⟨v4, w5⟩, e3⟩ : ∃ q, fm_Mod_throwsIf s0 1 w = q := ⟨_, rfl⟩
  have hM := fa_l2_e hM e3
  refine g_callV_i X ck_10 fo_181 (fn_181 hN) rfl mi_Mod_throwsIf (c_Mod_throwsIf hN hT s0 1 w _ e3) wd_2096 rfl (Nat.le_trans (Nat.le_of_ble_eq_true rfl) hle) (st := []) (Nat.le_of_ble_eq_true rfl) rfl d_Mod_noHow_16 ?_
  subst hM
  exact g_zret X rfl d_Mod_noHow_19
def fm_Mod_noHow (a1 : Int) (w : fa_W) : Bool × fa_W :=
  if fm_Mod_in a1 0 3 w = true then
  fm_Mod_noHow_j15 a1 false w
  else
  fm_Mod_noHow_j15 a1 true w
set_option maxHeartbeats 4000000 in
set_option maxRecDepth 100000 in
theorem c_Mod_noHow {l : Launch} {D : va_G} {b : Nat} {aC : Nat → ClassId} {H0 : Heap} {N T : Nat} (hN : fa_NM ≤ N) (hT : fa_TM ≤ T) (a1 : Int)  (w : fa_W) (r : Bool × fa_W) (hM : fm_Mod_noHow a1 w = r) : fa_MC l D b aC H0 N T y_Mod_noHow prog_12_method_104_code 2 ((Option.some Jvm.ClassFile.FieldType.boolean)) (1) [.ref (b + 181), .int (fa_I a1)] w (some (.int (fa_I (fa_bi r.1)))) r.2 := by
  refine fa_enter (lv := [(0, .ref (b + 181)), (1, .int (fa_I a1))]) (by decide +kernel) (Nat.le_of_ble_eq_true rfl) rfl (fun hh hle hnm X => ?_)
  unfold fm_Mod_noHow at hM
  refine g_aload_n X 0 rfl d_Mod_noHow_0 ?_
  refine g_iload_n X 1 rfl d_Mod_noHow_1 ?_
  refine g_iconst X d_Mod_noHow_2 ?_
  refine g_iconst X d_Mod_noHow_3 ?_
  refine g_callS_i X mi_Mod_in (c_Mod_in hN hT a1 0 3 w _ rfl) wd_2093 rfl (Nat.le_trans (Nat.le_of_ble_eq_true rfl) hle) (st := [.ref (b + 181)]) (Nat.le_of_ble_eq_true rfl) rfl d_Mod_noHow_4 ?_
  refine g_ifb_ne X 14 d_Mod_noHow_7 (by decide) (fun hc2 => ?_) (fun hc2 => ?_)
  · have hM := fa_ifb_t hM hc2
    refine g_iconst X d_Mod_noHow_14 ?_
    exact g_lv [] rfl (c_Mod_noHow_j15 X hle hN hT a1    _ _ hM)
  · have hM := fa_ifb_f hM hc2
    refine g_iconst X d_Mod_noHow_10 ?_
    refine g_goto X 15 d_Mod_noHow_11 (by decide) ?_
    exact g_lv [] rfl (c_Mod_noHow_j15 X hle hN hT a1    _ _ hM)
theorem d_Mod_run_0 : decode prog_12_method_105_code 0 = .ok (.aload_n 0, 1) := by decide +kernel
theorem d_Mod_run_1 : decode prog_12_method_105_code 1 = .ok (.iconst 0, 1) := by decide +kernel
theorem d_Mod_run_2 : decode prog_12_method_105_code 2 = .ok (.putfield 1, 3) := by decide +kernel
theorem d_Mod_run_5 : decode prog_12_method_105_code 5 = .ok (.aload_n 0, 1) := by decide +kernel
theorem d_Mod_run_6 : decode prog_12_method_105_code 6 = .ok (.iload_n 1, 1) := by decide +kernel
theorem d_Mod_run_7 : decode prog_12_method_105_code 7 = .ok (.invokevirtual 588, 3) := by decide +kernel
theorem d_Mod_run_10 : decode prog_12_method_105_code 10 = .ok (.ifCond .ne 25, 3) := by decide +kernel
theorem d_Mod_run_13 : decode prog_12_method_105_code 13 = .ok (.aload_n 0, 1) := by decide +kernel
theorem d_Mod_run_14 : decode prog_12_method_105_code 14 = .ok (.iload_n 2, 1) := by decide +kernel
theorem d_Mod_run_15 : decode prog_12_method_105_code 15 = .ok (.iconst 0, 1) := by decide +kernel
theorem d_Mod_run_16 : decode prog_12_method_105_code 16 = .ok (.iconst 4, 1) := by decide +kernel
theorem d_Mod_run_17 : decode prog_12_method_105_code 17 = .ok (.invokestatic 530, 3) := by decide +kernel
theorem d_Mod_run_20 : decode prog_12_method_105_code 20 = .ok (.ifCond .ne 7, 3) := by decide +kernel
theorem d_Mod_run_23 : decode prog_12_method_105_code 23 = .ok (.iconst 1, 1) := by decide +kernel
theorem d_Mod_run_24 : decode prog_12_method_105_code 24 = .ok (.goto 4, 3) := by decide +kernel
theorem d_Mod_run_27 : decode prog_12_method_105_code 27 = .ok (.iconst 0, 1) := by decide +kernel
theorem d_Mod_run_28 : decode prog_12_method_105_code 28 = .ok (.iconst 2, 1) := by decide +kernel
theorem d_Mod_run_29 : decode prog_12_method_105_code 29 = .ok (.invokevirtual 533, 3) := by decide +kernel
theorem d_Mod_run_32 : decode prog_12_method_105_code 32 = .ok (.ifCond .eq 5, 3) := by decide +kernel
theorem d_Mod_run_35 : decode prog_12_method_105_code 35 = .ok (.iconst 0, 1) := by decide +kernel
theorem d_Mod_run_36 : decode prog_12_method_105_code 36 = .ok (.ireturn, 1) := by decide +kernel
theorem d_Mod_run_37 : decode prog_12_method_105_code 37 = .ok (.aload_n 0, 1) := by decide +kernel
theorem d_Mod_run_38 : decode prog_12_method_105_code 38 = .ok (.iload_n 1, 1) := by decide +kernel
theorem d_Mod_run_39 : decode prog_12_method_105_code 39 = .ok (.invokevirtual 591, 3) := by decide +kernel
theorem d_Mod_run_42 : decode prog_12_method_105_code 42 = .ok (.iload_n 2, 1) := by decide +kernel
theorem d_Mod_run_43 : decode prog_12_method_105_code 43 = .ok (.ifCond .ne 10, 3) := by decide +kernel
theorem d_Mod_run_46 : decode prog_12_method_105_code 46 = .ok (.aload_n 0, 1) := by decide +kernel
theorem d_Mod_run_47 : decode prog_12_method_105_code 47 = .ok (.getfield 567, 3) := by decide +kernel
theorem d_Mod_run_50 : decode prog_12_method_105_code 50 = .ok (.goto 43, 3) := by decide +kernel
theorem d_Mod_run_53 : decode prog_12_method_105_code 53 = .ok (.iload_n 2, 1) := by decide +kernel
theorem d_Mod_run_54 : decode prog_12_method_105_code 54 = .ok (.iconst 1, 1) := by decide +kernel
theorem d_Mod_run_55 : decode prog_12_method_105_code 55 = .ok (.if_icmp .ne 10, 3) := by decide +kernel
theorem d_Mod_run_58 : decode prog_12_method_105_code 58 = .ok (.aload_n 0, 1) := by decide +kernel
theorem d_Mod_run_59 : decode prog_12_method_105_code 59 = .ok (.getfield 570, 3) := by decide +kernel
theorem d_Mod_run_62 : decode prog_12_method_105_code 62 = .ok (.goto 31, 3) := by decide +kernel
theorem d_Mod_run_65 : decode prog_12_method_105_code 65 = .ok (.iload_n 2, 1) := by decide +kernel
theorem d_Mod_run_66 : decode prog_12_method_105_code 66 = .ok (.iconst 2, 1) := by decide +kernel
theorem d_Mod_run_67 : decode prog_12_method_105_code 67 = .ok (.if_icmp .ne 10, 3) := by decide +kernel
theorem d_Mod_run_70 : decode prog_12_method_105_code 70 = .ok (.aload_n 0, 1) := by decide +kernel
theorem d_Mod_run_71 : decode prog_12_method_105_code 71 = .ok (.getfield 558, 3) := by decide +kernel
theorem d_Mod_run_74 : decode prog_12_method_105_code 74 = .ok (.goto 19, 3) := by decide +kernel
theorem d_Mod_run_77 : decode prog_12_method_105_code 77 = .ok (.iload_n 2, 1) := by decide +kernel
theorem d_Mod_run_78 : decode prog_12_method_105_code 78 = .ok (.iconst 3, 1) := by decide +kernel
theorem d_Mod_run_79 : decode prog_12_method_105_code 79 = .ok (.if_icmp .ne 10, 3) := by decide +kernel
theorem d_Mod_run_82 : decode prog_12_method_105_code 82 = .ok (.aload_n 0, 1) := by decide +kernel
theorem d_Mod_run_83 : decode prog_12_method_105_code 83 = .ok (.getfield 561, 3) := by decide +kernel
theorem d_Mod_run_86 : decode prog_12_method_105_code 86 = .ok (.goto 7, 3) := by decide +kernel
theorem d_Mod_run_89 : decode prog_12_method_105_code 89 = .ok (.aload_n 0, 1) := by decide +kernel
theorem d_Mod_run_90 : decode prog_12_method_105_code 90 = .ok (.getfield 564, 3) := by decide +kernel
theorem d_Mod_run_93 : decode prog_12_method_105_code 93 = .ok (.ireturn, 1) := by decide +kernel
def fm_Mod_run_j28 (a1 : Int) (a2 : Int) (s0 : Bool) (w : fa_W) : Option (Int × fa_W) :=
  fa_l2 (fm_Mod_throwsIf s0 2 w) fun v9 w10 =>
  if v9 = true then
  some (0, w10)
  else
  ((fm_Mod_runs a1 w10).bind fun w13 =>
  if fa_wr a2 = 0 then
  some (w13 181 92, w13)
  else
  (if fa_wr a2 = 1 then
  some (w13 181 93, w13)
  else
  (if fa_wr a2 = 2 then
  some (w13 181 89, w13)
  else
  (if fa_wr a2 = 3 then
  some (w13 181 90, w13)
  else
  some (w13 181 91, w13)))))
set_option maxHeartbeats 4000000 in
set_option maxRecDepth 100000 in
theorem c_Mod_run_j28 {p : Program} {l : Launch} {e : Env} {s : State} {m : MethodId} {args : Array Value} {below : List Frame} {meth : Method} {c : Code} {hh : Nat} {D : va_G} {b : Nat} {aC : Nat → ClassId} {H0 : Heap} {N T : Nat} (X : fa_GX p s m args meth c prog_12_method_105_code 3 ((Option.some Jvm.ClassFile.FieldType.int)) y_Mod_run.cls D b aC) (hle : 3 ≤ hh) (hN : fa_NM ≤ N) (hT : fa_TM ≤ T) (a1 : Int) (a2 : Int) {r : Int × fa_W}  : ∀ (s0 : Bool) (w : fa_W) (_ : fm_Mod_run_j28 a1 a2 s0 w = some r), fa_GJ p l e (fa_rm hh) s m args below meth c 0 0 (MQ below (fa_Qc D b aC H0 N T (some (.int (fa_I r.1))) r.2) args s 0 0 (fun q => b ≤ q)) D b aC H0 N T 3 w 28 [(0, .ref (b + 181)), (1, .int (fa_I a1)), (2, .int (fa_I a2))] [.int (fa_I (fa_bi s0)), .ref (b + 181)] := by
  intro s0 w hM
  unfold fm_Mod_run_j28 at hM
  refine g_iconst X d_Mod_run_28 ?_
  obtain ⟨⟨v9, w10⟩, e8⟩ : ∃ q, fm_Mod_throwsIf s0 2 w = q := ⟨_, rfl⟩
  have hM := fa_l2_e hM e8
  refine g_callV_i X ck_10 fo_181 (fn_181 hN) rfl mi_Mod_throwsIf (c_Mod_throwsIf hN hT s0 2 w _ e8) wd_2096 rfl (Nat.le_trans (Nat.le_of_ble_eq_true rfl) hle) (st := []) (Nat.le_of_ble_eq_true rfl) rfl d_Mod_run_29 ?_
  refine g_ifb_eq X 37 d_Mod_run_32 (by decide) (fun hc11 => ?_) (fun hc11 => ?_)
  · have hM := fa_ifb_f hM hc11
    refine g_aload_n X 0 rfl d_Mod_run_37 ?_
    refine g_iload_n X 1 rfl d_Mod_run_38 ?_
    obtain ⟨w13, e12, hM⟩ := fa_ob hM
    refine g_callV_v X ck_10 fo_181 (fn_181 hN) rfl mi_Mod_runs (c_Mod_runs hN hT a1 w10 _ e12) wd_2156 rfl (Nat.le_trans (Nat.le_of_ble_eq_true rfl) hle) (st := []) (Nat.le_of_ble_eq_true rfl) rfl d_Mod_run_39 ?_
    refine g_iload_n X 2 rfl d_Mod_run_42 ?_
    refine g_if_ne X 53 d_Mod_run_43 (by decide) (fun hc14 => ?_) (fun hc14 => ?_)
    · have hM := fa_if_f hM hc14
      refine g_iload_n X 2 rfl d_Mod_run_53 ?_
      refine g_iconst X d_Mod_run_54 ?_
      refine g_icmp_ne X 65 d_Mod_run_55 (by decide) (fun hc15 => ?_) (fun hc15 => ?_)
      · have hM := fa_if_f hM hc15
        refine g_iload_n X 2 rfl d_Mod_run_65 ?_
        refine g_iconst X d_Mod_run_66 ?_
        refine g_icmp_ne X 77 d_Mod_run_67 (by decide) (fun hc16 => ?_) (fun hc16 => ?_)
        · have hM := fa_if_f hM hc16
          refine g_iload_n X 2 rfl d_Mod_run_77 ?_
          refine g_iconst X d_Mod_run_78 ?_
          refine g_icmp_ne X 89 d_Mod_run_79 (by decide) (fun hc17 => ?_) (fun hc17 => ?_)
          · have hM := fa_if_f hM hc17
            refine g_aload_n X 0 rfl d_Mod_run_89 ?_
            refine g_get X ck_10 fo_181 (fn_181 hN) 91 (by decide) wd_1832 rfl (fa_fvI rfl) d_Mod_run_90 ?_
            cases hM
            exact g_iret X d_Mod_run_93
          · have hM := fa_if_t hM hc17
            refine g_aload_n X 0 rfl d_Mod_run_82 ?_
            refine g_get X ck_10 fo_181 (fn_181 hN) 90 (by decide) wd_1831 rfl (fa_fvI rfl) d_Mod_run_83 ?_
            refine g_goto X 93 d_Mod_run_86 (by decide) ?_
            cases hM
            exact g_iret X d_Mod_run_93
        · have hM := fa_if_t hM hc16
          refine g_aload_n X 0 rfl d_Mod_run_70 ?_
          refine g_get X ck_10 fo_181 (fn_181 hN) 89 (by decide) wd_1830 rfl (fa_fvI rfl) d_Mod_run_71 ?_
          refine g_goto X 93 d_Mod_run_74 (by decide) ?_
          cases hM
          exact g_iret X d_Mod_run_93
      · have hM := fa_if_t hM hc15
        refine g_aload_n X 0 rfl d_Mod_run_58 ?_
        refine g_get X ck_10 fo_181 (fn_181 hN) 93 (by decide) wd_1834 rfl (fa_fvI rfl) d_Mod_run_59 ?_
        refine g_goto X 93 d_Mod_run_62 (by decide) ?_
        cases hM
        exact g_iret X d_Mod_run_93
    · have hM := fa_if_t hM hc14
      refine g_aload_n X 0 rfl d_Mod_run_46 ?_
      refine g_get X ck_10 fo_181 (fn_181 hN) 92 (by decide) wd_1833 rfl (fa_fvI rfl) d_Mod_run_47 ?_
      refine g_goto X 93 d_Mod_run_50 (by decide) ?_
      cases hM
      exact g_iret X d_Mod_run_93
  · have hM := fa_ifb_t hM hc11
    refine g_iconst X d_Mod_run_35 ?_
    cases hM
    exact g_iret X d_Mod_run_36
def fm_Mod_run (a1 : Int) (a2 : Int) (w : fa_W) : Option (Int × fa_W) :=
  fa_let (fa_st w 181 0 0) fun w1 =>
  fa_l2 (fm_Mod_noHow a1 w1) fun v3 w4 =>
  if v3 = true then
  some (0, w4)
  else
  (if fm_Mod_in a2 0 4 w4 = true then
  fm_Mod_run_j28 a1 a2 false w4
  else
  fm_Mod_run_j28 a1 a2 true w4)
set_option maxHeartbeats 4000000 in
set_option maxRecDepth 100000 in
theorem c_Mod_run {l : Launch} {D : va_G} {b : Nat} {aC : Nat → ClassId} {H0 : Heap} {N T : Nat} (hN : fa_NM ≤ N) (hT : fa_TM ≤ T) (a1 : Int) (a2 : Int)  (w : fa_W) (r : Int × fa_W) (hM : fm_Mod_run a1 a2 w = some r) : fa_MC l D b aC H0 N T y_Mod_run prog_12_method_105_code 3 ((Option.some Jvm.ClassFile.FieldType.int)) (3) [.ref (b + 181), .int (fa_I a1), .int (fa_I a2)] w (some (.int (fa_I r.1))) r.2 := by
  refine fa_enter (lv := [(0, .ref (b + 181)), (1, .int (fa_I a1)), (2, .int (fa_I a2))]) (by decide +kernel) (Nat.le_of_ble_eq_true rfl) rfl (fun hh hle hnm X => ?_)
  unfold fm_Mod_run at hM
  refine g_aload_n X 0 rfl d_Mod_run_0 ?_
  refine g_iconst X d_Mod_run_1 ?_
  refine g_put X ck_10 fo_181 (fn_181 hN) 0 (z := 0) (by decide) wd_1742 rfl (fa_fvI' rfl) rfl rfl rfl d_Mod_run_2 (fun w1 ew1 => ?_)
  have hM := fa_let_to hM ew1
  refine g_aload_n X 0 rfl d_Mod_run_5 ?_
  refine g_iload_n X 1 rfl d_Mod_run_6 ?_
  obtain ⟨⟨v3, w4⟩, e2⟩ : ∃ q, fm_Mod_noHow a1 w1 = q := ⟨_, rfl⟩
  have hM := fa_l2_e hM e2
  refine g_callV_i X ck_10 fo_181 (fn_181 hN) rfl mi_Mod_noHow (c_Mod_noHow hN hT a1 w1 _ e2) wd_2152 rfl (Nat.le_trans (Nat.le_of_ble_eq_true rfl) hle) (st := []) (Nat.le_of_ble_eq_true rfl) rfl d_Mod_run_7 ?_
  refine g_ifb_ne X 35 d_Mod_run_10 (by decide) (fun hc5 => ?_) (fun hc5 => ?_)
  · have hM := fa_ifb_t hM hc5
    refine g_iconst X d_Mod_run_35 ?_
    cases hM
    exact g_iret X d_Mod_run_36
  · have hM := fa_ifb_f hM hc5
    refine g_aload_n X 0 rfl d_Mod_run_13 ?_
    refine g_iload_n X 2 rfl d_Mod_run_14 ?_
    refine g_iconst X d_Mod_run_15 ?_
    refine g_iconst X d_Mod_run_16 ?_
    refine g_callS_i X mi_Mod_in (c_Mod_in hN hT a2 0 4 w4 _ rfl) wd_2093 rfl (Nat.le_trans (Nat.le_of_ble_eq_true rfl) hle) (st := [.ref (b + 181)]) (Nat.le_of_ble_eq_true rfl) rfl d_Mod_run_17 ?_
    refine g_ifb_ne X 27 d_Mod_run_20 (by decide) (fun hc7 => ?_) (fun hc7 => ?_)
    · have hM := fa_ifb_t hM hc7
      refine g_iconst X d_Mod_run_27 ?_
      exact g_lv [0, 1, 2] rfl (c_Mod_run_j28 X hle hN hT a1 a2    _ _ hM)
    · have hM := fa_ifb_f hM hc7
      refine g_iconst X d_Mod_run_23 ?_
      refine g_goto X 28 d_Mod_run_24 (by decide) ?_
      exact g_lv [0, 1, 2] rfl (c_Mod_run_j28 X hle hN hT a1 a2    _ _ hM)
theorem d_Mod_blame_0 : decode prog_12_method_106_code 0 = .ok (.aload_n 0, 1) := by decide +kernel
theorem d_Mod_blame_1 : decode prog_12_method_106_code 1 = .ok (.iconst 0, 1) := by decide +kernel
theorem d_Mod_blame_2 : decode prog_12_method_106_code 2 = .ok (.putfield 1, 3) := by decide +kernel
theorem d_Mod_blame_5 : decode prog_12_method_106_code 5 = .ok (.aload_n 0, 1) := by decide +kernel
theorem d_Mod_blame_6 : decode prog_12_method_106_code 6 = .ok (.iload_n 1, 1) := by decide +kernel
theorem d_Mod_blame_7 : decode prog_12_method_106_code 7 = .ok (.invokevirtual 588, 3) := by decide +kernel
theorem d_Mod_blame_10 : decode prog_12_method_106_code 10 = .ok (.ifCond .eq 5, 3) := by decide +kernel
theorem d_Mod_blame_13 : decode prog_12_method_106_code 13 = .ok (.iconst 0, 1) := by decide +kernel
theorem d_Mod_blame_14 : decode prog_12_method_106_code 14 = .ok (.ireturn, 1) := by decide +kernel
theorem d_Mod_blame_15 : decode prog_12_method_106_code 15 = .ok (.aload_n 0, 1) := by decide +kernel
theorem d_Mod_blame_16 : decode prog_12_method_106_code 16 = .ok (.iload_n 1, 1) := by decide +kernel
theorem d_Mod_blame_17 : decode prog_12_method_106_code 17 = .ok (.invokevirtual 591, 3) := by decide +kernel
theorem d_Mod_blame_20 : decode prog_12_method_106_code 20 = .ok (.aload_n 0, 1) := by decide +kernel
theorem d_Mod_blame_21 : decode prog_12_method_106_code 21 = .ok (.getfield 567, 3) := by decide +kernel
theorem d_Mod_blame_24 : decode prog_12_method_106_code 24 = .ok (.iconst 1, 1) := by decide +kernel
theorem d_Mod_blame_25 : decode prog_12_method_106_code 25 = .ok (.if_icmp .le 33, 3) := by decide +kernel
theorem d_Mod_blame_28 : decode prog_12_method_106_code 28 = .ok (.iload_n 2, 1) := by decide +kernel
theorem d_Mod_blame_29 : decode prog_12_method_106_code 29 = .ok (.iconst 0, 1) := by decide +kernel
theorem d_Mod_blame_30 : decode prog_12_method_106_code 30 = .ok (.aload_n 0, 1) := by decide +kernel
theorem d_Mod_blame_31 : decode prog_12_method_106_code 31 = .ok (.getfield 555, 3) := by decide +kernel
theorem d_Mod_blame_34 : decode prog_12_method_106_code 34 = .ok (.iconst 1, 1) := by decide +kernel
theorem d_Mod_blame_35 : decode prog_12_method_106_code 35 = .ok (.isub, 1) := by decide +kernel
theorem d_Mod_blame_36 : decode prog_12_method_106_code 36 = .ok (.invokestatic 530, 3) := by decide +kernel
theorem d_Mod_blame_39 : decode prog_12_method_106_code 39 = .ok (.ifCond .eq 19, 3) := by decide +kernel
theorem d_Mod_blame_42 : decode prog_12_method_106_code 42 = .ok (.aload_n 0, 1) := by decide +kernel
theorem d_Mod_blame_43 : decode prog_12_method_106_code 43 = .ok (.getfield 460, 3) := by decide +kernel
theorem d_Mod_blame_46 : decode prog_12_method_106_code 46 = .ok (.aload_n 0, 1) := by decide +kernel
theorem d_Mod_blame_47 : decode prog_12_method_106_code 47 = .ok (.getfield 555, 3) := by decide +kernel
theorem d_Mod_blame_50 : decode prog_12_method_106_code 50 = .ok (.iconst 1, 1) := by decide +kernel
theorem d_Mod_blame_51 : decode prog_12_method_106_code 51 = .ok (.isub, 1) := by decide +kernel
theorem d_Mod_blame_52 : decode prog_12_method_106_code 52 = .ok (.iload_n 2, 1) := by decide +kernel
theorem d_Mod_blame_53 : decode prog_12_method_106_code 53 = .ok (.isub, 1) := by decide +kernel
theorem d_Mod_blame_54 : decode prog_12_method_106_code 54 = .ok (.iaload, 1) := by decide +kernel
theorem d_Mod_blame_55 : decode prog_12_method_106_code 55 = .ok (.goto 4, 3) := by decide +kernel
theorem d_Mod_blame_58 : decode prog_12_method_106_code 58 = .ok (.iconst (-1), 1) := by decide +kernel
theorem d_Mod_blame_59 : decode prog_12_method_106_code 59 = .ok (.ireturn, 1) := by decide +kernel
def fm_Mod_blame (a1 : Int) (a2 : Int) (w : fa_W) : Option (Int × fa_W) :=
  fa_let (fa_st w 181 0 0) fun w1 =>
  fa_l2 (fm_Mod_noHow a1 w1) fun v3 w4 =>
  if v3 = true then
  some (0, w4)
  else
  ((fm_Mod_runs a1 w4).bind fun w7 =>
  if fa_wr (w7 181 92) ≤ 1 then
  some ((-1), w7)
  else
  (if fm_Mod_in a2 0 ((w7 181 88) - 1) w7 = true then
  ((fa_ix (((w7 181 88) - 1) - a2) 110).bind fun j11 =>
  some (w7 236 j11, w7))
  else
  some ((-1), w7)))
set_option maxHeartbeats 4000000 in
set_option maxRecDepth 100000 in
theorem c_Mod_blame {l : Launch} {D : va_G} {b : Nat} {aC : Nat → ClassId} {H0 : Heap} {N T : Nat} (hN : fa_NM ≤ N) (hT : fa_TM ≤ T) (a1 : Int) (a2 : Int)  (w : fa_W) (r : Int × fa_W) (hM : fm_Mod_blame a1 a2 w = some r) : fa_MC l D b aC H0 N T y_Mod_blame prog_12_method_106_code 3 ((Option.some Jvm.ClassFile.FieldType.int)) (3) [.ref (b + 181), .int (fa_I a1), .int (fa_I a2)] w (some (.int (fa_I r.1))) r.2 := by
  refine fa_enter (lv := [(0, .ref (b + 181)), (1, .int (fa_I a1)), (2, .int (fa_I a2))]) (by decide +kernel) (Nat.le_of_ble_eq_true rfl) rfl (fun hh hle hnm X => ?_)
  unfold fm_Mod_blame at hM
  refine g_aload_n X 0 rfl d_Mod_blame_0 ?_
  refine g_iconst X d_Mod_blame_1 ?_
  refine g_put X ck_10 fo_181 (fn_181 hN) 0 (z := 0) (by decide) wd_1742 rfl (fa_fvI' rfl) rfl rfl rfl d_Mod_blame_2 (fun w1 ew1 => ?_)
  have hM := fa_let_to hM ew1
  refine g_aload_n X 0 rfl d_Mod_blame_5 ?_
  refine g_iload_n X 1 rfl d_Mod_blame_6 ?_
  obtain ⟨⟨v3, w4⟩, e2⟩ : ∃ q, fm_Mod_noHow a1 w1 = q := ⟨_, rfl⟩
  have hM := fa_l2_e hM e2
  refine g_callV_i X ck_10 fo_181 (fn_181 hN) rfl mi_Mod_noHow (c_Mod_noHow hN hT a1 w1 _ e2) wd_2152 rfl (Nat.le_trans (Nat.le_of_ble_eq_true rfl) hle) (st := []) (Nat.le_of_ble_eq_true rfl) rfl d_Mod_blame_7 ?_
  refine g_ifb_eq X 15 d_Mod_blame_10 (by decide) (fun hc5 => ?_) (fun hc5 => ?_)
  · have hM := fa_ifb_f hM hc5
    refine g_aload_n X 0 rfl d_Mod_blame_15 ?_
    refine g_iload_n X 1 rfl d_Mod_blame_16 ?_
    obtain ⟨w7, e6, hM⟩ := fa_ob hM
    refine g_callV_v X ck_10 fo_181 (fn_181 hN) rfl mi_Mod_runs (c_Mod_runs hN hT a1 w4 _ e6) wd_2156 rfl (Nat.le_trans (Nat.le_of_ble_eq_true rfl) hle) (st := []) (Nat.le_of_ble_eq_true rfl) rfl d_Mod_blame_17 ?_
    refine g_aload_n X 0 rfl d_Mod_blame_20 ?_
    refine g_get X ck_10 fo_181 (fn_181 hN) 92 (by decide) wd_1833 rfl (fa_fvI rfl) d_Mod_blame_21 ?_
    refine g_iconst X d_Mod_blame_24 ?_
    refine g_icmp_le X 58 d_Mod_blame_25 (by decide) (fun hc8 => ?_) (fun hc8 => ?_)
    · have hM := fa_if_t hM hc8
      refine g_iconst X d_Mod_blame_58 ?_
      cases hM
      exact g_iret X d_Mod_blame_59
    · have hM := fa_if_f hM hc8
      refine g_iload_n X 2 rfl d_Mod_blame_28 ?_
      refine g_iconst X d_Mod_blame_29 ?_
      refine g_aload_n X 0 rfl d_Mod_blame_30 ?_
      refine g_get X ck_10 fo_181 (fn_181 hN) 88 (by decide) wd_1829 rfl (fa_fvI rfl) d_Mod_blame_31 ?_
      refine g_iconst X d_Mod_blame_34 ?_
      refine g_isub X d_Mod_blame_35 ?_
      refine g_callS_i X mi_Mod_in (c_Mod_in hN hT a2 0 ((w7 181 88) - 1) w7 _ rfl) wd_2093 rfl (Nat.le_trans (Nat.le_of_ble_eq_true rfl) hle) (st := []) (Nat.le_of_ble_eq_true rfl) rfl d_Mod_blame_36 ?_
      refine g_ifb_eq X 58 d_Mod_blame_39 (by decide) (fun hc10 => ?_) (fun hc10 => ?_)
      · have hM := fa_ifb_f hM hc10
        refine g_iconst X d_Mod_blame_58 ?_
        cases hM
        exact g_iret X d_Mod_blame_59
      · have hM := fa_ifb_t hM hc10
        refine g_aload_n X 0 rfl d_Mod_blame_42 ?_
        refine g_get X ck_10 fo_181 (fn_181 hN) 85 (by decide) wd_1826 rfl (fr_181_85 rfl hT) d_Mod_blame_43 ?_
        refine g_aload_n X 0 rfl d_Mod_blame_46 ?_
        refine g_get X ck_10 fo_181 (fn_181 hN) 88 (by decide) wd_1829 rfl (fa_fvI rfl) d_Mod_blame_47 ?_
        refine g_iconst X d_Mod_blame_50 ?_
        refine g_isub X d_Mod_blame_51 ?_
        refine g_iload_n X 2 rfl d_Mod_blame_52 ?_
        refine g_isub X d_Mod_blame_53 ?_
        obtain ⟨j11, ej11, hM⟩ := fa_ob hM
        refine g_iald X fs_236 (fn_236 hN) ej11 d_Mod_blame_54 ?_
        refine g_goto X 59 d_Mod_blame_55 (by decide) ?_
        cases hM
        exact g_iret X d_Mod_blame_59
  · have hM := fa_ifb_t hM hc5
    refine g_iconst X d_Mod_blame_13 ?_
    cases hM
    exact g_iret X d_Mod_blame_14
theorem d_Mod_sitesBy_0 : decode prog_12_method_107_code 0 = .ok (.iconst 0, 1) := by decide +kernel
theorem d_Mod_sitesBy_1 : decode prog_12_method_107_code 1 = .ok (.istore_n 2, 1) := by decide +kernel
theorem d_Mod_sitesBy_2 : decode prog_12_method_107_code 2 = .ok (.iconst 0, 1) := by decide +kernel
theorem d_Mod_sitesBy_3 : decode prog_12_method_107_code 3 = .ok (.istore_n 3, 1) := by decide +kernel
theorem d_Mod_sitesBy_4 : decode prog_12_method_107_code 4 = .ok (.iload_n 3, 1) := by decide +kernel
theorem d_Mod_sitesBy_5 : decode prog_12_method_107_code 5 = .ok (.aload_n 0, 1) := by decide +kernel
theorem d_Mod_sitesBy_6 : decode prog_12_method_107_code 6 = .ok (.getfield 197, 3) := by decide +kernel
theorem d_Mod_sitesBy_9 : decode prog_12_method_107_code 9 = .ok (.if_icmp .ge 39, 3) := by decide +kernel
theorem d_Mod_sitesBy_12 : decode prog_12_method_107_code 12 = .ok (.iload_n 2, 1) := by decide +kernel
theorem d_Mod_sitesBy_13 : decode prog_12_method_107_code 13 = .ok (.aload_n 0, 1) := by decide +kernel
theorem d_Mod_sitesBy_14 : decode prog_12_method_107_code 14 = .ok (.getfield 313, 3) := by decide +kernel
theorem d_Mod_sitesBy_17 : decode prog_12_method_107_code 17 = .ok (.iload_n 3, 1) := by decide +kernel
theorem d_Mod_sitesBy_18 : decode prog_12_method_107_code 18 = .ok (.baload, 1) := by decide +kernel
theorem d_Mod_sitesBy_19 : decode prog_12_method_107_code 19 = .ok (.ifCond .eq 20, 3) := by decide +kernel
theorem d_Mod_sitesBy_22 : decode prog_12_method_107_code 22 = .ok (.aload_n 0, 1) := by decide +kernel
theorem d_Mod_sitesBy_23 : decode prog_12_method_107_code 23 = .ok (.getfield 317, 3) := by decide +kernel
theorem d_Mod_sitesBy_26 : decode prog_12_method_107_code 26 = .ok (.iload_n 3, 1) := by decide +kernel
theorem d_Mod_sitesBy_27 : decode prog_12_method_107_code 27 = .ok (.iaload, 1) := by decide +kernel
theorem d_Mod_sitesBy_28 : decode prog_12_method_107_code 28 = .ok (.iload_n 1, 1) := by decide +kernel
theorem d_Mod_sitesBy_29 : decode prog_12_method_107_code 29 = .ok (.invokestatic 326, 3) := by decide +kernel
theorem d_Mod_sitesBy_32 : decode prog_12_method_107_code 32 = .ok (.ifCond .eq 7, 3) := by decide +kernel
theorem d_Mod_sitesBy_35 : decode prog_12_method_107_code 35 = .ok (.iconst 1, 1) := by decide +kernel
theorem d_Mod_sitesBy_36 : decode prog_12_method_107_code 36 = .ok (.goto 4, 3) := by decide +kernel
theorem d_Mod_sitesBy_39 : decode prog_12_method_107_code 39 = .ok (.iconst 0, 1) := by decide +kernel
theorem d_Mod_sitesBy_40 : decode prog_12_method_107_code 40 = .ok (.iadd, 1) := by decide +kernel
theorem d_Mod_sitesBy_41 : decode prog_12_method_107_code 41 = .ok (.istore_n 2, 1) := by decide +kernel
theorem d_Mod_sitesBy_42 : decode prog_12_method_107_code 42 = .ok (.iinc 3 1, 3) := by decide +kernel
theorem d_Mod_sitesBy_45 : decode prog_12_method_107_code 45 = .ok (.goto (-41), 3) := by decide +kernel
theorem d_Mod_sitesBy_48 : decode prog_12_method_107_code 48 = .ok (.iload_n 2, 1) := by decide +kernel
theorem d_Mod_sitesBy_49 : decode prog_12_method_107_code 49 = .ok (.ireturn, 1) := by decide +kernel
def fm_Mod_sitesBy_j39 (a1 : Int) (w : fa_W) (k4 : Int → Int → Option Int) (x3 : Int) (s0 : Int) : Option Int :=
  fa_let (s0 + 0) fun x2_4 =>
  fa_let (x3 + 1) fun x3_5 =>
  k4 x2_4 x3_5
set_option maxHeartbeats 4000000 in
set_option maxRecDepth 100000 in
theorem c_Mod_sitesBy_j39 {p : Program} {l : Launch} {e : Env} {s : State} {m : MethodId} {args : Array Value} {below : List Frame} {meth : Method} {c : Code} {hh : Nat} {D : va_G} {b : Nat} {aC : Nat → ClassId} {H0 : Heap} {N T : Nat} (X : fa_GX p s m args meth c prog_12_method_107_code 4 ((Option.some Jvm.ClassFile.FieldType.int)) y_Mod_sitesBy.cls D b aC) (hle : 1 ≤ hh) (hN : fa_NM ≤ N) (hT : fa_TM ≤ T) (a1 : Int) {r : Int} (w : fa_W) (k4 : Int → Int → Option Int) (K4 : ∀ (x2 : Int) (x3 : Int), k4 x2 x3 = some r → fa_GJ p l e (fa_rm hh) s m args below meth c 0 0 (MQ below (fa_Qc D b aC H0 N T (some (.int (fa_I r))) w) args s 0 0 (fun q => b ≤ q)) D b aC H0 N T 4 w 4 [(0, .ref (b + 181)), (1, .int (fa_I a1)), (2, .int (fa_I x2)), (3, .int (fa_I x3))] []) : ∀ (x3 : Int) (s0 : Int) (_ : fm_Mod_sitesBy_j39 a1 w k4 x3 s0 = some r), fa_GJ p l e (fa_rm hh) s m args below meth c 0 0 (MQ below (fa_Qc D b aC H0 N T (some (.int (fa_I r))) w) args s 0 0 (fun q => b ≤ q)) D b aC H0 N T 4 w 39 [(0, .ref (b + 181)), (1, .int (fa_I a1)), (3, .int (fa_I x3))] [.int (fa_I s0)] := by
  intro x3 s0 hM
  unfold fm_Mod_sitesBy_j39 at hM
  refine g_iconst X d_Mod_sitesBy_39 ?_
  refine g_iadd X d_Mod_sitesBy_40 ?_
  refine g_istore_n X (fun x2_4 => [(2, .int (fa_I x2_4)), (0, .ref (b + 181)), (1, .int (fa_I a1)), (3, .int (fa_I x3))]) d_Mod_sitesBy_41 (by decide) (fun _ => rfl) (fun x2_4 ex2_4 => ?_)
  have hM := fa_let_to hM ex2_4
  refine g_iinc X 3 (fun x3_5 => [(3, .int (fa_I x3_5)), (2, .int (fa_I x2_4)), (0, .ref (b + 181)), (1, .int (fa_I a1))]) d_Mod_sitesBy_42 rfl (by decide) (fun _ => rfl) (fun x3_5 ex3_5 => ?_)
  have hM := fa_let_to hM ex3_5
  refine g_goto X 4 d_Mod_sitesBy_45 (by decide) ?_
  exact g_lv [2, 3, 1, 0] rfl (K4 _ _ hM)
def fm_Mod_sitesBy_l4 (a1 : Int) (w : fa_W) : Nat → Int → Int → Option Int
  | 0, _, _ => none
  | n + 1, x2, x3 => if fa_wr (w 181 20) ≤ fa_wr x3 then
  some x2
  else
  ((fa_ix x3 101).bind fun j2 =>
  if decide (w 212 j2 ≠ 0) = true then
  ((fa_ix x3 101).bind fun j6 =>
  if fm_Mod_holds (w 209 j6) a1 w = true then
  (fa_let (x2 + 1) fun x2_9 =>
  fa_let (x3 + 1) fun x3_10 =>
  fm_Mod_sitesBy_l4 a1 w n x2_9 x3_10)
  else
  fm_Mod_sitesBy_j39 a1 w (fun x2 x3 => fm_Mod_sitesBy_l4 a1 w n x2 x3) x3 x2)
  else
  fm_Mod_sitesBy_j39 a1 w (fun x2 x3 => fm_Mod_sitesBy_l4 a1 w n x2 x3) x3 x2)
set_option maxHeartbeats 4000000 in
set_option maxRecDepth 100000 in
theorem c_Mod_sitesBy_l4 {p : Program} {l : Launch} {e : Env} {s : State} {m : MethodId} {args : Array Value} {below : List Frame} {meth : Method} {c : Code} {hh : Nat} {D : va_G} {b : Nat} {aC : Nat → ClassId} {H0 : Heap} {N T : Nat} (X : fa_GX p s m args meth c prog_12_method_107_code 4 ((Option.some Jvm.ClassFile.FieldType.int)) y_Mod_sitesBy.cls D b aC) (hle : 1 ≤ hh) (hN : fa_NM ≤ N) (hT : fa_TM ≤ T) (a1 : Int) {r : Int} (w : fa_W) : ∀ (n : Nat) (x2 : Int) (x3 : Int), fm_Mod_sitesBy_l4 a1 w n x2 x3 = some r → fa_GJ p l e (fa_rm hh) s m args below meth c 0 0 (MQ below (fa_Qc D b aC H0 N T (some (.int (fa_I r))) w) args s 0 0 (fun q => b ≤ q)) D b aC H0 N T 4 w 4 [(0, .ref (b + 181)), (1, .int (fa_I a1)), (2, .int (fa_I x2)), (3, .int (fa_I x3))] [] := by
  intro n
  induction n with
  | zero => intro x2 x3 hM; exact fa_no hM
  | succ n ih =>
    intro x2 x3 hM
    rw [fm_Mod_sitesBy_l4] at hM
    refine g_iload_n X 3 rfl d_Mod_sitesBy_4 ?_
    refine g_aload_n X 0 rfl d_Mod_sitesBy_5 ?_
    refine g_get X ck_10 fo_181 (fn_181 hN) 20 (by decide) wd_1762 rfl (fa_fvI rfl) d_Mod_sitesBy_6 ?_
    refine g_icmp_ge X 48 d_Mod_sitesBy_9 (by decide) (fun hc1 => ?_) (fun hc1 => ?_)
    · have hM := fa_if_t hM hc1
      refine g_iload_n X 2 rfl d_Mod_sitesBy_48 ?_
      cases hM
      exact g_iret X d_Mod_sitesBy_49
    · have hM := fa_if_f hM hc1
      refine g_iload_n X 2 rfl d_Mod_sitesBy_12 ?_
      refine g_aload_n X 0 rfl d_Mod_sitesBy_13 ?_
      refine g_get X ck_10 fo_181 (fn_181 hN) 51 (by decide) wd_1792 rfl (fr_181_51 rfl hT) d_Mod_sitesBy_14 ?_
      refine g_iload_n X 3 rfl d_Mod_sitesBy_17 ?_
      obtain ⟨j2, ej2, hM⟩ := fa_ob hM
      refine g_zald X fs_212 (fn_212 hN) ej2 d_Mod_sitesBy_18 ?_
      refine g_ifb_eq X 39 d_Mod_sitesBy_19 (by decide) (fun hc3 => ?_) (fun hc3 => ?_)
      · have hM := fa_ifb_f hM hc3
        exact g_lv [0, 1, 3] rfl (c_Mod_sitesBy_j39 X hle hN hT a1 w (fun x2 x3 => fm_Mod_sitesBy_l4 a1 w n x2 x3) (fun _ _ h => ih _ _ h)  _ _ hM)
      · have hM := fa_ifb_t hM hc3
        refine g_aload_n X 0 rfl d_Mod_sitesBy_22 ?_
        refine g_get X ck_10 fo_181 (fn_181 hN) 48 (by decide) wd_1789 rfl (fr_181_48 rfl hT) d_Mod_sitesBy_23 ?_
        refine g_iload_n X 3 rfl d_Mod_sitesBy_26 ?_
        obtain ⟨j6, ej6, hM⟩ := fa_ob hM
        refine g_iald X fs_209 (fn_209 hN) ej6 d_Mod_sitesBy_27 ?_
        refine g_iload_n X 1 rfl d_Mod_sitesBy_28 ?_
        refine g_callS_i X mi_Mod_holds (c_Mod_holds hN hT (w 209 j6) a1 w _ rfl) wd_1691 rfl (Nat.le_trans (Nat.le_of_ble_eq_true rfl) hle) (st := [.int (fa_I x2)]) (Nat.le_of_ble_eq_true rfl) rfl d_Mod_sitesBy_29 ?_
        refine g_ifb_eq X 39 d_Mod_sitesBy_32 (by decide) (fun hc8 => ?_) (fun hc8 => ?_)
        · have hM := fa_ifb_f hM hc8
          exact g_lv [0, 1, 3] rfl (c_Mod_sitesBy_j39 X hle hN hT a1 w (fun x2 x3 => fm_Mod_sitesBy_l4 a1 w n x2 x3) (fun _ _ h => ih _ _ h)  _ _ hM)
        · have hM := fa_ifb_t hM hc8
          refine g_iconst X d_Mod_sitesBy_35 ?_
          refine g_goto X 40 d_Mod_sitesBy_36 (by decide) ?_
          refine g_iadd X d_Mod_sitesBy_40 ?_
          refine g_istore_n X (fun x2_9 => [(2, .int (fa_I x2_9)), (0, .ref (b + 181)), (1, .int (fa_I a1)), (3, .int (fa_I x3))]) d_Mod_sitesBy_41 (by decide) (fun _ => rfl) (fun x2_9 ex2_9 => ?_)
          have hM := fa_let_to hM ex2_9
          refine g_iinc X 3 (fun x3_10 => [(3, .int (fa_I x3_10)), (2, .int (fa_I x2_9)), (0, .ref (b + 181)), (1, .int (fa_I a1))]) d_Mod_sitesBy_42 rfl (by decide) (fun _ => rfl) (fun x3_10 ex3_10 => ?_)
          have hM := fa_let_to hM ex3_10
          refine g_goto X 4 d_Mod_sitesBy_45 (by decide) ?_
          exact g_lv [2, 3, 1, 0] rfl (ih _ _ hM)
def fm_Mod_sitesBy (a1 : Int) (w : fa_W) : Option Int :=
  fm_Mod_sitesBy_l4 a1 w fa_FU 0 0
set_option maxHeartbeats 4000000 in
set_option maxRecDepth 100000 in
theorem c_Mod_sitesBy {l : Launch} {D : va_G} {b : Nat} {aC : Nat → ClassId} {H0 : Heap} {N T : Nat} (hN : fa_NM ≤ N) (hT : fa_TM ≤ T) (a1 : Int)  (w : fa_W) (r : Int) (hM : fm_Mod_sitesBy a1 w = some r) : fa_MC l D b aC H0 N T y_Mod_sitesBy prog_12_method_107_code 4 ((Option.some Jvm.ClassFile.FieldType.int)) (1) [.ref (b + 181), .int (fa_I a1)] w (some (.int (fa_I r))) w := by
  refine fa_enter (lv := [(0, .ref (b + 181)), (1, .int (fa_I a1))]) (by decide +kernel) (Nat.le_of_ble_eq_true rfl) rfl (fun hh hle hnm X => ?_)
  unfold fm_Mod_sitesBy at hM
  refine g_iconst X d_Mod_sitesBy_0 ?_
  refine g_istorec_n X [(2, .int (fa_I 0)), (0, .ref (b + 181)), (1, .int (fa_I a1))] d_Mod_sitesBy_1 (by decide) rfl ?_
  refine g_iconst X d_Mod_sitesBy_2 ?_
  refine g_istorec_n X [(3, .int (fa_I 0)), (2, .int (fa_I 0)), (0, .ref (b + 181)), (1, .int (fa_I a1))] d_Mod_sitesBy_3 (by decide) rfl ?_
  exact g_lv [2, 3, 1, 0] rfl (c_Mod_sitesBy_l4 X hle hN hT a1 w  fa_FU _ _ hM)
theorem d_Mod_function_0 : decode prog_12_method_108_code 0 = .ok (.aload_n 0, 1) := by decide +kernel
theorem d_Mod_function_1 : decode prog_12_method_108_code 1 = .ok (.iconst 0, 1) := by decide +kernel
theorem d_Mod_function_2 : decode prog_12_method_108_code 2 = .ok (.putfield 1, 3) := by decide +kernel
theorem d_Mod_function_5 : decode prog_12_method_108_code 5 = .ok (.aload_n 0, 1) := by decide +kernel
theorem d_Mod_function_6 : decode prog_12_method_108_code 6 = .ok (.iload_n 1, 1) := by decide +kernel
theorem d_Mod_function_7 : decode prog_12_method_108_code 7 = .ok (.invokevirtual 537, 3) := by decide +kernel
theorem d_Mod_function_10 : decode prog_12_method_108_code 10 = .ok (.ifCond .ne 26, 3) := by decide +kernel
theorem d_Mod_function_13 : decode prog_12_method_108_code 13 = .ok (.aload_n 0, 1) := by decide +kernel
theorem d_Mod_function_14 : decode prog_12_method_108_code 14 = .ok (.iload_n 2, 1) := by decide +kernel
theorem d_Mod_function_15 : decode prog_12_method_108_code 15 = .ok (.iconst 0, 1) := by decide +kernel
theorem d_Mod_function_16 : decode prog_12_method_108_code 16 = .ok (.bipush 12, 2) := by decide +kernel
theorem d_Mod_function_18 : decode prog_12_method_108_code 18 = .ok (.invokestatic 530, 3) := by decide +kernel
theorem d_Mod_function_21 : decode prog_12_method_108_code 21 = .ok (.ifCond .ne 7, 3) := by decide +kernel
theorem d_Mod_function_24 : decode prog_12_method_108_code 24 = .ok (.iconst 1, 1) := by decide +kernel
theorem d_Mod_function_25 : decode prog_12_method_108_code 25 = .ok (.goto 4, 3) := by decide +kernel
theorem d_Mod_function_28 : decode prog_12_method_108_code 28 = .ok (.iconst 0, 1) := by decide +kernel
theorem d_Mod_function_29 : decode prog_12_method_108_code 29 = .ok (.iconst 2, 1) := by decide +kernel
theorem d_Mod_function_30 : decode prog_12_method_108_code 30 = .ok (.invokevirtual 533, 3) := by decide +kernel
theorem d_Mod_function_33 : decode prog_12_method_108_code 33 = .ok (.ifCond .eq 5, 3) := by decide +kernel
theorem d_Mod_function_36 : decode prog_12_method_108_code 36 = .ok (.iconst 0, 1) := by decide +kernel
theorem d_Mod_function_37 : decode prog_12_method_108_code 37 = .ok (.ireturn, 1) := by decide +kernel
theorem d_Mod_function_38 : decode prog_12_method_108_code 38 = .ok (.aload_n 0, 1) := by decide +kernel
theorem d_Mod_function_39 : decode prog_12_method_108_code 39 = .ok (.getfield 323, 3) := by decide +kernel
theorem d_Mod_function_42 : decode prog_12_method_108_code 42 = .ok (.iload_n 1, 1) := by decide +kernel
theorem d_Mod_function_43 : decode prog_12_method_108_code 43 = .ok (.invokestatic 326, 3) := by decide +kernel
theorem d_Mod_function_46 : decode prog_12_method_108_code 46 = .ok (.istore_n 3, 1) := by decide +kernel
theorem d_Mod_function_47 : decode prog_12_method_108_code 47 = .ok (.iload_n 2, 1) := by decide +kernel
theorem d_Mod_function_48 : decode prog_12_method_108_code 48 = .ok (.tableswitch 194 0 11 #[64, 71, 85, 102, 112, 127, 142, 149, 156, 163, 170, 177], 64) := by decide +kernel
theorem d_Mod_function_112 : decode prog_12_method_108_code 112 = .ok (.aload_n 0, 1) := by decide +kernel
theorem d_Mod_function_113 : decode prog_12_method_108_code 113 = .ok (.getfield 156, 3) := by decide +kernel
theorem d_Mod_function_116 : decode prog_12_method_108_code 116 = .ok (.iload_n 1, 1) := by decide +kernel
theorem d_Mod_function_117 : decode prog_12_method_108_code 117 = .ok (.iaload, 1) := by decide +kernel
theorem d_Mod_function_118 : decode prog_12_method_108_code 118 = .ok (.ireturn, 1) := by decide +kernel
theorem d_Mod_function_119 : decode prog_12_method_108_code 119 = .ok (.iload_n 1, 1) := by decide +kernel
theorem d_Mod_function_120 : decode prog_12_method_108_code 120 = .ok (.aload_n 0, 1) := by decide +kernel
theorem d_Mod_function_121 : decode prog_12_method_108_code 121 = .ok (.getfield 209, 3) := by decide +kernel
theorem d_Mod_function_124 : decode prog_12_method_108_code 124 = .ok (.if_icmp .ge 7, 3) := by decide +kernel
theorem d_Mod_function_127 : decode prog_12_method_108_code 127 = .ok (.iconst 1, 1) := by decide +kernel
theorem d_Mod_function_128 : decode prog_12_method_108_code 128 = .ok (.goto 4, 3) := by decide +kernel
theorem d_Mod_function_131 : decode prog_12_method_108_code 131 = .ok (.iconst 0, 1) := by decide +kernel
theorem d_Mod_function_132 : decode prog_12_method_108_code 132 = .ok (.ireturn, 1) := by decide +kernel
theorem d_Mod_function_133 : decode prog_12_method_108_code 133 = .ok (.aload_n 0, 1) := by decide +kernel
theorem d_Mod_function_134 : decode prog_12_method_108_code 134 = .ok (.getfield 300, 3) := by decide +kernel
theorem d_Mod_function_137 : decode prog_12_method_108_code 137 = .ok (.iload_n 1, 1) := by decide +kernel
theorem d_Mod_function_138 : decode prog_12_method_108_code 138 = .ok (.invokestatic 326, 3) := by decide +kernel
theorem d_Mod_function_141 : decode prog_12_method_108_code 141 = .ok (.ifCond .eq 7, 3) := by decide +kernel
theorem d_Mod_function_144 : decode prog_12_method_108_code 144 = .ok (.iconst 1, 1) := by decide +kernel
theorem d_Mod_function_145 : decode prog_12_method_108_code 145 = .ok (.goto 4, 3) := by decide +kernel
theorem d_Mod_function_148 : decode prog_12_method_108_code 148 = .ok (.iconst 0, 1) := by decide +kernel
theorem d_Mod_function_149 : decode prog_12_method_108_code 149 = .ok (.ireturn, 1) := by decide +kernel
theorem d_Mod_function_150 : decode prog_12_method_108_code 150 = .ok (.iload_n 3, 1) := by decide +kernel
theorem d_Mod_function_151 : decode prog_12_method_108_code 151 = .ok (.ifCond .eq 7, 3) := by decide +kernel
theorem d_Mod_function_154 : decode prog_12_method_108_code 154 = .ok (.iconst 1, 1) := by decide +kernel
theorem d_Mod_function_155 : decode prog_12_method_108_code 155 = .ok (.goto 4, 3) := by decide +kernel
theorem d_Mod_function_158 : decode prog_12_method_108_code 158 = .ok (.iconst 0, 1) := by decide +kernel
theorem d_Mod_function_159 : decode prog_12_method_108_code 159 = .ok (.ireturn, 1) := by decide +kernel
theorem d_Mod_function_160 : decode prog_12_method_108_code 160 = .ok (.iload_n 3, 1) := by decide +kernel
theorem d_Mod_function_161 : decode prog_12_method_108_code 161 = .ok (.ifCond .eq 12, 3) := by decide +kernel
theorem d_Mod_function_164 : decode prog_12_method_108_code 164 = .ok (.aload_n 0, 1) := by decide +kernel
theorem d_Mod_function_165 : decode prog_12_method_108_code 165 = .ok (.getfield 297, 3) := by decide +kernel
theorem d_Mod_function_168 : decode prog_12_method_108_code 168 = .ok (.iload_n 1, 1) := by decide +kernel
theorem d_Mod_function_169 : decode prog_12_method_108_code 169 = .ok (.iaload, 1) := by decide +kernel
theorem d_Mod_function_170 : decode prog_12_method_108_code 170 = .ok (.goto 4, 3) := by decide +kernel
theorem d_Mod_function_173 : decode prog_12_method_108_code 173 = .ok (.iconst 0, 1) := by decide +kernel
theorem d_Mod_function_174 : decode prog_12_method_108_code 174 = .ok (.ireturn, 1) := by decide +kernel
theorem d_Mod_function_175 : decode prog_12_method_108_code 175 = .ok (.iload_n 3, 1) := by decide +kernel
theorem d_Mod_function_176 : decode prog_12_method_108_code 176 = .ok (.ifCond .eq 12, 3) := by decide +kernel
theorem d_Mod_function_179 : decode prog_12_method_108_code 179 = .ok (.aload_n 0, 1) := by decide +kernel
theorem d_Mod_function_180 : decode prog_12_method_108_code 180 = .ok (.getfield 329, 3) := by decide +kernel
theorem d_Mod_function_183 : decode prog_12_method_108_code 183 = .ok (.iload_n 1, 1) := by decide +kernel
theorem d_Mod_function_184 : decode prog_12_method_108_code 184 = .ok (.iaload, 1) := by decide +kernel
theorem d_Mod_function_185 : decode prog_12_method_108_code 185 = .ok (.goto 4, 3) := by decide +kernel
theorem d_Mod_function_188 : decode prog_12_method_108_code 188 = .ok (.iconst 0, 1) := by decide +kernel
theorem d_Mod_function_189 : decode prog_12_method_108_code 189 = .ok (.ireturn, 1) := by decide +kernel
theorem d_Mod_function_190 : decode prog_12_method_108_code 190 = .ok (.aload_n 0, 1) := by decide +kernel
theorem d_Mod_function_191 : decode prog_12_method_108_code 191 = .ok (.getfield 347, 3) := by decide +kernel
theorem d_Mod_function_194 : decode prog_12_method_108_code 194 = .ok (.iload_n 1, 1) := by decide +kernel
theorem d_Mod_function_195 : decode prog_12_method_108_code 195 = .ok (.iaload, 1) := by decide +kernel
theorem d_Mod_function_196 : decode prog_12_method_108_code 196 = .ok (.ireturn, 1) := by decide +kernel
theorem d_Mod_function_197 : decode prog_12_method_108_code 197 = .ok (.aload_n 0, 1) := by decide +kernel
theorem d_Mod_function_198 : decode prog_12_method_108_code 198 = .ok (.iconst 2, 1) := by decide +kernel
theorem d_Mod_function_199 : decode prog_12_method_108_code 199 = .ok (.iload_n 1, 1) := by decide +kernel
theorem d_Mod_function_200 : decode prog_12_method_108_code 200 = .ok (.invokevirtual 359, 3) := by decide +kernel
theorem d_Mod_function_203 : decode prog_12_method_108_code 203 = .ok (.ireturn, 1) := by decide +kernel
theorem d_Mod_function_204 : decode prog_12_method_108_code 204 = .ok (.aload_n 0, 1) := by decide +kernel
theorem d_Mod_function_205 : decode prog_12_method_108_code 205 = .ok (.iconst 1, 1) := by decide +kernel
theorem d_Mod_function_206 : decode prog_12_method_108_code 206 = .ok (.iload_n 1, 1) := by decide +kernel
theorem d_Mod_function_207 : decode prog_12_method_108_code 207 = .ok (.invokevirtual 359, 3) := by decide +kernel
theorem d_Mod_function_210 : decode prog_12_method_108_code 210 = .ok (.ireturn, 1) := by decide +kernel
theorem d_Mod_function_211 : decode prog_12_method_108_code 211 = .ok (.aload_n 0, 1) := by decide +kernel
theorem d_Mod_function_212 : decode prog_12_method_108_code 212 = .ok (.getfield 366, 3) := by decide +kernel
theorem d_Mod_function_215 : decode prog_12_method_108_code 215 = .ok (.iload_n 1, 1) := by decide +kernel
theorem d_Mod_function_216 : decode prog_12_method_108_code 216 = .ok (.iaload, 1) := by decide +kernel
theorem d_Mod_function_217 : decode prog_12_method_108_code 217 = .ok (.ireturn, 1) := by decide +kernel
theorem d_Mod_function_218 : decode prog_12_method_108_code 218 = .ok (.aload_n 0, 1) := by decide +kernel
theorem d_Mod_function_219 : decode prog_12_method_108_code 219 = .ok (.getfield 372, 3) := by decide +kernel
theorem d_Mod_function_222 : decode prog_12_method_108_code 222 = .ok (.iload_n 1, 1) := by decide +kernel
theorem d_Mod_function_223 : decode prog_12_method_108_code 223 = .ok (.iaload, 1) := by decide +kernel
theorem d_Mod_function_224 : decode prog_12_method_108_code 224 = .ok (.ireturn, 1) := by decide +kernel
theorem d_Mod_function_225 : decode prog_12_method_108_code 225 = .ok (.aload_n 0, 1) := by decide +kernel
theorem d_Mod_function_226 : decode prog_12_method_108_code 226 = .ok (.getfield 335, 3) := by decide +kernel
theorem d_Mod_function_229 : decode prog_12_method_108_code 229 = .ok (.iload_n 1, 1) := by decide +kernel
theorem d_Mod_function_230 : decode prog_12_method_108_code 230 = .ok (.invokestatic 326, 3) := by decide +kernel
theorem d_Mod_function_233 : decode prog_12_method_108_code 233 = .ok (.ifCond .eq 7, 3) := by decide +kernel
theorem d_Mod_function_236 : decode prog_12_method_108_code 236 = .ok (.iconst 1, 1) := by decide +kernel
theorem d_Mod_function_237 : decode prog_12_method_108_code 237 = .ok (.goto 4, 3) := by decide +kernel
theorem d_Mod_function_240 : decode prog_12_method_108_code 240 = .ok (.iconst 0, 1) := by decide +kernel
theorem d_Mod_function_241 : decode prog_12_method_108_code 241 = .ok (.ireturn, 1) := by decide +kernel
theorem d_Mod_function_242 : decode prog_12_method_108_code 242 = .ok (.aload_n 0, 1) := by decide +kernel
theorem d_Mod_function_243 : decode prog_12_method_108_code 243 = .ok (.iload_n 1, 1) := by decide +kernel
theorem d_Mod_function_244 : decode prog_12_method_108_code 244 = .ok (.invokevirtual 594, 3) := by decide +kernel
theorem d_Mod_function_247 : decode prog_12_method_108_code 247 = .ok (.ireturn, 1) := by decide +kernel
def fm_Mod_function_j29 (a1 : Int) (a2 : Int) (s0 : Bool) (w : fa_W) : Option (Int × fa_W) :=
  fa_l2 (fm_Mod_throwsIf s0 2 w) fun v9 w10 =>
  if v9 = true then
  some (0, w10)
  else
  (if fa_wr a2 = 0 then
  ((fa_ix a1 24).bind fun j14 =>
  some (w10 191 j14, w10))
  else
  if fa_wr a2 = 1 then
  (if fa_wr (w10 181 17) ≤ fa_wr a1 then
  some (0, w10)
  else
  some (1, w10))
  else
  if fa_wr a2 = 2 then
  (if fm_Mod_holds (w10 181 52) a1 w10 = true then
  some (1, w10)
  else
  some (0, w10))
  else
  if fa_wr a2 = 3 then
  (if fm_Mod_holds (w10 181 53) a1 w10 = true then
  some (1, w10)
  else
  some (0, w10))
  else
  if fa_wr a2 = 4 then
  (if fm_Mod_holds (w10 181 53) a1 w10 = true then
  ((fa_ix a1 124).bind fun j24 =>
  some (w10 207 j24, w10))
  else
  some (0, w10))
  else
  if fa_wr a2 = 5 then
  (if fm_Mod_holds (w10 181 53) a1 w10 = true then
  ((fa_ix a1 24).bind fun j27 =>
  some (w10 208 j27, w10))
  else
  some (0, w10))
  else
  if fa_wr a2 = 6 then
  ((fa_ix a1 24).bind fun j29 =>
  some (w10 214 j29, w10))
  else
  if fa_wr a2 = 7 then
  ((fm_Mod_groupAt 2 a1 w10).bind fun v32 =>
  some (v32, w10))
  else
  if fa_wr a2 = 8 then
  ((fm_Mod_groupAt 1 a1 w10).bind fun v35 =>
  some (v35, w10))
  else
  if fa_wr a2 = 9 then
  ((fa_ix a1 24).bind fun j37 =>
  some (w10 217 j37, w10))
  else
  if fa_wr a2 = 10 then
  ((fa_ix a1 24).bind fun j39 =>
  some (w10 219 j39, w10))
  else
  if fa_wr a2 = 11 then
  (if fm_Mod_holds (w10 181 54) a1 w10 = true then
  some (1, w10)
  else
  some (0, w10))
  else
  ((fm_Mod_sitesBy a1 w10).bind fun v44 =>
  some (v44, w10)))
set_option maxHeartbeats 4000000 in
set_option maxRecDepth 100000 in
theorem c_Mod_function_j29 {p : Program} {l : Launch} {e : Env} {s : State} {m : MethodId} {args : Array Value} {below : List Frame} {meth : Method} {c : Code} {hh : Nat} {D : va_G} {b : Nat} {aC : Nat → ClassId} {H0 : Heap} {N T : Nat} (X : fa_GX p s m args meth c prog_12_method_108_code 4 ((Option.some Jvm.ClassFile.FieldType.int)) y_Mod_function.cls D b aC) (hle : 2 ≤ hh) (hN : fa_NM ≤ N) (hT : fa_TM ≤ T) (a1 : Int) (a2 : Int) {r : Int × fa_W}  : ∀ (s0 : Bool) (w : fa_W) (_ : fm_Mod_function_j29 a1 a2 s0 w = some r), fa_GJ p l e (fa_rm hh) s m args below meth c 0 0 (MQ below (fa_Qc D b aC H0 N T (some (.int (fa_I r.1))) r.2) args s 0 0 (fun q => b ≤ q)) D b aC H0 N T 4 w 29 [(0, .ref (b + 181)), (1, .int (fa_I a1)), (2, .int (fa_I a2))] [.int (fa_I (fa_bi s0)), .ref (b + 181)] := by
  intro s0 w hM
  unfold fm_Mod_function_j29 at hM
  refine g_iconst X d_Mod_function_29 ?_
  obtain ⟨⟨v9, w10⟩, e8⟩ : ∃ q, fm_Mod_throwsIf s0 2 w = q := ⟨_, rfl⟩
  have hM := fa_l2_e hM e8
  refine g_callV_i X ck_10 fo_181 (fn_181 hN) rfl mi_Mod_throwsIf (c_Mod_throwsIf hN hT s0 2 w _ e8) wd_2096 rfl (Nat.le_trans (Nat.le_of_ble_eq_true rfl) hle) (st := []) (Nat.le_of_ble_eq_true rfl) rfl d_Mod_function_30 ?_
  refine g_ifb_eq X 38 d_Mod_function_33 (by decide) (fun hc11 => ?_) (fun hc11 => ?_)
  · have hM := fa_ifb_f hM hc11
    refine g_aload_n X 0 rfl d_Mod_function_38 ?_
    refine g_get X ck_10 fo_181 (fn_181 hN) 53 (by decide) wd_1794 rfl (fa_fvI rfl) d_Mod_function_39 ?_
    refine g_iload_n X 1 rfl d_Mod_function_42 ?_
    refine g_callS_i X mi_Mod_holds (c_Mod_holds hN hT (w10 181 53) a1 w10 _ rfl) wd_1691 rfl (Nat.le_trans (Nat.le_of_ble_eq_true rfl) hle) (st := []) (Nat.le_of_ble_eq_true rfl) rfl d_Mod_function_43 ?_
    refine g_istorec_n X [(3, .int (fa_I (fa_bi (fm_Mod_holds (w10 181 53) a1 w10)))), (0, .ref (b + 181)), (1, .int (fa_I a1)), (2, .int (fa_I a2))] d_Mod_function_46 (by decide) rfl ?_
    refine g_iload_n X 3 rfl d_Mod_function_47 ?_
    by_cases hc13 : fa_wr a2 = 0
    · have hM := fa_if_t hM hc13
      refine g_tableIn X 0 112 d_Mod_function_48 hc13 (by decide) (by decide) rfl (by decide) ?_
      refine g_aload_n X 1 rfl d_Mod_function_112 ?_
      refine g_get X ck_10 fo_181 (fn_181 hN) 11 (by decide) wd_1753 rfl (fr_181_11 rfl hT) d_Mod_function_113 ?_
      refine g_iload_n X 2 rfl d_Mod_function_116 ?_
      obtain ⟨j14, ej14, hM⟩ := fa_ob hM
      refine g_iald X fs_191 (fn_191 hN) ej14 d_Mod_function_117 ?_
      cases hM
      exact g_iret X d_Mod_function_118
    have hM := fa_if_f hM hc13
    by_cases hc15 : fa_wr a2 = 1
    · have hM := fa_if_t hM hc15
      refine g_tableIn X 1 119 d_Mod_function_48 hc15 (by decide) (by decide) rfl (by decide) ?_
      refine g_iload_n X 2 rfl d_Mod_function_119 ?_
      refine g_aload_n X 1 rfl d_Mod_function_120 ?_
      refine g_get X ck_10 fo_181 (fn_181 hN) 17 (by decide) wd_1759 rfl (fa_fvI rfl) d_Mod_function_121 ?_
      refine g_icmp_ge X 131 d_Mod_function_124 (by decide) (fun hc16 => ?_) (fun hc16 => ?_)
      · have hM := fa_if_t hM hc16
        refine g_iconst X d_Mod_function_131 ?_
        cases hM
        exact g_iret X d_Mod_function_132
      · have hM := fa_if_f hM hc16
        refine g_iconst X d_Mod_function_127 ?_
        refine g_goto X 132 d_Mod_function_128 (by decide) ?_
        cases hM
        exact g_iret X d_Mod_function_132
    have hM := fa_if_f hM hc15
    by_cases hc17 : fa_wr a2 = 2
    · have hM := fa_if_t hM hc17
      refine g_tableIn X 2 133 d_Mod_function_48 hc17 (by decide) (by decide) rfl (by decide) ?_
      refine g_aload_n X 1 rfl d_Mod_function_133 ?_
      refine g_get X ck_10 fo_181 (fn_181 hN) 52 (by decide) wd_1793 rfl (fa_fvI rfl) d_Mod_function_134 ?_
      refine g_iload_n X 2 rfl d_Mod_function_137 ?_
      refine g_callS_i X mi_Mod_holds (c_Mod_holds hN hT (w10 181 52) a1 w10 _ rfl) wd_1691 rfl (Nat.le_trans (Nat.le_of_ble_eq_true rfl) hle) (st := []) (Nat.le_of_ble_eq_true rfl) rfl d_Mod_function_138 ?_
      refine g_ifb_eq X 148 d_Mod_function_141 (by decide) (fun hc19 => ?_) (fun hc19 => ?_)
      · have hM := fa_ifb_f hM hc19
        refine g_iconst X d_Mod_function_148 ?_
        cases hM
        exact g_iret X d_Mod_function_149
      · have hM := fa_ifb_t hM hc19
        refine g_iconst X d_Mod_function_144 ?_
        refine g_goto X 149 d_Mod_function_145 (by decide) ?_
        cases hM
        exact g_iret X d_Mod_function_149
    have hM := fa_if_f hM hc17
    by_cases hc20 : fa_wr a2 = 3
    · have hM := fa_if_t hM hc20
      refine g_tableIn X 3 150 d_Mod_function_48 hc20 (by decide) (by decide) rfl (by decide) ?_
      refine g_iload_n X 0 rfl d_Mod_function_150 ?_
      refine g_ifb_eq X 158 d_Mod_function_151 (by decide) (fun hc21 => ?_) (fun hc21 => ?_)
      · have hM := fa_ifb_f hM hc21
        refine g_iconst X d_Mod_function_158 ?_
        cases hM
        exact g_iret X d_Mod_function_159
      · have hM := fa_ifb_t hM hc21
        refine g_iconst X d_Mod_function_154 ?_
        refine g_goto X 159 d_Mod_function_155 (by decide) ?_
        cases hM
        exact g_iret X d_Mod_function_159
    have hM := fa_if_f hM hc20
    by_cases hc22 : fa_wr a2 = 4
    · have hM := fa_if_t hM hc22
      refine g_tableIn X 4 160 d_Mod_function_48 hc22 (by decide) (by decide) rfl (by decide) ?_
      refine g_iload_n X 0 rfl d_Mod_function_160 ?_
      refine g_ifb_eq X 173 d_Mod_function_161 (by decide) (fun hc23 => ?_) (fun hc23 => ?_)
      · have hM := fa_ifb_f hM hc23
        refine g_iconst X d_Mod_function_173 ?_
        cases hM
        exact g_iret X d_Mod_function_174
      · have hM := fa_ifb_t hM hc23
        refine g_aload_n X 1 rfl d_Mod_function_164 ?_
        refine g_get X ck_10 fo_181 (fn_181 hN) 46 (by decide) wd_1787 rfl (fr_181_46 rfl hT) d_Mod_function_165 ?_
        refine g_iload_n X 2 rfl d_Mod_function_168 ?_
        obtain ⟨j24, ej24, hM⟩ := fa_ob hM
        refine g_iald X fs_207 (fn_207 hN) ej24 d_Mod_function_169 ?_
        refine g_goto X 174 d_Mod_function_170 (by decide) ?_
        cases hM
        exact g_iret X d_Mod_function_174
    have hM := fa_if_f hM hc22
    by_cases hc25 : fa_wr a2 = 5
    · have hM := fa_if_t hM hc25
      refine g_tableIn X 5 175 d_Mod_function_48 hc25 (by decide) (by decide) rfl (by decide) ?_
      refine g_iload_n X 0 rfl d_Mod_function_175 ?_
      refine g_ifb_eq X 188 d_Mod_function_176 (by decide) (fun hc26 => ?_) (fun hc26 => ?_)
      · have hM := fa_ifb_f hM hc26
        refine g_iconst X d_Mod_function_188 ?_
        cases hM
        exact g_iret X d_Mod_function_189
      · have hM := fa_ifb_t hM hc26
        refine g_aload_n X 1 rfl d_Mod_function_179 ?_
        refine g_get X ck_10 fo_181 (fn_181 hN) 47 (by decide) wd_1788 rfl (fr_181_47 rfl hT) d_Mod_function_180 ?_
        refine g_iload_n X 2 rfl d_Mod_function_183 ?_
        obtain ⟨j27, ej27, hM⟩ := fa_ob hM
        refine g_iald X fs_208 (fn_208 hN) ej27 d_Mod_function_184 ?_
        refine g_goto X 189 d_Mod_function_185 (by decide) ?_
        cases hM
        exact g_iret X d_Mod_function_189
    have hM := fa_if_f hM hc25
    by_cases hc28 : fa_wr a2 = 6
    · have hM := fa_if_t hM hc28
      refine g_tableIn X 6 190 d_Mod_function_48 hc28 (by decide) (by decide) rfl (by decide) ?_
      refine g_aload_n X 1 rfl d_Mod_function_190 ?_
      refine g_get X ck_10 fo_181 (fn_181 hN) 57 (by decide) wd_1798 rfl (fr_181_57 rfl hT) d_Mod_function_191 ?_
      refine g_iload_n X 2 rfl d_Mod_function_194 ?_
      obtain ⟨j29, ej29, hM⟩ := fa_ob hM
      refine g_iald X fs_214 (fn_214 hN) ej29 d_Mod_function_195 ?_
      cases hM
      exact g_iret X d_Mod_function_196
    have hM := fa_if_f hM hc28
    by_cases hc30 : fa_wr a2 = 7
    · have hM := fa_if_t hM hc30
      refine g_tableIn X 7 197 d_Mod_function_48 hc30 (by decide) (by decide) rfl (by decide) ?_
      refine g_aload_n X 1 rfl d_Mod_function_197 ?_
      refine g_iconst X d_Mod_function_198 ?_
      refine g_iload_n X 2 rfl d_Mod_function_199 ?_
      obtain ⟨v32, e31, hM⟩ := fa_ob hM
      refine g_callV_i X ck_10 fo_181 (fn_181 hN) rfl mi_Mod_groupAt (c_Mod_groupAt hN hT 2 a1 w10 _ e31) wd_1710 rfl (Nat.le_trans (Nat.le_of_ble_eq_true rfl) hle) (st := []) (Nat.le_of_ble_eq_true rfl) rfl d_Mod_function_200 ?_
      cases hM
      exact g_iret X d_Mod_function_203
    have hM := fa_if_f hM hc30
    by_cases hc33 : fa_wr a2 = 8
    · have hM := fa_if_t hM hc33
      refine g_tableIn X 8 204 d_Mod_function_48 hc33 (by decide) (by decide) rfl (by decide) ?_
      refine g_aload_n X 1 rfl d_Mod_function_204 ?_
      refine g_iconst X d_Mod_function_205 ?_
      refine g_iload_n X 2 rfl d_Mod_function_206 ?_
      obtain ⟨v35, e34, hM⟩ := fa_ob hM
      refine g_callV_i X ck_10 fo_181 (fn_181 hN) rfl mi_Mod_groupAt (c_Mod_groupAt hN hT 1 a1 w10 _ e34) wd_1710 rfl (Nat.le_trans (Nat.le_of_ble_eq_true rfl) hle) (st := []) (Nat.le_of_ble_eq_true rfl) rfl d_Mod_function_207 ?_
      cases hM
      exact g_iret X d_Mod_function_210
    have hM := fa_if_f hM hc33
    by_cases hc36 : fa_wr a2 = 9
    · have hM := fa_if_t hM hc36
      refine g_tableIn X 9 211 d_Mod_function_48 hc36 (by decide) (by decide) rfl (by decide) ?_
      refine g_aload_n X 1 rfl d_Mod_function_211 ?_
      refine g_get X ck_10 fo_181 (fn_181 hN) 60 (by decide) wd_1801 rfl (fr_181_60 rfl hT) d_Mod_function_212 ?_
      refine g_iload_n X 2 rfl d_Mod_function_215 ?_
      obtain ⟨j37, ej37, hM⟩ := fa_ob hM
      refine g_iald X fs_217 (fn_217 hN) ej37 d_Mod_function_216 ?_
      cases hM
      exact g_iret X d_Mod_function_217
    have hM := fa_if_f hM hc36
    by_cases hc38 : fa_wr a2 = 10
    · have hM := fa_if_t hM hc38
      refine g_tableIn X 10 218 d_Mod_function_48 hc38 (by decide) (by decide) rfl (by decide) ?_
      refine g_aload_n X 1 rfl d_Mod_function_218 ?_
      refine g_get X ck_10 fo_181 (fn_181 hN) 62 (by decide) wd_1803 rfl (fr_181_62 rfl hT) d_Mod_function_219 ?_
      refine g_iload_n X 2 rfl d_Mod_function_222 ?_
      obtain ⟨j39, ej39, hM⟩ := fa_ob hM
      refine g_iald X fs_219 (fn_219 hN) ej39 d_Mod_function_223 ?_
      cases hM
      exact g_iret X d_Mod_function_224
    have hM := fa_if_f hM hc38
    by_cases hc40 : fa_wr a2 = 11
    · have hM := fa_if_t hM hc40
      refine g_tableIn X 11 225 d_Mod_function_48 hc40 (by decide) (by decide) rfl (by decide) ?_
      refine g_aload_n X 1 rfl d_Mod_function_225 ?_
      refine g_get X ck_10 fo_181 (fn_181 hN) 54 (by decide) wd_1795 rfl (fa_fvI rfl) d_Mod_function_226 ?_
      refine g_iload_n X 2 rfl d_Mod_function_229 ?_
      refine g_callS_i X mi_Mod_holds (c_Mod_holds hN hT (w10 181 54) a1 w10 _ rfl) wd_1691 rfl (Nat.le_trans (Nat.le_of_ble_eq_true rfl) hle) (st := []) (Nat.le_of_ble_eq_true rfl) rfl d_Mod_function_230 ?_
      refine g_ifb_eq X 240 d_Mod_function_233 (by decide) (fun hc42 => ?_) (fun hc42 => ?_)
      · have hM := fa_ifb_f hM hc42
        refine g_iconst X d_Mod_function_240 ?_
        cases hM
        exact g_iret X d_Mod_function_241
      · have hM := fa_ifb_t hM hc42
        refine g_iconst X d_Mod_function_236 ?_
        refine g_goto X 241 d_Mod_function_237 (by decide) ?_
        cases hM
        exact g_iret X d_Mod_function_241
    have hM := fa_if_f hM hc40
    refine g_tableDef X 242 d_Mod_function_48 (by
    exact Or.inl (by omega)) (by decide) ?_
    refine g_aload_n X 1 rfl d_Mod_function_242 ?_
    refine g_iload_n X 2 rfl d_Mod_function_243 ?_
    obtain ⟨v44, e43, hM⟩ := fa_ob hM
    refine g_callV_i X ck_10 fo_181 (fn_181 hN) rfl mi_Mod_sitesBy (c_Mod_sitesBy hN hT a1 w10 _ e43) wd_2188 rfl (Nat.le_trans (Nat.le_of_ble_eq_true rfl) hle) (st := []) (Nat.le_of_ble_eq_true rfl) rfl d_Mod_function_244 ?_
    cases hM
    exact g_iret X d_Mod_function_247
  · have hM := fa_ifb_t hM hc11
    refine g_iconst X d_Mod_function_36 ?_
    cases hM
    exact g_iret X d_Mod_function_37
def fm_Mod_function (a1 : Int) (a2 : Int) (w : fa_W) : Option (Int × fa_W) :=
  fa_let (fa_st w 181 0 0) fun w1 =>
  fa_l2 (fm_Mod_noFunction a1 w1) fun v3 w4 =>
  if v3 = true then
  some (0, w4)
  else
  (if fm_Mod_in a2 0 12 w4 = true then
  fm_Mod_function_j29 a1 a2 false w4
  else
  fm_Mod_function_j29 a1 a2 true w4)
set_option maxHeartbeats 4000000 in
set_option maxRecDepth 100000 in
theorem c_Mod_function {l : Launch} {D : va_G} {b : Nat} {aC : Nat → ClassId} {H0 : Heap} {N T : Nat} (hN : fa_NM ≤ N) (hT : fa_TM ≤ T) (a1 : Int) (a2 : Int)  (w : fa_W) (r : Int × fa_W) (hM : fm_Mod_function a1 a2 w = some r) : fa_MC l D b aC H0 N T y_Mod_function prog_12_method_108_code 4 ((Option.some Jvm.ClassFile.FieldType.int)) (2) [.ref (b + 181), .int (fa_I a1), .int (fa_I a2)] w (some (.int (fa_I r.1))) r.2 := by
  refine fa_enter (lv := [(0, .ref (b + 181)), (1, .int (fa_I a1)), (2, .int (fa_I a2))]) (by decide +kernel) (Nat.le_of_ble_eq_true rfl) rfl (fun hh hle hnm X => ?_)
  unfold fm_Mod_function at hM
  refine g_aload_n X 0 rfl d_Mod_function_0 ?_
  refine g_iconst X d_Mod_function_1 ?_
  refine g_put X ck_10 fo_181 (fn_181 hN) 0 (z := 0) (by decide) wd_1742 rfl (fa_fvI' rfl) rfl rfl rfl d_Mod_function_2 (fun w1 ew1 => ?_)
  have hM := fa_let_to hM ew1
  refine g_aload_n X 0 rfl d_Mod_function_5 ?_
  refine g_iload_n X 1 rfl d_Mod_function_6 ?_
  obtain ⟨⟨v3, w4⟩, e2⟩ : ∃ q, fm_Mod_noFunction a1 w1 = q := ⟨_, rfl⟩
  have hM := fa_l2_e hM e2
  refine g_callV_i X ck_10 fo_181 (fn_181 hN) rfl mi_Mod_noFunction (c_Mod_noFunction hN hT a1 w1 _ e2) wd_2089 rfl (Nat.le_trans (Nat.le_of_ble_eq_true rfl) hle) (st := []) (Nat.le_of_ble_eq_true rfl) rfl d_Mod_function_7 ?_
  refine g_ifb_ne X 36 d_Mod_function_10 (by decide) (fun hc5 => ?_) (fun hc5 => ?_)
  · have hM := fa_ifb_t hM hc5
    refine g_iconst X d_Mod_function_36 ?_
    cases hM
    exact g_iret X d_Mod_function_37
  · have hM := fa_ifb_f hM hc5
    refine g_aload_n X 0 rfl d_Mod_function_13 ?_
    refine g_iload_n X 2 rfl d_Mod_function_14 ?_
    refine g_iconst X d_Mod_function_15 ?_
    refine g_bipush X (by decide) d_Mod_function_16 ?_
    refine g_callS_i X mi_Mod_in (c_Mod_in hN hT a2 0 12 w4 _ rfl) wd_2093 rfl (Nat.le_trans (Nat.le_of_ble_eq_true rfl) hle) (st := [.ref (b + 181)]) (Nat.le_of_ble_eq_true rfl) rfl d_Mod_function_18 ?_
    refine g_ifb_ne X 28 d_Mod_function_21 (by decide) (fun hc7 => ?_) (fun hc7 => ?_)
    · have hM := fa_ifb_t hM hc7
      refine g_iconst X d_Mod_function_28 ?_
      exact g_lv [0, 1, 2] rfl (c_Mod_function_j29 X hle hN hT a1 a2    _ _ hM)
    · have hM := fa_ifb_f hM hc7
      refine g_iconst X d_Mod_function_24 ?_
      refine g_goto X 29 d_Mod_function_25 (by decide) ?_
      exact g_lv [0, 1, 2] rfl (c_Mod_function_j29 X hle hN hT a1 a2    _ _ hM)
theorem d_Mod_siteGroup_0 : decode prog_12_method_110_code 0 = .ok (.iconst 0, 1) := by decide +kernel
theorem d_Mod_siteGroup_1 : decode prog_12_method_110_code 1 = .ok (.istore_n 2, 1) := by decide +kernel
theorem d_Mod_siteGroup_2 : decode prog_12_method_110_code 2 = .ok (.iload_n 2, 1) := by decide +kernel
theorem d_Mod_siteGroup_3 : decode prog_12_method_110_code 3 = .ok (.aload_n 0, 1) := by decide +kernel
theorem d_Mod_siteGroup_4 : decode prog_12_method_110_code 4 = .ok (.invokevirtual 270, 3) := by decide +kernel
theorem d_Mod_siteGroup_7 : decode prog_12_method_110_code 7 = .ok (.if_icmp .ge 29, 3) := by decide +kernel
theorem d_Mod_siteGroup_10 : decode prog_12_method_110_code 10 = .ok (.aload_n 0, 1) := by decide +kernel
theorem d_Mod_siteGroup_11 : decode prog_12_method_110_code 11 = .ok (.getfield 317, 3) := by decide +kernel
theorem d_Mod_siteGroup_14 : decode prog_12_method_110_code 14 = .ok (.iload_n 1, 1) := by decide +kernel
theorem d_Mod_siteGroup_15 : decode prog_12_method_110_code 15 = .ok (.iaload, 1) := by decide +kernel
theorem d_Mod_siteGroup_16 : decode prog_12_method_110_code 16 = .ok (.iload_n 2, 1) := by decide +kernel
theorem d_Mod_siteGroup_17 : decode prog_12_method_110_code 17 = .ok (.invokestatic 326, 3) := by decide +kernel
theorem d_Mod_siteGroup_20 : decode prog_12_method_110_code 20 = .ok (.ifCond .eq 10, 3) := by decide +kernel
theorem d_Mod_siteGroup_23 : decode prog_12_method_110_code 23 = .ok (.aload_n 0, 1) := by decide +kernel
theorem d_Mod_siteGroup_24 : decode prog_12_method_110_code 24 = .ok (.iconst 2, 1) := by decide +kernel
theorem d_Mod_siteGroup_25 : decode prog_12_method_110_code 25 = .ok (.iload_n 2, 1) := by decide +kernel
theorem d_Mod_siteGroup_26 : decode prog_12_method_110_code 26 = .ok (.invokevirtual 359, 3) := by decide +kernel
theorem d_Mod_siteGroup_29 : decode prog_12_method_110_code 29 = .ok (.ireturn, 1) := by decide +kernel
theorem d_Mod_siteGroup_30 : decode prog_12_method_110_code 30 = .ok (.iinc 2 1, 3) := by decide +kernel
theorem d_Mod_siteGroup_33 : decode prog_12_method_110_code 33 = .ok (.goto (-31), 3) := by decide +kernel
theorem d_Mod_siteGroup_36 : decode prog_12_method_110_code 36 = .ok (.iconst (-1), 1) := by decide +kernel
theorem d_Mod_siteGroup_37 : decode prog_12_method_110_code 37 = .ok (.ireturn, 1) := by decide +kernel
def fm_Mod_siteGroup_l2 (a1 : Int) (w : fa_W) : Nat → Int → Option Int
  | 0, _ => none
  | n + 1, x2 => if fa_wr (fm_Mod_functions w) ≤ fa_wr x2 then
  some (-1)
  else
  ((fa_ix a1 101).bind fun j3 =>
  if fm_Mod_holds (w 209 j3) x2 w = true then
  ((fm_Mod_groupAt 2 x2 w).bind fun v8 =>
  some v8)
  else
  (fa_let (x2 + 1) fun x2_6 =>
  fm_Mod_siteGroup_l2 a1 w n x2_6))
set_option maxHeartbeats 4000000 in
set_option maxRecDepth 100000 in
theorem c_Mod_siteGroup_l2 {p : Program} {l : Launch} {e : Env} {s : State} {m : MethodId} {args : Array Value} {below : List Frame} {meth : Method} {c : Code} {hh : Nat} {D : va_G} {b : Nat} {aC : Nat → ClassId} {H0 : Heap} {N T : Nat} (X : fa_GX p s m args meth c prog_12_method_110_code 3 ((Option.some Jvm.ClassFile.FieldType.int)) y_Mod_siteGroup.cls D b aC) (hle : 1 ≤ hh) (hN : fa_NM ≤ N) (hT : fa_TM ≤ T) (a1 : Int) {r : Int} (w : fa_W) : ∀ (n : Nat) (x2 : Int), fm_Mod_siteGroup_l2 a1 w n x2 = some r → fa_GJ p l e (fa_rm hh) s m args below meth c 0 0 (MQ below (fa_Qc D b aC H0 N T (some (.int (fa_I r))) w) args s 0 0 (fun q => b ≤ q)) D b aC H0 N T 3 w 2 [(0, .ref (b + 181)), (1, .int (fa_I a1)), (2, .int (fa_I x2))] [] := by
  intro n
  induction n with
  | zero => intro x2 hM; exact fa_no hM
  | succ n ih =>
    intro x2 hM
    rw [fm_Mod_siteGroup_l2] at hM
    refine g_iload_n X 2 rfl d_Mod_siteGroup_2 ?_
    refine g_aload_n X 0 rfl d_Mod_siteGroup_3 ?_
    refine g_callV_i X ck_10 fo_181 (fn_181 hN) rfl mi_Mod_functions (c_Mod_functions hN hT w _ rfl) wd_1644 rfl (Nat.le_trans (Nat.le_of_ble_eq_true rfl) hle) (st := [.int (fa_I x2)]) (Nat.le_of_ble_eq_true rfl) rfl d_Mod_siteGroup_4 ?_
    refine g_icmp_ge X 36 d_Mod_siteGroup_7 (by decide) (fun hc2 => ?_) (fun hc2 => ?_)
    · have hM := fa_if_t hM hc2
      refine g_iconst X d_Mod_siteGroup_36 ?_
      cases hM
      exact g_iret X d_Mod_siteGroup_37
    · have hM := fa_if_f hM hc2
      refine g_aload_n X 0 rfl d_Mod_siteGroup_10 ?_
      refine g_get X ck_10 fo_181 (fn_181 hN) 48 (by decide) wd_1789 rfl (fr_181_48 rfl hT) d_Mod_siteGroup_11 ?_
      refine g_iload_n X 1 rfl d_Mod_siteGroup_14 ?_
      obtain ⟨j3, ej3, hM⟩ := fa_ob hM
      refine g_iald X fs_209 (fn_209 hN) ej3 d_Mod_siteGroup_15 ?_
      refine g_iload_n X 2 rfl d_Mod_siteGroup_16 ?_
      refine g_callS_i X mi_Mod_holds (c_Mod_holds hN hT (w 209 j3) x2 w _ rfl) wd_1691 rfl (Nat.le_trans (Nat.le_of_ble_eq_true rfl) hle) (st := []) (Nat.le_of_ble_eq_true rfl) rfl d_Mod_siteGroup_17 ?_
      refine g_ifb_eq X 30 d_Mod_siteGroup_20 (by decide) (fun hc5 => ?_) (fun hc5 => ?_)
      · have hM := fa_ifb_f hM hc5
        refine g_iinc X 2 (fun x2_6 => [(2, .int (fa_I x2_6)), (0, .ref (b + 181)), (1, .int (fa_I a1))]) d_Mod_siteGroup_30 rfl (by decide) (fun _ => rfl) (fun x2_6 ex2_6 => ?_)
        have hM := fa_let_to hM ex2_6
        refine g_goto X 2 d_Mod_siteGroup_33 (by decide) ?_
        exact g_lv [1, 2, 0] rfl (ih _ hM)
      · have hM := fa_ifb_t hM hc5
        refine g_aload_n X 0 rfl d_Mod_siteGroup_23 ?_
        refine g_iconst X d_Mod_siteGroup_24 ?_
        refine g_iload_n X 2 rfl d_Mod_siteGroup_25 ?_
        obtain ⟨v8, e7, hM⟩ := fa_ob hM
        refine g_callV_i X ck_10 fo_181 (fn_181 hN) rfl mi_Mod_groupAt (c_Mod_groupAt hN hT 2 x2 w _ e7) wd_1710 rfl (Nat.le_trans (Nat.le_of_ble_eq_true rfl) hle) (st := []) (Nat.le_of_ble_eq_true rfl) rfl d_Mod_siteGroup_26 ?_
        cases hM
        exact g_iret X d_Mod_siteGroup_29
def fm_Mod_siteGroup (a1 : Int) (w : fa_W) : Option Int :=
  fm_Mod_siteGroup_l2 a1 w fa_FU 0
set_option maxHeartbeats 4000000 in
set_option maxRecDepth 100000 in
theorem c_Mod_siteGroup {l : Launch} {D : va_G} {b : Nat} {aC : Nat → ClassId} {H0 : Heap} {N T : Nat} (hN : fa_NM ≤ N) (hT : fa_TM ≤ T) (a1 : Int)  (w : fa_W) (r : Int) (hM : fm_Mod_siteGroup a1 w = some r) : fa_MC l D b aC H0 N T y_Mod_siteGroup prog_12_method_110_code 3 ((Option.some Jvm.ClassFile.FieldType.int)) (1) [.ref (b + 181), .int (fa_I a1)] w (some (.int (fa_I r))) w := by
  refine fa_enter (lv := [(0, .ref (b + 181)), (1, .int (fa_I a1))]) (by decide +kernel) (Nat.le_of_ble_eq_true rfl) rfl (fun hh hle hnm X => ?_)
  unfold fm_Mod_siteGroup at hM
  refine g_iconst X d_Mod_siteGroup_0 ?_
  refine g_istorec_n X [(2, .int (fa_I 0)), (0, .ref (b + 181)), (1, .int (fa_I a1))] d_Mod_siteGroup_1 (by decide) rfl ?_
  exact g_lv [1, 2, 0] rfl (c_Mod_siteGroup_l2 X hle hN hT a1 w  fa_FU _ hM)
