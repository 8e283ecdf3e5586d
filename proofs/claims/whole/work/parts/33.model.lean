theorem d_Mod_looksAtSite_0 : decode prog_12_method_53_code 0 = .ok (.aload_n 0, 1) := by decide +kernel
theorem d_Mod_looksAtSite_1 : decode prog_12_method_53_code 1 = .ok (.getfield 313, 3) := by decide +kernel
theorem d_Mod_looksAtSite_4 : decode prog_12_method_53_code 4 = .ok (.iload_n 1, 1) := by decide +kernel
theorem d_Mod_looksAtSite_5 : decode prog_12_method_53_code 5 = .ok (.iconst 1, 1) := by decide +kernel
theorem d_Mod_looksAtSite_6 : decode prog_12_method_53_code 6 = .ok (.bastore, 1) := by decide +kernel
theorem d_Mod_looksAtSite_7 : decode prog_12_method_53_code 7 = .ok (.aload_n 0, 1) := by decide +kernel
theorem d_Mod_looksAtSite_8 : decode prog_12_method_53_code 8 = .ok (.getfield 317, 3) := by decide +kernel
theorem d_Mod_looksAtSite_11 : decode prog_12_method_53_code 11 = .ok (.iload_n 1, 1) := by decide +kernel
theorem d_Mod_looksAtSite_12 : decode prog_12_method_53_code 12 = .ok (.iload_n 2, 1) := by decide +kernel
theorem d_Mod_looksAtSite_13 : decode prog_12_method_53_code 13 = .ok (.iastore, 1) := by decide +kernel
theorem d_Mod_looksAtSite_14 : decode prog_12_method_53_code 14 = .ok (.aload_n 0, 1) := by decide +kernel
theorem d_Mod_looksAtSite_15 : decode prog_12_method_53_code 15 = .ok (.getfield 320, 3) := by decide +kernel
theorem d_Mod_looksAtSite_18 : decode prog_12_method_53_code 18 = .ok (.iload_n 1, 1) := by decide +kernel
theorem d_Mod_looksAtSite_19 : decode prog_12_method_53_code 19 = .ok (.iload_n 3, 1) := by decide +kernel
theorem d_Mod_looksAtSite_20 : decode prog_12_method_53_code 20 = .ok (.iastore, 1) := by decide +kernel
theorem d_Mod_looksAtSite_21 : decode prog_12_method_53_code 21 = .ok (.aload_n 0, 1) := by decide +kernel
theorem d_Mod_looksAtSite_22 : decode prog_12_method_53_code 22 = .ok (.aload_n 0, 1) := by decide +kernel
theorem d_Mod_looksAtSite_23 : decode prog_12_method_53_code 23 = .ok (.aload_n 0, 1) := by decide +kernel
theorem d_Mod_looksAtSite_24 : decode prog_12_method_53_code 24 = .ok (.getfield 323, 3) := by decide +kernel
theorem d_Mod_looksAtSite_27 : decode prog_12_method_53_code 27 = .ok (.iload_n 2, 1) := by decide +kernel
theorem d_Mod_looksAtSite_28 : decode prog_12_method_53_code 28 = .ok (.invokevirtual 303, 3) := by decide +kernel
theorem d_Mod_looksAtSite_31 : decode prog_12_method_53_code 31 = .ok (.putfield 323, 3) := by decide +kernel
theorem d_Mod_looksAtSite_34 : decode prog_12_method_53_code 34 = .ok (.iconst 0, 1) := by decide +kernel
theorem d_Mod_looksAtSite_35 : decode prog_12_method_53_code 35 = .ok (.istore 4, 2) := by decide +kernel
theorem d_Mod_looksAtSite_37 : decode prog_12_method_53_code 37 = .ok (.iconst 0, 1) := by decide +kernel
theorem d_Mod_looksAtSite_38 : decode prog_12_method_53_code 38 = .ok (.istore 5, 2) := by decide +kernel
theorem d_Mod_looksAtSite_40 : decode prog_12_method_53_code 40 = .ok (.iload 5, 2) := by decide +kernel
theorem d_Mod_looksAtSite_42 : decode prog_12_method_53_code 42 = .ok (.aload_n 0, 1) := by decide +kernel
theorem d_Mod_looksAtSite_43 : decode prog_12_method_53_code 43 = .ok (.invokevirtual 270, 3) := by decide +kernel
theorem d_Mod_looksAtSite_46 : decode prog_12_method_53_code 46 = .ok (.if_icmp .ge 52, 3) := by decide +kernel
theorem d_Mod_looksAtSite_49 : decode prog_12_method_53_code 49 = .ok (.iload_n 2, 1) := by decide +kernel
theorem d_Mod_looksAtSite_50 : decode prog_12_method_53_code 50 = .ok (.iload 5, 2) := by decide +kernel
theorem d_Mod_looksAtSite_52 : decode prog_12_method_53_code 52 = .ok (.invokestatic 326, 3) := by decide +kernel
theorem d_Mod_looksAtSite_55 : decode prog_12_method_53_code 55 = .ok (.ifCond .ne 6, 3) := by decide +kernel
theorem d_Mod_looksAtSite_58 : decode prog_12_method_53_code 58 = .ok (.goto 34, 3) := by decide +kernel
theorem d_Mod_looksAtSite_61 : decode prog_12_method_53_code 61 = .ok (.aload_n 0, 1) := by decide +kernel
theorem d_Mod_looksAtSite_62 : decode prog_12_method_53_code 62 = .ok (.getfield 297, 3) := by decide +kernel
theorem d_Mod_looksAtSite_65 : decode prog_12_method_53_code 65 = .ok (.iload 5, 2) := by decide +kernel
theorem d_Mod_looksAtSite_67 : decode prog_12_method_53_code 67 = .ok (.aload_n 0, 1) := by decide +kernel
theorem d_Mod_looksAtSite_68 : decode prog_12_method_53_code 68 = .ok (.aload_n 0, 1) := by decide +kernel
theorem d_Mod_looksAtSite_69 : decode prog_12_method_53_code 69 = .ok (.getfield 297, 3) := by decide +kernel
theorem d_Mod_looksAtSite_72 : decode prog_12_method_53_code 72 = .ok (.iload 5, 2) := by decide +kernel
theorem d_Mod_looksAtSite_74 : decode prog_12_method_53_code 74 = .ok (.iaload, 1) := by decide +kernel
theorem d_Mod_looksAtSite_75 : decode prog_12_method_53_code 75 = .ok (.iload_n 3, 1) := by decide +kernel
theorem d_Mod_looksAtSite_76 : decode prog_12_method_53_code 76 = .ok (.invokevirtual 303, 3) := by decide +kernel
theorem d_Mod_looksAtSite_79 : decode prog_12_method_53_code 79 = .ok (.iastore, 1) := by decide +kernel
theorem d_Mod_looksAtSite_80 : decode prog_12_method_53_code 80 = .ok (.iload 4, 2) := by decide +kernel
theorem d_Mod_looksAtSite_82 : decode prog_12_method_53_code 82 = .ok (.aload_n 0, 1) := by decide +kernel
theorem d_Mod_looksAtSite_83 : decode prog_12_method_53_code 83 = .ok (.getfield 329, 3) := by decide +kernel
theorem d_Mod_looksAtSite_86 : decode prog_12_method_53_code 86 = .ok (.iload 5, 2) := by decide +kernel
theorem d_Mod_looksAtSite_88 : decode prog_12_method_53_code 88 = .ok (.iaload, 1) := by decide +kernel
theorem d_Mod_looksAtSite_89 : decode prog_12_method_53_code 89 = .ok (.ior, 1) := by decide +kernel
theorem d_Mod_looksAtSite_90 : decode prog_12_method_53_code 90 = .ok (.istore 4, 2) := by decide +kernel
theorem d_Mod_looksAtSite_92 : decode prog_12_method_53_code 92 = .ok (.iinc 5 1, 3) := by decide +kernel
theorem d_Mod_looksAtSite_95 : decode prog_12_method_53_code 95 = .ok (.goto (-55), 3) := by decide +kernel
theorem d_Mod_looksAtSite_98 : decode prog_12_method_53_code 98 = .ok (.aload_n 0, 1) := by decide +kernel
theorem d_Mod_looksAtSite_99 : decode prog_12_method_53_code 99 = .ok (.getfield 332, 3) := by decide +kernel
theorem d_Mod_looksAtSite_102 : decode prog_12_method_53_code 102 = .ok (.iload_n 1, 1) := by decide +kernel
theorem d_Mod_looksAtSite_103 : decode prog_12_method_53_code 103 = .ok (.iload 4, 2) := by decide +kernel
theorem d_Mod_looksAtSite_105 : decode prog_12_method_53_code 105 = .ok (.iastore, 1) := by decide +kernel
theorem d_Mod_looksAtSite_106 : decode prog_12_method_53_code 106 = .ok (.iload 4, 2) := by decide +kernel
theorem d_Mod_looksAtSite_108 : decode prog_12_method_53_code 108 = .ok (.ireturn, 1) := by decide +kernel
def fm_Mod_looksAtSite_l40 (a1 : Int) (a2 : Int) (a3 : Int) : Nat → Int → Int → fa_W → Option (Int × fa_W)
  | 0, _, _, _ => none
  | n + 1, x4, x5, w => if fa_wr (fm_Mod_functions w) ≤ fa_wr x5 then
  ((fa_ix a1 101).bind fun j13 =>
  fa_let (fa_st w 211 j13 x4) fun w14 =>
  some (x4, w14))
  else
  (if fm_Mod_holds a2 x5 w = true then
  ((fa_ix x5 124).bind fun j17 =>
  fa_bd (fm_Mod_more (w 207 j17) a3 w) fun v19 w20 =>
  (fa_ix x5 124).bind fun j21 =>
  fa_let (fa_st w20 207 j21 v19) fun w22 =>
  (fa_ix x5 24).bind fun j23 =>
  fa_let (fa_ior x4 (w22 208 j23)) fun x4_24 =>
  fa_let (x5 + 1) fun x5_25 =>
  fm_Mod_looksAtSite_l40 a1 a2 a3 n x4_24 x5_25 w22)
  else
  (fa_let (x5 + 1) fun x5_26 =>
  fm_Mod_looksAtSite_l40 a1 a2 a3 n x4 x5_26 w))
set_option maxHeartbeats 4000000 in
set_option maxRecDepth 100000 in
theorem c_Mod_looksAtSite_l40 {p : Program} {l : Launch} {e : Env} {s : State} {m : MethodId} {args : Array Value} {below : List Frame} {meth : Method} {c : Code} {hh : Nat} {D : va_G} {b : Nat} {aC : Nat → ClassId} {H0 : Heap} {N T : Nat} (X : fa_GX p s m args meth c prog_12_method_53_code 6 ((Option.some Jvm.ClassFile.FieldType.int)) y_Mod_looksAtSite.cls D b aC) (hle : 2 ≤ hh) (hN : fa_NM ≤ N) (hT : fa_TM ≤ T) (a1 : Int) (a2 : Int) (a3 : Int) {r : Int × fa_W}  : ∀ (n : Nat) (x4 : Int) (x5 : Int) (w : fa_W), fm_Mod_looksAtSite_l40 a1 a2 a3 n x4 x5 w = some r → fa_GJ p l e (fa_rm hh) s m args below meth c 0 0 (MQ below (fa_Qc D b aC H0 N T (some (.int (fa_I r.1))) r.2) args s 0 0 (fun q => b ≤ q)) D b aC H0 N T 6 w 40 [(0, .ref (b + 181)), (1, .int (fa_I a1)), (2, .int (fa_I a2)), (3, .int (fa_I a3)), (4, .int (fa_I x4)), (5, .int (fa_I x5))] [] := by
  intro n
  induction n with
  | zero => intro x4 x5 w hM; exact fa_no hM
  | succ n ih =>
    intro x4 x5 w hM
    rw [fm_Mod_looksAtSite_l40] at hM
    refine g_iload X 5 rfl d_Mod_looksAtSite_40 ?_
    refine g_aload_n X 0 rfl d_Mod_looksAtSite_42 ?_
    refine g_callV_i X ck_10 fo_181 (fn_181 hN) rfl mi_Mod_functions (c_Mod_functions hN hT w _ rfl) wd_1644 rfl (Nat.le_trans (Nat.le_of_ble_eq_true rfl) hle) (st := [.int (fa_I x5)]) (Nat.le_of_ble_eq_true rfl) rfl d_Mod_looksAtSite_43 ?_
    refine g_icmp_ge X 98 d_Mod_looksAtSite_46 (by decide) (fun hc12 => ?_) (fun hc12 => ?_)
    · have hM := fa_if_t hM hc12
      refine g_aload_n X 0 rfl d_Mod_looksAtSite_98 ?_
      refine g_get X ck_10 fo_181 (fn_181 hN) 50 (by decide) wd_1791 rfl (fr_181_50 rfl hT) d_Mod_looksAtSite_99 ?_
      refine g_iload_n X 1 rfl d_Mod_looksAtSite_102 ?_
      refine g_iload X 4 rfl d_Mod_looksAtSite_103 ?_
      obtain ⟨j13, ej13, hM⟩ := fa_ob hM
      refine g_iast X fs_211 (fn_211 hN) ej13 d_Mod_looksAtSite_105 (fun w14 ew14 => ?_)
      have hM := fa_let_to hM ew14
      refine g_iload X 4 rfl d_Mod_looksAtSite_106 ?_
      cases hM
      exact g_iret X d_Mod_looksAtSite_108
    · have hM := fa_if_f hM hc12
      refine g_iload_n X 2 rfl d_Mod_looksAtSite_49 ?_
      refine g_iload X 5 rfl d_Mod_looksAtSite_50 ?_
      refine g_callS_i X mi_Mod_holds (c_Mod_holds hN hT a2 x5 w _ rfl) wd_1691 rfl (Nat.le_trans (Nat.le_of_ble_eq_true rfl) hle) (st := []) (Nat.le_of_ble_eq_true rfl) rfl d_Mod_looksAtSite_52 ?_
      refine g_ifb_ne X 61 d_Mod_looksAtSite_55 (by decide) (fun hc16 => ?_) (fun hc16 => ?_)
      · have hM := fa_ifb_t hM hc16
        refine g_aload_n X 0 rfl d_Mod_looksAtSite_61 ?_
        refine g_get X ck_10 fo_181 (fn_181 hN) 46 (by decide) wd_1787 rfl (fr_181_46 rfl hT) d_Mod_looksAtSite_62 ?_
        refine g_iload X 5 rfl d_Mod_looksAtSite_65 ?_
        refine g_aload_n X 0 rfl d_Mod_looksAtSite_67 ?_
        refine g_aload_n X 0 rfl d_Mod_looksAtSite_68 ?_
        refine g_get X ck_10 fo_181 (fn_181 hN) 46 (by decide) wd_1787 rfl (fr_181_46 rfl hT) d_Mod_looksAtSite_69 ?_
        refine g_iload X 5 rfl d_Mod_looksAtSite_72 ?_
        obtain ⟨j17, ej17, hM⟩ := fa_ob hM
        refine g_iald X fs_207 (fn_207 hN) ej17 d_Mod_looksAtSite_74 ?_
        refine g_iload_n X 3 rfl d_Mod_looksAtSite_75 ?_
        obtain ⟨v19, w20, e18, hM⟩ := fa_obd hM
        refine g_callV_i X ck_10 fo_181 (fn_181 hN) rfl mi_Mod_more (c_Mod_more hN hT (w 207 j17) a3 w _ e18) wd_1680 rfl (Nat.le_trans (Nat.le_of_ble_eq_true rfl) hle) (st := [.int (fa_I x5), .ref (b + 207)]) (Nat.le_of_ble_eq_true rfl) rfl d_Mod_looksAtSite_76 ?_
        obtain ⟨j21, ej21, hM⟩ := fa_ob hM
        refine g_iast X fs_207 (fn_207 hN) ej21 d_Mod_looksAtSite_79 (fun w22 ew22 => ?_)
        have hM := fa_let_to hM ew22
        refine g_iload X 4 rfl d_Mod_looksAtSite_80 ?_
        refine g_aload_n X 0 rfl d_Mod_looksAtSite_82 ?_
        refine g_get X ck_10 fo_181 (fn_181 hN) 47 (by decide) wd_1788 rfl (fr_181_47 rfl hT) d_Mod_looksAtSite_83 ?_
        refine g_iload X 5 rfl d_Mod_looksAtSite_86 ?_
        obtain ⟨j23, ej23, hM⟩ := fa_ob hM
        refine g_iald X fs_208 (fn_208 hN) ej23 d_Mod_looksAtSite_88 ?_
        refine g_ior X d_Mod_looksAtSite_89 ?_
        refine g_istore X (fun x4_24 => [(4, .int (fa_I x4_24)), (0, .ref (b + 181)), (1, .int (fa_I a1)), (2, .int (fa_I a2)), (3, .int (fa_I a3)), (5, .int (fa_I x5))]) d_Mod_looksAtSite_90 (by decide) (fun _ => rfl) (fun x4_24 ex4_24 => ?_)
        have hM := fa_let_to hM ex4_24
        refine g_iinc X 5 (fun x5_25 => [(5, .int (fa_I x5_25)), (4, .int (fa_I x4_24)), (0, .ref (b + 181)), (1, .int (fa_I a1)), (2, .int (fa_I a2)), (3, .int (fa_I a3))]) d_Mod_looksAtSite_92 rfl (by decide) (fun _ => rfl) (fun x5_25 ex5_25 => ?_)
        have hM := fa_let_to hM ex5_25
        refine g_goto X 40 d_Mod_looksAtSite_95 (by decide) ?_
        exact g_lv [2, 3, 4, 5, 1, 0] rfl (ih _ _ _ hM)
      · have hM := fa_ifb_f hM hc16
        refine g_goto X 92 d_Mod_looksAtSite_58 (by decide) ?_
        refine g_iinc X 5 (fun x5_26 => [(5, .int (fa_I x5_26)), (0, .ref (b + 181)), (1, .int (fa_I a1)), (2, .int (fa_I a2)), (3, .int (fa_I a3)), (4, .int (fa_I x4))]) d_Mod_looksAtSite_92 rfl (by decide) (fun _ => rfl) (fun x5_26 ex5_26 => ?_)
        have hM := fa_let_to hM ex5_26
        refine g_goto X 40 d_Mod_looksAtSite_95 (by decide) ?_
        exact g_lv [1, 2, 3, 4, 5, 0] rfl (ih _ _ _ hM)
def fm_Mod_looksAtSite (a1 : Int) (a2 : Int) (a3 : Int) (w : fa_W) : Option (Int × fa_W) :=
  (fa_ix a1 101).bind fun j1 =>
  fa_let (fa_st w 212 j1 (fa_bi true)) fun w2 =>
  (fa_ix a1 101).bind fun j3 =>
  fa_let (fa_st w2 209 j3 a2) fun w4 =>
  (fa_ix a1 101).bind fun j5 =>
  fa_let (fa_st w4 210 j5 a3) fun w6 =>
  fa_bd (fm_Mod_more (w6 181 53) a2 w6) fun v8 w9 =>
  fa_let (fa_st w9 181 53 v8) fun w10 =>
  fm_Mod_looksAtSite_l40 a1 a2 a3 fa_FU 0 0 w10
set_option maxHeartbeats 4000000 in
set_option maxRecDepth 100000 in
theorem c_Mod_looksAtSite {l : Launch} {D : va_G} {b : Nat} {aC : Nat → ClassId} {H0 : Heap} {N T : Nat} (hN : fa_NM ≤ N) (hT : fa_TM ≤ T) (a1 : Int) (a2 : Int) (a3 : Int)  (w : fa_W) (r : Int × fa_W) (hM : fm_Mod_looksAtSite a1 a2 a3 w = some r) : fa_MC l D b aC H0 N T y_Mod_looksAtSite prog_12_method_53_code 6 ((Option.some Jvm.ClassFile.FieldType.int)) (2) [.ref (b + 181), .int (fa_I a1), .int (fa_I a2), .int (fa_I a3)] w (some (.int (fa_I r.1))) r.2 := by
  refine fa_enter (lv := [(0, .ref (b + 181)), (1, .int (fa_I a1)), (2, .int (fa_I a2)), (3, .int (fa_I a3))]) (by decide +kernel) (Nat.le_of_ble_eq_true rfl) rfl (fun hh hle hnm X => ?_)
  unfold fm_Mod_looksAtSite at hM
  refine g_aload_n X 0 rfl d_Mod_looksAtSite_0 ?_
  refine g_get X ck_10 fo_181 (fn_181 hN) 51 (by decide) wd_1792 rfl (fr_181_51 rfl hT) d_Mod_looksAtSite_1 ?_
  refine g_iload_n X 1 rfl d_Mod_looksAtSite_4 ?_
  refine g_iconst X d_Mod_looksAtSite_5 ?_
  obtain ⟨j1, ej1, hM⟩ := fa_ob hM
  refine g_zast X (B := true) fs_212 (fn_212 hN) ej1 d_Mod_looksAtSite_6 (fun w2 ew2 => ?_)
  have hM := fa_let_to hM ew2
  refine g_aload_n X 0 rfl d_Mod_looksAtSite_7 ?_
  refine g_get X ck_10 fo_181 (fn_181 hN) 48 (by decide) wd_1789 rfl (fr_181_48 rfl hT) d_Mod_looksAtSite_8 ?_
  refine g_iload_n X 1 rfl d_Mod_looksAtSite_11 ?_
  refine g_iload_n X 2 rfl d_Mod_looksAtSite_12 ?_
  obtain ⟨j3, ej3, hM⟩ := fa_ob hM
  refine g_iast X fs_209 (fn_209 hN) ej3 d_Mod_looksAtSite_13 (fun w4 ew4 => ?_)
  have hM := fa_let_to hM ew4
  refine g_aload_n X 0 rfl d_Mod_looksAtSite_14 ?_
  refine g_get X ck_10 fo_181 (fn_181 hN) 49 (by decide) wd_1790 rfl (fr_181_49 rfl hT) d_Mod_looksAtSite_15 ?_
  refine g_iload_n X 1 rfl d_Mod_looksAtSite_18 ?_
  refine g_iload_n X 3 rfl d_Mod_looksAtSite_19 ?_
  obtain ⟨j5, ej5, hM⟩ := fa_ob hM
  refine g_iast X fs_210 (fn_210 hN) ej5 d_Mod_looksAtSite_20 (fun w6 ew6 => ?_)
  have hM := fa_let_to hM ew6
  refine g_aload_n X 0 rfl d_Mod_looksAtSite_21 ?_
  refine g_aload_n X 0 rfl d_Mod_looksAtSite_22 ?_
  refine g_aload_n X 0 rfl d_Mod_looksAtSite_23 ?_
  refine g_get X ck_10 fo_181 (fn_181 hN) 53 (by decide) wd_1794 rfl (fa_fvI rfl) d_Mod_looksAtSite_24 ?_
  refine g_iload_n X 2 rfl d_Mod_looksAtSite_27 ?_
  obtain ⟨v8, w9, e7, hM⟩ := fa_obd hM
  refine g_callV_i X ck_10 fo_181 (fn_181 hN) rfl mi_Mod_more (c_Mod_more hN hT (w6 181 53) a2 w6 _ e7) wd_1680 rfl (Nat.le_trans (Nat.le_of_ble_eq_true rfl) hle) (st := [.ref (b + 181)]) (Nat.le_of_ble_eq_true rfl) rfl d_Mod_looksAtSite_28 ?_
  refine g_put X ck_10 fo_181 (fn_181 hN) 53 (z := v8) (by decide) wd_1794 rfl (fa_fvI' rfl) rfl rfl rfl d_Mod_looksAtSite_31 (fun w10 ew10 => ?_)
  have hM := fa_let_to hM ew10
  refine g_iconst X d_Mod_looksAtSite_34 ?_
  refine g_istorec X [(4, .int (fa_I 0)), (0, .ref (b + 181)), (1, .int (fa_I a1)), (2, .int (fa_I a2)), (3, .int (fa_I a3))] d_Mod_looksAtSite_35 (by decide) rfl ?_
  refine g_iconst X d_Mod_looksAtSite_37 ?_
  refine g_istorec X [(5, .int (fa_I 0)), (4, .int (fa_I 0)), (0, .ref (b + 181)), (1, .int (fa_I a1)), (2, .int (fa_I a2)), (3, .int (fa_I a3))] d_Mod_looksAtSite_38 (by decide) rfl ?_
  exact g_lv [2, 3, 4, 5, 1, 0] rfl (c_Mod_looksAtSite_l40 X hle hN hT a1 a2 a3   fa_FU _ _ _ hM)
theorem d_Mod_looks_0 : decode prog_12_method_52_code 0 = .ok (.aload_n 0, 1) := by decide +kernel
theorem d_Mod_looks_1 : decode prog_12_method_52_code 1 = .ok (.getfield 88, 3) := by decide +kernel
theorem d_Mod_looks_4 : decode prog_12_method_52_code 4 = .ok (.iload_n 1, 1) := by decide +kernel
theorem d_Mod_looks_5 : decode prog_12_method_52_code 5 = .ok (.iaload, 1) := by decide +kernel
theorem d_Mod_looks_6 : decode prog_12_method_52_code 6 = .ok (.tableswitch 230 1 8 #[46, 58, 230, 58, 87, 122, 173, 199], 46) := by decide +kernel
theorem d_Mod_looks_52 : decode prog_12_method_52_code 52 = .ok (.aload_n 0, 1) := by decide +kernel
theorem d_Mod_looks_53 : decode prog_12_method_52_code 53 = .ok (.getfield 297, 3) := by decide +kernel
theorem d_Mod_looks_56 : decode prog_12_method_52_code 56 = .ok (.aload_n 0, 1) := by decide +kernel
theorem d_Mod_looks_57 : decode prog_12_method_52_code 57 = .ok (.getfield 94, 3) := by decide +kernel
theorem d_Mod_looks_60 : decode prog_12_method_52_code 60 = .ok (.iload_n 1, 1) := by decide +kernel
theorem d_Mod_looks_61 : decode prog_12_method_52_code 61 = .ok (.iaload, 1) := by decide +kernel
theorem d_Mod_looks_62 : decode prog_12_method_52_code 62 = .ok (.iaload, 1) := by decide +kernel
theorem d_Mod_looks_63 : decode prog_12_method_52_code 63 = .ok (.ireturn, 1) := by decide +kernel
theorem d_Mod_looks_64 : decode prog_12_method_52_code 64 = .ok (.aload_n 0, 1) := by decide +kernel
theorem d_Mod_looks_65 : decode prog_12_method_52_code 65 = .ok (.aload_n 0, 1) := by decide +kernel
theorem d_Mod_looks_66 : decode prog_12_method_52_code 66 = .ok (.aload_n 0, 1) := by decide +kernel
theorem d_Mod_looks_67 : decode prog_12_method_52_code 67 = .ok (.getfield 300, 3) := by decide +kernel
theorem d_Mod_looks_70 : decode prog_12_method_52_code 70 = .ok (.iconst 1, 1) := by decide +kernel
theorem d_Mod_looks_71 : decode prog_12_method_52_code 71 = .ok (.aload_n 0, 1) := by decide +kernel
theorem d_Mod_looks_72 : decode prog_12_method_52_code 72 = .ok (.getfield 94, 3) := by decide +kernel
theorem d_Mod_looks_75 : decode prog_12_method_52_code 75 = .ok (.iload_n 1, 1) := by decide +kernel
theorem d_Mod_looks_76 : decode prog_12_method_52_code 76 = .ok (.iaload, 1) := by decide +kernel
theorem d_Mod_looks_77 : decode prog_12_method_52_code 77 = .ok (.ishl, 1) := by decide +kernel
theorem d_Mod_looks_78 : decode prog_12_method_52_code 78 = .ok (.invokevirtual 303, 3) := by decide +kernel
theorem d_Mod_looks_81 : decode prog_12_method_52_code 81 = .ok (.putfield 300, 3) := by decide +kernel
theorem d_Mod_looks_84 : decode prog_12_method_52_code 84 = .ok (.iconst 1, 1) := by decide +kernel
theorem d_Mod_looks_85 : decode prog_12_method_52_code 85 = .ok (.aload_n 0, 1) := by decide +kernel
theorem d_Mod_looks_86 : decode prog_12_method_52_code 86 = .ok (.getfield 94, 3) := by decide +kernel
theorem d_Mod_looks_89 : decode prog_12_method_52_code 89 = .ok (.iload_n 1, 1) := by decide +kernel
theorem d_Mod_looks_90 : decode prog_12_method_52_code 90 = .ok (.iaload, 1) := by decide +kernel
theorem d_Mod_looks_91 : decode prog_12_method_52_code 91 = .ok (.ishl, 1) := by decide +kernel
theorem d_Mod_looks_92 : decode prog_12_method_52_code 92 = .ok (.ireturn, 1) := by decide +kernel
theorem d_Mod_looks_93 : decode prog_12_method_52_code 93 = .ok (.aload_n 0, 1) := by decide +kernel
theorem d_Mod_looks_94 : decode prog_12_method_52_code 94 = .ok (.aload_n 0, 1) := by decide +kernel
theorem d_Mod_looks_95 : decode prog_12_method_52_code 95 = .ok (.getfield 94, 3) := by decide +kernel
theorem d_Mod_looks_98 : decode prog_12_method_52_code 98 = .ok (.iload_n 1, 1) := by decide +kernel
theorem d_Mod_looks_99 : decode prog_12_method_52_code 99 = .ok (.iaload, 1) := by decide +kernel
theorem d_Mod_looks_100 : decode prog_12_method_52_code 100 = .ok (.invokevirtual 307, 3) := by decide +kernel
theorem d_Mod_looks_103 : decode prog_12_method_52_code 103 = .ok (.istore_n 2, 1) := by decide +kernel
theorem d_Mod_looks_104 : decode prog_12_method_52_code 104 = .ok (.aload_n 0, 1) := by decide +kernel
theorem d_Mod_looks_105 : decode prog_12_method_52_code 105 = .ok (.aload_n 0, 1) := by decide +kernel
theorem d_Mod_looks_106 : decode prog_12_method_52_code 106 = .ok (.getfield 97, 3) := by decide +kernel
theorem d_Mod_looks_109 : decode prog_12_method_52_code 109 = .ok (.iload_n 1, 1) := by decide +kernel
theorem d_Mod_looks_110 : decode prog_12_method_52_code 110 = .ok (.iaload, 1) := by decide +kernel
theorem d_Mod_looks_111 : decode prog_12_method_52_code 111 = .ok (.invokevirtual 307, 3) := by decide +kernel
theorem d_Mod_looks_114 : decode prog_12_method_52_code 114 = .ok (.istore_n 3, 1) := by decide +kernel
theorem d_Mod_looks_115 : decode prog_12_method_52_code 115 = .ok (.iload_n 3, 1) := by decide +kernel
theorem d_Mod_looks_116 : decode prog_12_method_52_code 116 = .ok (.aload_n 0, 1) := by decide +kernel
theorem d_Mod_looks_117 : decode prog_12_method_52_code 117 = .ok (.aload_n 0, 1) := by decide +kernel
theorem d_Mod_looks_118 : decode prog_12_method_52_code 118 = .ok (.getfield 100, 3) := by decide +kernel
theorem d_Mod_looks_121 : decode prog_12_method_52_code 121 = .ok (.iload_n 1, 1) := by decide +kernel
theorem d_Mod_looks_122 : decode prog_12_method_52_code 122 = .ok (.iaload, 1) := by decide +kernel
theorem d_Mod_looks_123 : decode prog_12_method_52_code 123 = .ok (.invokevirtual 307, 3) := by decide +kernel
theorem d_Mod_looks_126 : decode prog_12_method_52_code 126 = .ok (.ior, 1) := by decide +kernel
theorem d_Mod_looks_127 : decode prog_12_method_52_code 127 = .ok (.ireturn, 1) := by decide +kernel
theorem d_Mod_looks_128 : decode prog_12_method_52_code 128 = .ok (.aload_n 0, 1) := by decide +kernel
theorem d_Mod_looks_129 : decode prog_12_method_52_code 129 = .ok (.aload_n 0, 1) := by decide +kernel
theorem d_Mod_looks_130 : decode prog_12_method_52_code 130 = .ok (.getfield 94, 3) := by decide +kernel
theorem d_Mod_looks_133 : decode prog_12_method_52_code 133 = .ok (.iload_n 1, 1) := by decide +kernel
theorem d_Mod_looks_134 : decode prog_12_method_52_code 134 = .ok (.iaload, 1) := by decide +kernel
theorem d_Mod_looks_135 : decode prog_12_method_52_code 135 = .ok (.invokevirtual 307, 3) := by decide +kernel
theorem d_Mod_looks_138 : decode prog_12_method_52_code 138 = .ok (.istore 4, 2) := by decide +kernel
theorem d_Mod_looks_140 : decode prog_12_method_52_code 140 = .ok (.aload_n 0, 1) := by decide +kernel
theorem d_Mod_looks_141 : decode prog_12_method_52_code 141 = .ok (.getfield 297, 3) := by decide +kernel
theorem d_Mod_looks_144 : decode prog_12_method_52_code 144 = .ok (.aload_n 0, 1) := by decide +kernel
theorem d_Mod_looks_145 : decode prog_12_method_52_code 145 = .ok (.getfield 100, 3) := by decide +kernel
theorem d_Mod_looks_148 : decode prog_12_method_52_code 148 = .ok (.iload_n 1, 1) := by decide +kernel
theorem d_Mod_looks_149 : decode prog_12_method_52_code 149 = .ok (.iaload, 1) := by decide +kernel
theorem d_Mod_looks_150 : decode prog_12_method_52_code 150 = .ok (.aload_n 0, 1) := by decide +kernel
theorem d_Mod_looks_151 : decode prog_12_method_52_code 151 = .ok (.aload_n 0, 1) := by decide +kernel
theorem d_Mod_looks_152 : decode prog_12_method_52_code 152 = .ok (.getfield 297, 3) := by decide +kernel
theorem d_Mod_looks_155 : decode prog_12_method_52_code 155 = .ok (.aload_n 0, 1) := by decide +kernel
theorem d_Mod_looks_156 : decode prog_12_method_52_code 156 = .ok (.getfield 100, 3) := by decide +kernel
theorem d_Mod_looks_159 : decode prog_12_method_52_code 159 = .ok (.iload_n 1, 1) := by decide +kernel
theorem d_Mod_looks_160 : decode prog_12_method_52_code 160 = .ok (.iaload, 1) := by decide +kernel
theorem d_Mod_looks_161 : decode prog_12_method_52_code 161 = .ok (.iaload, 1) := by decide +kernel
theorem d_Mod_looks_162 : decode prog_12_method_52_code 162 = .ok (.iload 4, 2) := by decide +kernel
theorem d_Mod_looks_164 : decode prog_12_method_52_code 164 = .ok (.invokevirtual 303, 3) := by decide +kernel
theorem d_Mod_looks_167 : decode prog_12_method_52_code 167 = .ok (.iastore, 1) := by decide +kernel
theorem d_Mod_looks_168 : decode prog_12_method_52_code 168 = .ok (.aload_n 0, 1) := by decide +kernel
theorem d_Mod_looks_169 : decode prog_12_method_52_code 169 = .ok (.aload_n 0, 1) := by decide +kernel
theorem d_Mod_looks_170 : decode prog_12_method_52_code 170 = .ok (.getfield 97, 3) := by decide +kernel
theorem d_Mod_looks_173 : decode prog_12_method_52_code 173 = .ok (.iload_n 1, 1) := by decide +kernel
theorem d_Mod_looks_174 : decode prog_12_method_52_code 174 = .ok (.iaload, 1) := by decide +kernel
theorem d_Mod_looks_175 : decode prog_12_method_52_code 175 = .ok (.invokevirtual 307, 3) := by decide +kernel
theorem d_Mod_looks_178 : decode prog_12_method_52_code 178 = .ok (.ireturn, 1) := by decide +kernel
theorem d_Mod_looks_179 : decode prog_12_method_52_code 179 = .ok (.aload_n 0, 1) := by decide +kernel
theorem d_Mod_looks_180 : decode prog_12_method_52_code 180 = .ok (.aload_n 0, 1) := by decide +kernel
theorem d_Mod_looks_181 : decode prog_12_method_52_code 181 = .ok (.getfield 94, 3) := by decide +kernel
theorem d_Mod_looks_184 : decode prog_12_method_52_code 184 = .ok (.iload_n 1, 1) := by decide +kernel
theorem d_Mod_looks_185 : decode prog_12_method_52_code 185 = .ok (.iaload, 1) := by decide +kernel
theorem d_Mod_looks_186 : decode prog_12_method_52_code 186 = .ok (.invokevirtual 307, 3) := by decide +kernel
theorem d_Mod_looks_189 : decode prog_12_method_52_code 189 = .ok (.istore 5, 2) := by decide +kernel
theorem d_Mod_looks_191 : decode prog_12_method_52_code 191 = .ok (.aload_n 0, 1) := by decide +kernel
theorem d_Mod_looks_192 : decode prog_12_method_52_code 192 = .ok (.aload_n 0, 1) := by decide +kernel
theorem d_Mod_looks_193 : decode prog_12_method_52_code 193 = .ok (.getfield 97, 3) := by decide +kernel
theorem d_Mod_looks_196 : decode prog_12_method_52_code 196 = .ok (.iload_n 1, 1) := by decide +kernel
theorem d_Mod_looks_197 : decode prog_12_method_52_code 197 = .ok (.iaload, 1) := by decide +kernel
theorem d_Mod_looks_198 : decode prog_12_method_52_code 198 = .ok (.invokevirtual 307, 3) := by decide +kernel
theorem d_Mod_looks_201 : decode prog_12_method_52_code 201 = .ok (.istore 6, 2) := by decide +kernel
theorem d_Mod_looks_203 : decode prog_12_method_52_code 203 = .ok (.iconst 0, 1) := by decide +kernel
theorem d_Mod_looks_204 : decode prog_12_method_52_code 204 = .ok (.ireturn, 1) := by decide +kernel
theorem d_Mod_looks_205 : decode prog_12_method_52_code 205 = .ok (.aload_n 0, 1) := by decide +kernel
theorem d_Mod_looks_206 : decode prog_12_method_52_code 206 = .ok (.aload_n 0, 1) := by decide +kernel
theorem d_Mod_looks_207 : decode prog_12_method_52_code 207 = .ok (.getfield 103, 3) := by decide +kernel
theorem d_Mod_looks_210 : decode prog_12_method_52_code 210 = .ok (.iload_n 1, 1) := by decide +kernel
theorem d_Mod_looks_211 : decode prog_12_method_52_code 211 = .ok (.iaload, 1) := by decide +kernel
theorem d_Mod_looks_212 : decode prog_12_method_52_code 212 = .ok (.aload_n 0, 1) := by decide +kernel
theorem d_Mod_looks_213 : decode prog_12_method_52_code 213 = .ok (.aload_n 0, 1) := by decide +kernel
theorem d_Mod_looks_214 : decode prog_12_method_52_code 214 = .ok (.getfield 94, 3) := by decide +kernel
theorem d_Mod_looks_217 : decode prog_12_method_52_code 217 = .ok (.iload_n 1, 1) := by decide +kernel
theorem d_Mod_looks_218 : decode prog_12_method_52_code 218 = .ok (.iaload, 1) := by decide +kernel
theorem d_Mod_looks_219 : decode prog_12_method_52_code 219 = .ok (.invokevirtual 307, 3) := by decide +kernel
theorem d_Mod_looks_222 : decode prog_12_method_52_code 222 = .ok (.aload_n 0, 1) := by decide +kernel
theorem d_Mod_looks_223 : decode prog_12_method_52_code 223 = .ok (.aload_n 0, 1) := by decide +kernel
theorem d_Mod_looks_224 : decode prog_12_method_52_code 224 = .ok (.getfield 97, 3) := by decide +kernel
theorem d_Mod_looks_227 : decode prog_12_method_52_code 227 = .ok (.iload_n 1, 1) := by decide +kernel
theorem d_Mod_looks_228 : decode prog_12_method_52_code 228 = .ok (.iaload, 1) := by decide +kernel
theorem d_Mod_looks_229 : decode prog_12_method_52_code 229 = .ok (.invokevirtual 307, 3) := by decide +kernel
theorem d_Mod_looks_232 : decode prog_12_method_52_code 232 = .ok (.invokevirtual 310, 3) := by decide +kernel
theorem d_Mod_looks_235 : decode prog_12_method_52_code 235 = .ok (.ireturn, 1) := by decide +kernel
theorem d_Mod_looks_236 : decode prog_12_method_52_code 236 = .ok (.iconst 0, 1) := by decide +kernel
theorem d_Mod_looks_237 : decode prog_12_method_52_code 237 = .ok (.ireturn, 1) := by decide +kernel
def fm_Mod_looks_b (rc_looks : Int → fa_W → Option (Int × fa_W)) (a1 : Int) (w : fa_W) : Option (Int × fa_W) :=
  (fa_ix a1 101).bind fun j1 =>
  if fa_wr (w 184 j1) = 1 then
  ((fa_ix a1 101).bind fun j3 =>
  (fa_ix (w 185 j3) 124).bind fun j4 =>
  some (w 207 j4, w))
  else
  if fa_wr (w 184 j1) = 2 then
  ((fa_ix a1 101).bind fun j6 =>
  fa_bd (fm_Mod_more (w 181 52) (fa_ishl 1 (w 185 j6)) w) fun v8 w9 =>
  fa_let (fa_st w9 181 52 v8) fun w10 =>
  (fa_ix a1 101).bind fun j11 =>
  some (fa_ishl 1 (w10 185 j11), w10))
  else
  if fa_wr (w 184 j1) = 4 then
  ((fa_ix a1 101).bind fun j13 =>
  fa_bd (fm_Mod_more (w 181 52) (fa_ishl 1 (w 185 j13)) w) fun v15 w16 =>
  fa_let (fa_st w16 181 52 v15) fun w17 =>
  (fa_ix a1 101).bind fun j18 =>
  some (fa_ishl 1 (w17 185 j18), w17))
  else
  if fa_wr (w 184 j1) = 5 then
  ((fa_ix a1 101).bind fun j20 =>
  fa_bd (rc_looks (w 185 j20) w) fun v22 w23 =>
  (fa_ix a1 101).bind fun j24 =>
  fa_bd (rc_looks (w23 186 j24) w23) fun v26 w27 =>
  (fa_ix a1 101).bind fun j28 =>
  fa_bd (rc_looks (w27 187 j28) w27) fun v30 w31 =>
  some (fa_ior v26 v30, w31))
  else
  if fa_wr (w 184 j1) = 6 then
  ((fa_ix a1 101).bind fun j33 =>
  fa_bd (rc_looks (w 185 j33) w) fun v35 w36 =>
  (fa_ix a1 101).bind fun j37 =>
  (fa_ix a1 101).bind fun j38 =>
  (fa_ix (w36 187 j38) 124).bind fun j39 =>
  fa_bd (fm_Mod_more (w36 207 j39) v35 w36) fun v41 w42 =>
  (fa_ix (w36 187 j37) 124).bind fun j43 =>
  fa_let (fa_st w42 207 j43 v41) fun w44 =>
  (fa_ix a1 101).bind fun j45 =>
  fa_bd (rc_looks (w44 186 j45) w44) fun v47 w48 =>
  some (v47, w48))
  else
  if fa_wr (w 184 j1) = 7 then
  ((fa_ix a1 101).bind fun j50 =>
  fa_bd (rc_looks (w 185 j50) w) fun v52 w53 =>
  (fa_ix a1 101).bind fun j54 =>
  fa_bd (rc_looks (w53 186 j54) w53) fun v56 w57 =>
  some (0, w57))
  else
  if fa_wr (w 184 j1) = 8 then
  ((fa_ix a1 101).bind fun j59 =>
  (fa_ix a1 101).bind fun j60 =>
  fa_bd (rc_looks (w 185 j60) w) fun v62 w63 =>
  (fa_ix a1 101).bind fun j64 =>
  fa_bd (rc_looks (w63 186 j64) w63) fun v66 w67 =>
  fa_bd (fm_Mod_looksAtSite (w 188 j59) v62 v66 w67) fun v69 w70 =>
  some (v69, w70))
  else
  some (0, w)
set_option maxHeartbeats 4000000 in
set_option maxRecDepth 100000 in
theorem c_Mod_looks_b {l : Launch} {D : va_G} {b : Nat} {aC : Nat → ClassId} {H0 : Heap} {N T : Nat} (hN : fa_NM ≤ N) (hT : fa_TM ≤ T) (dd : Nat) (rc_looks : Int → fa_W → Option (Int × fa_W)) (Rrc_looks : ∀ (a1 : Int) (w : fa_W) (r : Int × fa_W), rc_looks a1 w = some r → fa_MC l D b aC H0 N T y_Mod_looks prog_12_method_52_code 7 ((Option.some Jvm.ClassFile.FieldType.int)) (3 + dd) [.ref (b + 181), .int (fa_I a1)] w (some (.int (fa_I r.1))) r.2) (a1 : Int)  (w : fa_W) (r : Int × fa_W) (hM : fm_Mod_looks_b rc_looks a1 w = some r) : fa_MC l D b aC H0 N T y_Mod_looks prog_12_method_52_code 7 ((Option.some Jvm.ClassFile.FieldType.int)) (3 + dd + 1) [.ref (b + 181), .int (fa_I a1)] w (some (.int (fa_I r.1))) r.2 := by
  refine fa_enter (lv := [(0, .ref (b + 181)), (1, .int (fa_I a1))]) (by decide +kernel) (Nat.le_of_ble_eq_true rfl) rfl (fun hh hle hnm X => ?_)
  unfold fm_Mod_looks_b at hM
  refine g_aload_n X 0 rfl d_Mod_looks_0 ?_
  refine g_get X ck_10 fo_181 (fn_181 hN) 4 (by decide) wd_1746 rfl (fr_181_4 rfl hT) d_Mod_looks_1 ?_
  refine g_iload_n X 1 rfl d_Mod_looks_4 ?_
  obtain ⟨j1, ej1, hM⟩ := fa_ob hM
  refine g_iald X fs_184 (fn_184 hN) ej1 d_Mod_looks_5 ?_
  by_cases hc2 : fa_wr (w 184 j1) = 1
  · have hM := fa_if_t hM hc2
    refine g_tableIn X 1 52 d_Mod_looks_6 hc2 (by decide) (by decide) rfl (by decide) ?_
    refine g_aload_n X 0 rfl d_Mod_looks_52 ?_
    refine g_get X ck_10 fo_181 (fn_181 hN) 46 (by decide) wd_1787 rfl (fr_181_46 rfl hT) d_Mod_looks_53 ?_
    refine g_aload_n X 0 rfl d_Mod_looks_56 ?_
    refine g_get X ck_10 fo_181 (fn_181 hN) 5 (by decide) wd_1747 rfl (fr_181_5 rfl hT) d_Mod_looks_57 ?_
    refine g_iload_n X 1 rfl d_Mod_looks_60 ?_
    obtain ⟨j3, ej3, hM⟩ := fa_ob hM
    refine g_iald X fs_185 (fn_185 hN) ej3 d_Mod_looks_61 ?_
    obtain ⟨j4, ej4, hM⟩ := fa_ob hM
    refine g_iald X fs_207 (fn_207 hN) ej4 d_Mod_looks_62 ?_
    cases hM
    exact g_iret X d_Mod_looks_63
  have hM := fa_if_f hM hc2
  by_cases hc5 : fa_wr (w 184 j1) = 2
  · have hM := fa_if_t hM hc5
    refine g_tableIn X 2 64 d_Mod_looks_6 hc5 (by decide) (by decide) rfl (by decide) ?_
    refine g_aload_n X 0 rfl d_Mod_looks_64 ?_
    refine g_aload_n X 0 rfl d_Mod_looks_65 ?_
    refine g_aload_n X 0 rfl d_Mod_looks_66 ?_
    refine g_get X ck_10 fo_181 (fn_181 hN) 52 (by decide) wd_1793 rfl (fa_fvI rfl) d_Mod_looks_67 ?_
    refine g_iconst X d_Mod_looks_70 ?_
    refine g_aload_n X 0 rfl d_Mod_looks_71 ?_
    refine g_get X ck_10 fo_181 (fn_181 hN) 5 (by decide) wd_1747 rfl (fr_181_5 rfl hT) d_Mod_looks_72 ?_
    refine g_iload_n X 1 rfl d_Mod_looks_75 ?_
    obtain ⟨j6, ej6, hM⟩ := fa_ob hM
    refine g_iald X fs_185 (fn_185 hN) ej6 d_Mod_looks_76 ?_
    refine g_ishl X d_Mod_looks_77 ?_
    obtain ⟨v8, w9, e7, hM⟩ := fa_obd hM
    refine g_callV_i X ck_10 fo_181 (fn_181 hN) rfl mi_Mod_more (c_Mod_more hN hT (w 181 52) (fa_ishl 1 (w 185 j6)) w _ e7) wd_1680 rfl (by omega) (st := [.ref (b + 181)]) (Nat.le_of_ble_eq_true rfl) rfl d_Mod_looks_78 ?_
    refine g_put X ck_10 fo_181 (fn_181 hN) 52 (z := v8) (by decide) wd_1793 rfl (fa_fvI' rfl) rfl rfl rfl d_Mod_looks_81 (fun w10 ew10 => ?_)
    have hM := fa_let_to hM ew10
    refine g_iconst X d_Mod_looks_84 ?_
    refine g_aload_n X 0 rfl d_Mod_looks_85 ?_
    refine g_get X ck_10 fo_181 (fn_181 hN) 5 (by decide) wd_1747 rfl (fr_181_5 rfl hT) d_Mod_looks_86 ?_
    refine g_iload_n X 1 rfl d_Mod_looks_89 ?_
    obtain ⟨j11, ej11, hM⟩ := fa_ob hM
    refine g_iald X fs_185 (fn_185 hN) ej11 d_Mod_looks_90 ?_
    refine g_ishl X d_Mod_looks_91 ?_
    cases hM
    exact g_iret X d_Mod_looks_92
  have hM := fa_if_f hM hc5
  by_cases hc12 : fa_wr (w 184 j1) = 4
  · have hM := fa_if_t hM hc12
    refine g_tableIn X 4 64 d_Mod_looks_6 hc12 (by decide) (by decide) rfl (by decide) ?_
    refine g_aload_n X 0 rfl d_Mod_looks_64 ?_
    refine g_aload_n X 0 rfl d_Mod_looks_65 ?_
    refine g_aload_n X 0 rfl d_Mod_looks_66 ?_
    refine g_get X ck_10 fo_181 (fn_181 hN) 52 (by decide) wd_1793 rfl (fa_fvI rfl) d_Mod_looks_67 ?_
    refine g_iconst X d_Mod_looks_70 ?_
    refine g_aload_n X 0 rfl d_Mod_looks_71 ?_
    refine g_get X ck_10 fo_181 (fn_181 hN) 5 (by decide) wd_1747 rfl (fr_181_5 rfl hT) d_Mod_looks_72 ?_
    refine g_iload_n X 1 rfl d_Mod_looks_75 ?_
    obtain ⟨j13, ej13, hM⟩ := fa_ob hM
    refine g_iald X fs_185 (fn_185 hN) ej13 d_Mod_looks_76 ?_
    refine g_ishl X d_Mod_looks_77 ?_
    obtain ⟨v15, w16, e14, hM⟩ := fa_obd hM
    refine g_callV_i X ck_10 fo_181 (fn_181 hN) rfl mi_Mod_more (c_Mod_more hN hT (w 181 52) (fa_ishl 1 (w 185 j13)) w _ e14) wd_1680 rfl (by omega) (st := [.ref (b + 181)]) (Nat.le_of_ble_eq_true rfl) rfl d_Mod_looks_78 ?_
    refine g_put X ck_10 fo_181 (fn_181 hN) 52 (z := v15) (by decide) wd_1793 rfl (fa_fvI' rfl) rfl rfl rfl d_Mod_looks_81 (fun w17 ew17 => ?_)
    have hM := fa_let_to hM ew17
    refine g_iconst X d_Mod_looks_84 ?_
    refine g_aload_n X 0 rfl d_Mod_looks_85 ?_
    refine g_get X ck_10 fo_181 (fn_181 hN) 5 (by decide) wd_1747 rfl (fr_181_5 rfl hT) d_Mod_looks_86 ?_
    refine g_iload_n X 1 rfl d_Mod_looks_89 ?_
    obtain ⟨j18, ej18, hM⟩ := fa_ob hM
    refine g_iald X fs_185 (fn_185 hN) ej18 d_Mod_looks_90 ?_
    refine g_ishl X d_Mod_looks_91 ?_
    cases hM
    exact g_iret X d_Mod_looks_92
  have hM := fa_if_f hM hc12
  by_cases hc19 : fa_wr (w 184 j1) = 5
  · have hM := fa_if_t hM hc19
    refine g_tableIn X 5 93 d_Mod_looks_6 hc19 (by decide) (by decide) rfl (by decide) ?_
    refine g_aload_n X 0 rfl d_Mod_looks_93 ?_
    refine g_aload_n X 0 rfl d_Mod_looks_94 ?_
    refine g_get X ck_10 fo_181 (fn_181 hN) 5 (by decide) wd_1747 rfl (fr_181_5 rfl hT) d_Mod_looks_95 ?_
    refine g_iload_n X 1 rfl d_Mod_looks_98 ?_
    obtain ⟨j20, ej20, hM⟩ := fa_ob hM
    refine g_iald X fs_185 (fn_185 hN) ej20 d_Mod_looks_99 ?_
    obtain ⟨v22, w23, e21, hM⟩ := fa_obd hM
    refine g_callV_i X ck_10 fo_181 (fn_181 hN) rfl mi_Mod_looks (Rrc_looks (w 185 j20) w _ e21) wd_1676 rfl (by omega) (st := []) (Nat.le_of_ble_eq_true rfl) rfl d_Mod_looks_100 ?_
    refine g_istorec_n X [(2, .int (fa_I v22)), (0, .ref (b + 181)), (1, .int (fa_I a1))] d_Mod_looks_103 (by decide) rfl ?_
    refine g_aload_n X 1 rfl d_Mod_looks_104 ?_
    refine g_aload_n X 1 rfl d_Mod_looks_105 ?_
    refine g_get X ck_10 fo_181 (fn_181 hN) 6 (by decide) wd_1748 rfl (fr_181_6 rfl hT) d_Mod_looks_106 ?_
    refine g_iload_n X 2 rfl d_Mod_looks_109 ?_
    obtain ⟨j24, ej24, hM⟩ := fa_ob hM
    refine g_iald X fs_186 (fn_186 hN) ej24 d_Mod_looks_110 ?_
    obtain ⟨v26, w27, e25, hM⟩ := fa_obd hM
    refine g_callV_i X ck_10 fo_181 (fn_181 hN) rfl mi_Mod_looks (Rrc_looks (w23 186 j24) w23 _ e25) wd_1676 rfl (by omega) (st := []) (Nat.le_of_ble_eq_true rfl) rfl d_Mod_looks_111 ?_
    refine g_istorec_n X [(3, .int (fa_I v26)), (2, .int (fa_I v22)), (0, .ref (b + 181)), (1, .int (fa_I a1))] d_Mod_looks_114 (by decide) rfl ?_
    refine g_iload_n X 0 rfl d_Mod_looks_115 ?_
    refine g_aload_n X 2 rfl d_Mod_looks_116 ?_
    refine g_aload_n X 2 rfl d_Mod_looks_117 ?_
    refine g_get X ck_10 fo_181 (fn_181 hN) 7 (by decide) wd_1749 rfl (fr_181_7 rfl hT) d_Mod_looks_118 ?_
    refine g_iload_n X 3 rfl d_Mod_looks_121 ?_
    obtain ⟨j28, ej28, hM⟩ := fa_ob hM
    refine g_iald X fs_187 (fn_187 hN) ej28 d_Mod_looks_122 ?_
    obtain ⟨v30, w31, e29, hM⟩ := fa_obd hM
    refine g_callV_i X ck_10 fo_181 (fn_181 hN) rfl mi_Mod_looks (Rrc_looks (w27 187 j28) w27 _ e29) wd_1676 rfl (by omega) (st := [.int (fa_I v26)]) (Nat.le_of_ble_eq_true rfl) rfl d_Mod_looks_123 ?_
    refine g_ior X d_Mod_looks_126 ?_
    cases hM
    exact g_iret X d_Mod_looks_127
  have hM := fa_if_f hM hc19
  by_cases hc32 : fa_wr (w 184 j1) = 6
  · have hM := fa_if_t hM hc32
    refine g_tableIn X 6 128 d_Mod_looks_6 hc32 (by decide) (by decide) rfl (by decide) ?_
    refine g_aload_n X 0 rfl d_Mod_looks_128 ?_
    refine g_aload_n X 0 rfl d_Mod_looks_129 ?_
    refine g_get X ck_10 fo_181 (fn_181 hN) 5 (by decide) wd_1747 rfl (fr_181_5 rfl hT) d_Mod_looks_130 ?_
    refine g_iload_n X 1 rfl d_Mod_looks_133 ?_
    obtain ⟨j33, ej33, hM⟩ := fa_ob hM
    refine g_iald X fs_185 (fn_185 hN) ej33 d_Mod_looks_134 ?_
    obtain ⟨v35, w36, e34, hM⟩ := fa_obd hM
    refine g_callV_i X ck_10 fo_181 (fn_181 hN) rfl mi_Mod_looks (Rrc_looks (w 185 j33) w _ e34) wd_1676 rfl (by omega) (st := []) (Nat.le_of_ble_eq_true rfl) rfl d_Mod_looks_135 ?_
    refine g_istorec X [(4, .int (fa_I v35)), (0, .ref (b + 181)), (1, .int (fa_I a1))] d_Mod_looks_138 (by decide) rfl ?_
    refine g_aload_n X 1 rfl d_Mod_looks_140 ?_
    refine g_get X ck_10 fo_181 (fn_181 hN) 46 (by decide) wd_1787 rfl (fr_181_46 rfl hT) d_Mod_looks_141 ?_
    refine g_aload_n X 1 rfl d_Mod_looks_144 ?_
    refine g_get X ck_10 fo_181 (fn_181 hN) 7 (by decide) wd_1749 rfl (fr_181_7 rfl hT) d_Mod_looks_145 ?_
    refine g_iload_n X 2 rfl d_Mod_looks_148 ?_
    obtain ⟨j37, ej37, hM⟩ := fa_ob hM
    refine g_iald X fs_187 (fn_187 hN) ej37 d_Mod_looks_149 ?_
    refine g_aload_n X 1 rfl d_Mod_looks_150 ?_
    refine g_aload_n X 1 rfl d_Mod_looks_151 ?_
    refine g_get X ck_10 fo_181 (fn_181 hN) 46 (by decide) wd_1787 rfl (fr_181_46 rfl hT) d_Mod_looks_152 ?_
    refine g_aload_n X 1 rfl d_Mod_looks_155 ?_
    refine g_get X ck_10 fo_181 (fn_181 hN) 7 (by decide) wd_1749 rfl (fr_181_7 rfl hT) d_Mod_looks_156 ?_
    refine g_iload_n X 2 rfl d_Mod_looks_159 ?_
    obtain ⟨j38, ej38, hM⟩ := fa_ob hM
    refine g_iald X fs_187 (fn_187 hN) ej38 d_Mod_looks_160 ?_
    obtain ⟨j39, ej39, hM⟩ := fa_ob hM
    refine g_iald X fs_207 (fn_207 hN) ej39 d_Mod_looks_161 ?_
    refine g_iload X 0 rfl d_Mod_looks_162 ?_
    obtain ⟨v41, w42, e40, hM⟩ := fa_obd hM
    refine g_callV_i X ck_10 fo_181 (fn_181 hN) rfl mi_Mod_more (c_Mod_more hN hT (w36 207 j39) v35 w36 _ e40) wd_1680 rfl (by omega) (st := [.int (fa_I (w36 187 j37)), .ref (b + 207)]) (Nat.le_of_ble_eq_true rfl) rfl d_Mod_looks_164 ?_
    obtain ⟨j43, ej43, hM⟩ := fa_ob hM
    refine g_iast X fs_207 (fn_207 hN) ej43 d_Mod_looks_167 (fun w44 ew44 => ?_)
    have hM := fa_let_to hM ew44
    refine g_aload_n X 1 rfl d_Mod_looks_168 ?_
    refine g_aload_n X 1 rfl d_Mod_looks_169 ?_
    refine g_get X ck_10 fo_181 (fn_181 hN) 6 (by decide) wd_1748 rfl (fr_181_6 rfl hT) d_Mod_looks_170 ?_
    refine g_iload_n X 2 rfl d_Mod_looks_173 ?_
    obtain ⟨j45, ej45, hM⟩ := fa_ob hM
    refine g_iald X fs_186 (fn_186 hN) ej45 d_Mod_looks_174 ?_
    obtain ⟨v47, w48, e46, hM⟩ := fa_obd hM
    refine g_callV_i X ck_10 fo_181 (fn_181 hN) rfl mi_Mod_looks (Rrc_looks (w44 186 j45) w44 _ e46) wd_1676 rfl (by omega) (st := []) (Nat.le_of_ble_eq_true rfl) rfl d_Mod_looks_175 ?_
    cases hM
    exact g_iret X d_Mod_looks_178
  have hM := fa_if_f hM hc32
  by_cases hc49 : fa_wr (w 184 j1) = 7
  · have hM := fa_if_t hM hc49
    refine g_tableIn X 7 179 d_Mod_looks_6 hc49 (by decide) (by decide) rfl (by decide) ?_
    refine g_aload_n X 0 rfl d_Mod_looks_179 ?_
    refine g_aload_n X 0 rfl d_Mod_looks_180 ?_
    refine g_get X ck_10 fo_181 (fn_181 hN) 5 (by decide) wd_1747 rfl (fr_181_5 rfl hT) d_Mod_looks_181 ?_
    refine g_iload_n X 1 rfl d_Mod_looks_184 ?_
    obtain ⟨j50, ej50, hM⟩ := fa_ob hM
    refine g_iald X fs_185 (fn_185 hN) ej50 d_Mod_looks_185 ?_
    obtain ⟨v52, w53, e51, hM⟩ := fa_obd hM
    refine g_callV_i X ck_10 fo_181 (fn_181 hN) rfl mi_Mod_looks (Rrc_looks (w 185 j50) w _ e51) wd_1676 rfl (by omega) (st := []) (Nat.le_of_ble_eq_true rfl) rfl d_Mod_looks_186 ?_
    refine g_istorec X [(5, .int (fa_I v52)), (0, .ref (b + 181)), (1, .int (fa_I a1))] d_Mod_looks_189 (by decide) rfl ?_
    refine g_aload_n X 1 rfl d_Mod_looks_191 ?_
    refine g_aload_n X 1 rfl d_Mod_looks_192 ?_
    refine g_get X ck_10 fo_181 (fn_181 hN) 6 (by decide) wd_1748 rfl (fr_181_6 rfl hT) d_Mod_looks_193 ?_
    refine g_iload_n X 2 rfl d_Mod_looks_196 ?_
    obtain ⟨j54, ej54, hM⟩ := fa_ob hM
    refine g_iald X fs_186 (fn_186 hN) ej54 d_Mod_looks_197 ?_
    obtain ⟨v56, w57, e55, hM⟩ := fa_obd hM
    refine g_callV_i X ck_10 fo_181 (fn_181 hN) rfl mi_Mod_looks (Rrc_looks (w53 186 j54) w53 _ e55) wd_1676 rfl (by omega) (st := []) (Nat.le_of_ble_eq_true rfl) rfl d_Mod_looks_198 ?_
    refine g_istorec X [(6, .int (fa_I v56)), (5, .int (fa_I v52)), (0, .ref (b + 181)), (1, .int (fa_I a1))] d_Mod_looks_201 (by decide) rfl ?_
    refine g_iconst X d_Mod_looks_203 ?_
    cases hM
    exact g_iret X d_Mod_looks_204
  have hM := fa_if_f hM hc49
  by_cases hc58 : fa_wr (w 184 j1) = 8
  · have hM := fa_if_t hM hc58
    refine g_tableIn X 8 205 d_Mod_looks_6 hc58 (by decide) (by decide) rfl (by decide) ?_
    refine g_aload_n X 0 rfl d_Mod_looks_205 ?_
    refine g_aload_n X 0 rfl d_Mod_looks_206 ?_
    refine g_get X ck_10 fo_181 (fn_181 hN) 8 (by decide) wd_1750 rfl (fr_181_8 rfl hT) d_Mod_looks_207 ?_
    refine g_iload_n X 1 rfl d_Mod_looks_210 ?_
    obtain ⟨j59, ej59, hM⟩ := fa_ob hM
    refine g_iald X fs_188 (fn_188 hN) ej59 d_Mod_looks_211 ?_
    refine g_aload_n X 0 rfl d_Mod_looks_212 ?_
    refine g_aload_n X 0 rfl d_Mod_looks_213 ?_
    refine g_get X ck_10 fo_181 (fn_181 hN) 5 (by decide) wd_1747 rfl (fr_181_5 rfl hT) d_Mod_looks_214 ?_
    refine g_iload_n X 1 rfl d_Mod_looks_217 ?_
    obtain ⟨j60, ej60, hM⟩ := fa_ob hM
    refine g_iald X fs_185 (fn_185 hN) ej60 d_Mod_looks_218 ?_
    obtain ⟨v62, w63, e61, hM⟩ := fa_obd hM
    refine g_callV_i X ck_10 fo_181 (fn_181 hN) rfl mi_Mod_looks (Rrc_looks (w 185 j60) w _ e61) wd_1676 rfl (by omega) (st := [.int (fa_I (w 188 j59)), .ref (b + 181)]) (Nat.le_of_ble_eq_true rfl) rfl d_Mod_looks_219 ?_
    refine g_aload_n X 0 rfl d_Mod_looks_222 ?_
    refine g_aload_n X 0 rfl d_Mod_looks_223 ?_
    refine g_get X ck_10 fo_181 (fn_181 hN) 6 (by decide) wd_1748 rfl (fr_181_6 rfl hT) d_Mod_looks_224 ?_
    refine g_iload_n X 1 rfl d_Mod_looks_227 ?_
    obtain ⟨j64, ej64, hM⟩ := fa_ob hM
    refine g_iald X fs_186 (fn_186 hN) ej64 d_Mod_looks_228 ?_
    obtain ⟨v66, w67, e65, hM⟩ := fa_obd hM
    refine g_callV_i X ck_10 fo_181 (fn_181 hN) rfl mi_Mod_looks (Rrc_looks (w63 186 j64) w63 _ e65) wd_1676 rfl (by omega) (st := [.int (fa_I v62), .int (fa_I (w 188 j59)), .ref (b + 181)]) (Nat.le_of_ble_eq_true rfl) rfl d_Mod_looks_229 ?_
    obtain ⟨v69, w70, e68, hM⟩ := fa_obd hM
    refine g_callV_i X ck_10 fo_181 (fn_181 hN) rfl mi_Mod_looksAtSite (c_Mod_looksAtSite hN hT (w 188 j59) v62 v66 w67 _ e68) wd_1687 rfl (by omega) (st := []) (Nat.le_of_ble_eq_true rfl) rfl d_Mod_looks_232 ?_
    cases hM
    exact g_iret X d_Mod_looks_235
  have hM := fa_if_f hM hc58
  refine g_tableDef X 236 d_Mod_looks_6 (by
    by_cases h9 : fa_wr (w 184 j1) = 3
    · rw [h9]; exact Or.inr ⟨by decide, by decide, _, rfl, by decide⟩
    exact Or.inl (by omega)) (by decide) ?_
  refine g_iconst X d_Mod_looks_236 ?_
  cases hM
  exact g_iret X d_Mod_looks_237
def fm_Mod_looks : Nat → Int → fa_W → Option (Int × fa_W)
  | 0, _, _ => none
  | n + 1, a1, w => fm_Mod_looks_b (fm_Mod_looks n) a1 w
set_option maxHeartbeats 4000000 in
set_option maxRecDepth 100000 in
theorem c_Mod_looks {l : Launch} {D : va_G} {b : Nat} {aC : Nat → ClassId} {H0 : Heap} {N T : Nat} (hN : fa_NM ≤ N) (hT : fa_TM ≤ T) : ∀ (n : Nat) (a1 : Int) (w : fa_W) (r : Int × fa_W), fm_Mod_looks n a1 w = some r → fa_MC l D b aC H0 N T y_Mod_looks prog_12_method_52_code 7 ((Option.some Jvm.ClassFile.FieldType.int)) (3 + n) [.ref (b + 181), .int (fa_I a1)] w (some (.int (fa_I r.1))) r.2 := by
  intro n
  induction n with
  | zero => intro a1 w r hM; exact fa_no hM
  | succ n ih => intro a1 w r hM; exact c_Mod_looks_b hN hT n (fm_Mod_looks n) ih a1 w r hM
theorem d_Mod_comesAll_0 : decode prog_12_method_54_code 0 = .ok (.aload_n 0, 1) := by decide +kernel
theorem d_Mod_comesAll_1 : decode prog_12_method_54_code 1 = .ok (.iconst 0, 1) := by decide +kernel
theorem d_Mod_comesAll_2 : decode prog_12_method_54_code 2 = .ok (.putfield 300, 3) := by decide +kernel
theorem d_Mod_comesAll_5 : decode prog_12_method_54_code 5 = .ok (.aload_n 0, 1) := by decide +kernel
theorem d_Mod_comesAll_6 : decode prog_12_method_54_code 6 = .ok (.iconst 0, 1) := by decide +kernel
theorem d_Mod_comesAll_7 : decode prog_12_method_54_code 7 = .ok (.putfield 323, 3) := by decide +kernel
theorem d_Mod_comesAll_10 : decode prog_12_method_54_code 10 = .ok (.iconst 0, 1) := by decide +kernel
theorem d_Mod_comesAll_11 : decode prog_12_method_54_code 11 = .ok (.istore_n 1, 1) := by decide +kernel
theorem d_Mod_comesAll_12 : decode prog_12_method_54_code 12 = .ok (.iload_n 1, 1) := by decide +kernel
theorem d_Mod_comesAll_13 : decode prog_12_method_54_code 13 = .ok (.bipush 124, 2) := by decide +kernel
theorem d_Mod_comesAll_15 : decode prog_12_method_54_code 15 = .ok (.if_icmp .ge 16, 3) := by decide +kernel
theorem d_Mod_comesAll_18 : decode prog_12_method_54_code 18 = .ok (.aload_n 0, 1) := by decide +kernel
theorem d_Mod_comesAll_19 : decode prog_12_method_54_code 19 = .ok (.getfield 297, 3) := by decide +kernel
theorem d_Mod_comesAll_22 : decode prog_12_method_54_code 22 = .ok (.iload_n 1, 1) := by decide +kernel
theorem d_Mod_comesAll_23 : decode prog_12_method_54_code 23 = .ok (.iconst 0, 1) := by decide +kernel
theorem d_Mod_comesAll_24 : decode prog_12_method_54_code 24 = .ok (.iastore, 1) := by decide +kernel
theorem d_Mod_comesAll_25 : decode prog_12_method_54_code 25 = .ok (.iinc 1 1, 3) := by decide +kernel
theorem d_Mod_comesAll_28 : decode prog_12_method_54_code 28 = .ok (.goto (-16), 3) := by decide +kernel
theorem d_Mod_comesAll_31 : decode prog_12_method_54_code 31 = .ok (.iconst 0, 1) := by decide +kernel
theorem d_Mod_comesAll_32 : decode prog_12_method_54_code 32 = .ok (.istore_n 1, 1) := by decide +kernel
theorem d_Mod_comesAll_33 : decode prog_12_method_54_code 33 = .ok (.iload_n 1, 1) := by decide +kernel
theorem d_Mod_comesAll_34 : decode prog_12_method_54_code 34 = .ok (.bipush 24, 2) := by decide +kernel
theorem d_Mod_comesAll_36 : decode prog_12_method_54_code 36 = .ok (.if_icmp .ge 16, 3) := by decide +kernel
theorem d_Mod_comesAll_39 : decode prog_12_method_54_code 39 = .ok (.aload_n 0, 1) := by decide +kernel
theorem d_Mod_comesAll_40 : decode prog_12_method_54_code 40 = .ok (.getfield 329, 3) := by decide +kernel
theorem d_Mod_comesAll_43 : decode prog_12_method_54_code 43 = .ok (.iload_n 1, 1) := by decide +kernel
theorem d_Mod_comesAll_44 : decode prog_12_method_54_code 44 = .ok (.iconst 0, 1) := by decide +kernel
theorem d_Mod_comesAll_45 : decode prog_12_method_54_code 45 = .ok (.iastore, 1) := by decide +kernel
theorem d_Mod_comesAll_46 : decode prog_12_method_54_code 46 = .ok (.iinc 1 1, 3) := by decide +kernel
theorem d_Mod_comesAll_49 : decode prog_12_method_54_code 49 = .ok (.goto (-16), 3) := by decide +kernel
theorem d_Mod_comesAll_52 : decode prog_12_method_54_code 52 = .ok (.iconst 0, 1) := by decide +kernel
theorem d_Mod_comesAll_53 : decode prog_12_method_54_code 53 = .ok (.istore_n 1, 1) := by decide +kernel
theorem d_Mod_comesAll_54 : decode prog_12_method_54_code 54 = .ok (.iload_n 1, 1) := by decide +kernel
theorem d_Mod_comesAll_55 : decode prog_12_method_54_code 55 = .ok (.bipush 100, 2) := by decide +kernel
theorem d_Mod_comesAll_57 : decode prog_12_method_54_code 57 = .ok (.if_icmp .gt 37, 3) := by decide +kernel
theorem d_Mod_comesAll_60 : decode prog_12_method_54_code 60 = .ok (.aload_n 0, 1) := by decide +kernel
theorem d_Mod_comesAll_61 : decode prog_12_method_54_code 61 = .ok (.getfield 313, 3) := by decide +kernel
theorem d_Mod_comesAll_64 : decode prog_12_method_54_code 64 = .ok (.iload_n 1, 1) := by decide +kernel
theorem d_Mod_comesAll_65 : decode prog_12_method_54_code 65 = .ok (.iconst 0, 1) := by decide +kernel
theorem d_Mod_comesAll_66 : decode prog_12_method_54_code 66 = .ok (.bastore, 1) := by decide +kernel
theorem d_Mod_comesAll_67 : decode prog_12_method_54_code 67 = .ok (.aload_n 0, 1) := by decide +kernel
theorem d_Mod_comesAll_68 : decode prog_12_method_54_code 68 = .ok (.getfield 317, 3) := by decide +kernel
theorem d_Mod_comesAll_71 : decode prog_12_method_54_code 71 = .ok (.iload_n 1, 1) := by decide +kernel
theorem d_Mod_comesAll_72 : decode prog_12_method_54_code 72 = .ok (.iconst 0, 1) := by decide +kernel
theorem d_Mod_comesAll_73 : decode prog_12_method_54_code 73 = .ok (.iastore, 1) := by decide +kernel
theorem d_Mod_comesAll_74 : decode prog_12_method_54_code 74 = .ok (.aload_n 0, 1) := by decide +kernel
theorem d_Mod_comesAll_75 : decode prog_12_method_54_code 75 = .ok (.getfield 320, 3) := by decide +kernel
theorem d_Mod_comesAll_78 : decode prog_12_method_54_code 78 = .ok (.iload_n 1, 1) := by decide +kernel
theorem d_Mod_comesAll_79 : decode prog_12_method_54_code 79 = .ok (.iconst 0, 1) := by decide +kernel
theorem d_Mod_comesAll_80 : decode prog_12_method_54_code 80 = .ok (.iastore, 1) := by decide +kernel
theorem d_Mod_comesAll_81 : decode prog_12_method_54_code 81 = .ok (.aload_n 0, 1) := by decide +kernel
theorem d_Mod_comesAll_82 : decode prog_12_method_54_code 82 = .ok (.getfield 332, 3) := by decide +kernel
theorem d_Mod_comesAll_85 : decode prog_12_method_54_code 85 = .ok (.iload_n 1, 1) := by decide +kernel
theorem d_Mod_comesAll_86 : decode prog_12_method_54_code 86 = .ok (.iconst 0, 1) := by decide +kernel
theorem d_Mod_comesAll_87 : decode prog_12_method_54_code 87 = .ok (.iastore, 1) := by decide +kernel
theorem d_Mod_comesAll_88 : decode prog_12_method_54_code 88 = .ok (.iinc 1 1, 3) := by decide +kernel
theorem d_Mod_comesAll_91 : decode prog_12_method_54_code 91 = .ok (.goto (-37), 3) := by decide +kernel
theorem d_Mod_comesAll_94 : decode prog_12_method_54_code 94 = .ok (.aload_n 0, 1) := by decide +kernel
theorem d_Mod_comesAll_95 : decode prog_12_method_54_code 95 = .ok (.iconst 1, 1) := by decide +kernel
theorem d_Mod_comesAll_96 : decode prog_12_method_54_code 96 = .ok (.putfield 291, 3) := by decide +kernel
theorem d_Mod_comesAll_99 : decode prog_12_method_54_code 99 = .ok (.aload_n 0, 1) := by decide +kernel
theorem d_Mod_comesAll_100 : decode prog_12_method_54_code 100 = .ok (.getfield 291, 3) := by decide +kernel
theorem d_Mod_comesAll_103 : decode prog_12_method_54_code 103 = .ok (.ifCond .le 76, 3) := by decide +kernel
theorem d_Mod_comesAll_106 : decode prog_12_method_54_code 106 = .ok (.aload_n 0, 1) := by decide +kernel
theorem d_Mod_comesAll_107 : decode prog_12_method_54_code 107 = .ok (.iconst 0, 1) := by decide +kernel
theorem d_Mod_comesAll_108 : decode prog_12_method_54_code 108 = .ok (.putfield 291, 3) := by decide +kernel
theorem d_Mod_comesAll_111 : decode prog_12_method_54_code 111 = .ok (.aload_n 0, 1) := by decide +kernel
theorem d_Mod_comesAll_112 : decode prog_12_method_54_code 112 = .ok (.aload_n 0, 1) := by decide +kernel
theorem d_Mod_comesAll_113 : decode prog_12_method_54_code 113 = .ok (.aload_n 0, 1) := by decide +kernel
theorem d_Mod_comesAll_114 : decode prog_12_method_54_code 114 = .ok (.getfield 218, 3) := by decide +kernel
theorem d_Mod_comesAll_117 : decode prog_12_method_54_code 117 = .ok (.invokevirtual 307, 3) := by decide +kernel
theorem d_Mod_comesAll_120 : decode prog_12_method_54_code 120 = .ok (.putfield 335, 3) := by decide +kernel
theorem d_Mod_comesAll_123 : decode prog_12_method_54_code 123 = .ok (.iconst 0, 1) := by decide +kernel
theorem d_Mod_comesAll_124 : decode prog_12_method_54_code 124 = .ok (.istore_n 1, 1) := by decide +kernel
theorem d_Mod_comesAll_125 : decode prog_12_method_54_code 125 = .ok (.iload_n 1, 1) := by decide +kernel
theorem d_Mod_comesAll_126 : decode prog_12_method_54_code 126 = .ok (.aload_n 0, 1) := by decide +kernel
theorem d_Mod_comesAll_127 : decode prog_12_method_54_code 127 = .ok (.invokevirtual 270, 3) := by decide +kernel
theorem d_Mod_comesAll_130 : decode prog_12_method_54_code 130 = .ok (.if_icmp .ge 46, 3) := by decide +kernel
theorem d_Mod_comesAll_133 : decode prog_12_method_54_code 133 = .ok (.aload_n 0, 1) := by decide +kernel
theorem d_Mod_comesAll_134 : decode prog_12_method_54_code 134 = .ok (.getfield 323, 3) := by decide +kernel
theorem d_Mod_comesAll_137 : decode prog_12_method_54_code 137 = .ok (.iload_n 1, 1) := by decide +kernel
theorem d_Mod_comesAll_138 : decode prog_12_method_54_code 138 = .ok (.invokestatic 326, 3) := by decide +kernel
theorem d_Mod_comesAll_141 : decode prog_12_method_54_code 141 = .ok (.ifCond .eq 29, 3) := by decide +kernel
theorem d_Mod_comesAll_144 : decode prog_12_method_54_code 144 = .ok (.aload_n 0, 1) := by decide +kernel
theorem d_Mod_comesAll_145 : decode prog_12_method_54_code 145 = .ok (.getfield 329, 3) := by decide +kernel
theorem d_Mod_comesAll_148 : decode prog_12_method_54_code 148 = .ok (.iload_n 1, 1) := by decide +kernel
theorem d_Mod_comesAll_149 : decode prog_12_method_54_code 149 = .ok (.aload_n 0, 1) := by decide +kernel
theorem d_Mod_comesAll_150 : decode prog_12_method_54_code 150 = .ok (.aload_n 0, 1) := by decide +kernel
theorem d_Mod_comesAll_151 : decode prog_12_method_54_code 151 = .ok (.getfield 329, 3) := by decide +kernel
theorem d_Mod_comesAll_154 : decode prog_12_method_54_code 154 = .ok (.iload_n 1, 1) := by decide +kernel
theorem d_Mod_comesAll_155 : decode prog_12_method_54_code 155 = .ok (.iaload, 1) := by decide +kernel
theorem d_Mod_comesAll_156 : decode prog_12_method_54_code 156 = .ok (.aload_n 0, 1) := by decide +kernel
theorem d_Mod_comesAll_157 : decode prog_12_method_54_code 157 = .ok (.aload_n 0, 1) := by decide +kernel
theorem d_Mod_comesAll_158 : decode prog_12_method_54_code 158 = .ok (.getfield 166, 3) := by decide +kernel
theorem d_Mod_comesAll_161 : decode prog_12_method_54_code 161 = .ok (.iload_n 1, 1) := by decide +kernel
theorem d_Mod_comesAll_162 : decode prog_12_method_54_code 162 = .ok (.iaload, 1) := by decide +kernel
theorem d_Mod_comesAll_163 : decode prog_12_method_54_code 163 = .ok (.invokevirtual 307, 3) := by decide +kernel
theorem d_Mod_comesAll_166 : decode prog_12_method_54_code 166 = .ok (.invokevirtual 303, 3) := by decide +kernel
theorem d_Mod_comesAll_169 : decode prog_12_method_54_code 169 = .ok (.iastore, 1) := by decide +kernel
theorem d_Mod_comesAll_170 : decode prog_12_method_54_code 170 = .ok (.iinc 1 1, 3) := by decide +kernel
theorem d_Mod_comesAll_173 : decode prog_12_method_54_code 173 = .ok (.goto (-48), 3) := by decide +kernel
theorem d_Mod_comesAll_176 : decode prog_12_method_54_code 176 = .ok (.goto (-77), 3) := by decide +kernel
theorem d_Mod_comesAll_179 : decode prog_12_method_54_code 179 = .ok (.aload_n 0, 1) := by decide +kernel
theorem d_Mod_comesAll_180 : decode prog_12_method_54_code 180 = .ok (.aload_n 0, 1) := by decide +kernel
theorem d_Mod_comesAll_181 : decode prog_12_method_54_code 181 = .ok (.aload_n 0, 1) := by decide +kernel
theorem d_Mod_comesAll_182 : decode prog_12_method_54_code 182 = .ok (.getfield 218, 3) := by decide +kernel
theorem d_Mod_comesAll_185 : decode prog_12_method_54_code 185 = .ok (.invokevirtual 307, 3) := by decide +kernel
theorem d_Mod_comesAll_188 : decode prog_12_method_54_code 188 = .ok (.putfield 335, 3) := by decide +kernel
theorem d_Mod_comesAll_191 : decode prog_12_method_54_code 191 = .ok (.iconst 0, 1) := by decide +kernel
theorem d_Mod_comesAll_192 : decode prog_12_method_54_code 192 = .ok (.istore_n 1, 1) := by decide +kernel
theorem d_Mod_comesAll_193 : decode prog_12_method_54_code 193 = .ok (.iload_n 1, 1) := by decide +kernel
theorem d_Mod_comesAll_194 : decode prog_12_method_54_code 194 = .ok (.aload_n 0, 1) := by decide +kernel
theorem d_Mod_comesAll_195 : decode prog_12_method_54_code 195 = .ok (.invokevirtual 270, 3) := by decide +kernel
theorem d_Mod_comesAll_198 : decode prog_12_method_54_code 198 = .ok (.if_icmp .ge 34, 3) := by decide +kernel
theorem d_Mod_comesAll_201 : decode prog_12_method_54_code 201 = .ok (.aload_n 0, 1) := by decide +kernel
theorem d_Mod_comesAll_202 : decode prog_12_method_54_code 202 = .ok (.getfield 323, 3) := by decide +kernel
theorem d_Mod_comesAll_205 : decode prog_12_method_54_code 205 = .ok (.iload_n 1, 1) := by decide +kernel
theorem d_Mod_comesAll_206 : decode prog_12_method_54_code 206 = .ok (.invokestatic 326, 3) := by decide +kernel
theorem d_Mod_comesAll_209 : decode prog_12_method_54_code 209 = .ok (.ifCond .ne 6, 3) := by decide +kernel
theorem d_Mod_comesAll_212 : decode prog_12_method_54_code 212 = .ok (.goto 14, 3) := by decide +kernel
theorem d_Mod_comesAll_215 : decode prog_12_method_54_code 215 = .ok (.aload_n 0, 1) := by decide +kernel
theorem d_Mod_comesAll_216 : decode prog_12_method_54_code 216 = .ok (.aload_n 0, 1) := by decide +kernel
theorem d_Mod_comesAll_217 : decode prog_12_method_54_code 217 = .ok (.getfield 166, 3) := by decide +kernel
theorem d_Mod_comesAll_220 : decode prog_12_method_54_code 220 = .ok (.iload_n 1, 1) := by decide +kernel
theorem d_Mod_comesAll_221 : decode prog_12_method_54_code 221 = .ok (.iaload, 1) := by decide +kernel
theorem d_Mod_comesAll_222 : decode prog_12_method_54_code 222 = .ok (.invokevirtual 307, 3) := by decide +kernel
theorem d_Mod_comesAll_225 : decode prog_12_method_54_code 225 = .ok (.istore_n 2, 1) := by decide +kernel
theorem d_Mod_comesAll_226 : decode prog_12_method_54_code 226 = .ok (.iinc 1 1, 3) := by decide +kernel
theorem d_Mod_comesAll_229 : decode prog_12_method_54_code 229 = .ok (.goto (-36), 3) := by decide +kernel
theorem d_Mod_comesAll_232 : decode prog_12_method_54_code 232 = .ok (.return_, 1) := by decide +kernel
def fm_Mod_comesAll_l193  : Nat → Int → fa_W → Option fa_W
  | 0, _, _ => none
  | n + 1, x1, w => if fa_wr (fm_Mod_functions w) ≤ fa_wr x1 then
  some w
  else
  (if fm_Mod_holds (w 181 53) x1 w = true then
  ((fa_ix x1 24).bind fun j16 =>
  fa_bd (fm_Mod_looks 900 (w 189 j16) w) fun v18 w19 =>
  fa_let (x1 + 1) fun x1_20 =>
  fm_Mod_comesAll_l193 n x1_20 w19)
  else
  (fa_let (x1 + 1) fun x1_21 =>
  fm_Mod_comesAll_l193 n x1_21 w))
set_option maxHeartbeats 4000000 in
set_option maxRecDepth 100000 in
theorem c_Mod_comesAll_l193 {p : Program} {l : Launch} {e : Env} {s : State} {m : MethodId} {args : Array Value} {below : List Frame} {meth : Method} {c : Code} {hh : Nat} {D : va_G} {b : Nat} {aC : Nat → ClassId} {H0 : Heap} {N T : Nat} (X : fa_GX p s m args meth c prog_12_method_54_code 3 ((Option.none : Option Jvm.ClassFile.FieldType)) y_Mod_comesAll.cls D b aC) (hle : 904 ≤ hh) (hN : fa_NM ≤ N) (hT : fa_TM ≤ T) {r : fa_W}  : ∀ (n : Nat) (x1 : Int) (w : fa_W), fm_Mod_comesAll_l193 n x1 w = some r → fa_GJ p l e (fa_rm hh) s m args below meth c 0 0 (MQ below (fa_Qc D b aC H0 N T (none) r) args s 0 0 (fun q => b ≤ q)) D b aC H0 N T 3 w 193 [(0, .ref (b + 181)), (1, .int (fa_I x1))] [] := by
  intro n
  induction n with
  | zero => intro x1 w hM; exact fa_no hM
  | succ n ih =>
    intro x1 w hM
    rw [fm_Mod_comesAll_l193] at hM
    refine g_iload_n X 1 rfl d_Mod_comesAll_193 ?_
    refine g_aload_n X 0 rfl d_Mod_comesAll_194 ?_
    refine g_callV_i X ck_10 fo_181 (fn_181 hN) rfl mi_Mod_functions (c_Mod_functions hN hT w _ rfl) wd_1644 rfl (Nat.le_trans (Nat.le_of_ble_eq_true rfl) hle) (st := [.int (fa_I x1)]) (Nat.le_of_ble_eq_true rfl) rfl d_Mod_comesAll_195 ?_
    refine g_icmp_ge X 232 d_Mod_comesAll_198 (by decide) (fun hc13 => ?_) (fun hc13 => ?_)
    · have hM := fa_if_t hM hc13
      cases hM
      exact g_vret X d_Mod_comesAll_232
    · have hM := fa_if_f hM hc13
      refine g_aload_n X 0 rfl d_Mod_comesAll_201 ?_
      refine g_get X ck_10 fo_181 (fn_181 hN) 53 (by decide) wd_1794 rfl (fa_fvI rfl) d_Mod_comesAll_202 ?_
      refine g_iload_n X 1 rfl d_Mod_comesAll_205 ?_
      refine g_callS_i X mi_Mod_holds (c_Mod_holds hN hT (w 181 53) x1 w _ rfl) wd_1691 rfl (Nat.le_trans (Nat.le_of_ble_eq_true rfl) hle) (st := []) (Nat.le_of_ble_eq_true rfl) rfl d_Mod_comesAll_206 ?_
      refine g_ifb_ne X 215 d_Mod_comesAll_209 (by decide) (fun hc15 => ?_) (fun hc15 => ?_)
      · have hM := fa_ifb_t hM hc15
        refine g_aload_n X 0 rfl d_Mod_comesAll_215 ?_
        refine g_aload_n X 0 rfl d_Mod_comesAll_216 ?_
        refine g_get X ck_10 fo_181 (fn_181 hN) 9 (by decide) wd_1751 rfl (fr_181_9 rfl hT) d_Mod_comesAll_217 ?_
        refine g_iload_n X 1 rfl d_Mod_comesAll_220 ?_
        obtain ⟨j16, ej16, hM⟩ := fa_ob hM
        refine g_iald X fs_189 (fn_189 hN) ej16 d_Mod_comesAll_221 ?_
        obtain ⟨v18, w19, e17, hM⟩ := fa_obd hM
        refine g_callV_i X ck_10 fo_181 (fn_181 hN) rfl mi_Mod_looks (c_Mod_looks hN hT 900 (w 189 j16) w _ e17) wd_1676 rfl (Nat.le_trans (Nat.le_of_ble_eq_true rfl) hle) (st := []) (Nat.le_of_ble_eq_true rfl) rfl d_Mod_comesAll_222 ?_
        refine g_istorec_n X [(2, .int (fa_I v18)), (0, .ref (b + 181)), (1, .int (fa_I x1))] d_Mod_comesAll_225 (by decide) rfl ?_
        refine g_iinc X 2 (fun x1_20 => [(1, .int (fa_I x1_20)), (2, .int (fa_I v18)), (0, .ref (b + 181))]) d_Mod_comesAll_226 rfl (by decide) (fun _ => rfl) (fun x1_20 ex1_20 => ?_)
        have hM := fa_let_to hM ex1_20
        refine g_goto X 193 d_Mod_comesAll_229 (by decide) ?_
        exact g_lv [2, 0] rfl (ih _ _ hM)
      · have hM := fa_ifb_f hM hc15
        refine g_goto X 226 d_Mod_comesAll_212 (by decide) ?_
        refine g_iinc X 1 (fun x1_21 => [(1, .int (fa_I x1_21)), (0, .ref (b + 181))]) d_Mod_comesAll_226 rfl (by decide) (fun _ => rfl) (fun x1_21 ex1_21 => ?_)
        have hM := fa_let_to hM ex1_21
        refine g_goto X 193 d_Mod_comesAll_229 (by decide) ?_
        exact g_lv [1, 0] rfl (ih _ _ hM)
def fm_Mod_comesAll_l125 (k99 : fa_W → Option fa_W) : Nat → Int → fa_W → Option fa_W
  | 0, _, _ => none
  | n + 1, x1, w => if fa_wr (fm_Mod_functions w) ≤ fa_wr x1 then
  k99 w
  else
  (if fm_Mod_holds (w 181 53) x1 w = true then
  ((fa_ix x1 24).bind fun j32 =>
  (fa_ix x1 24).bind fun j33 =>
  fa_bd (fm_Mod_looks 900 (w 189 j33) w) fun v35 w36 =>
  fa_bd (fm_Mod_more (w 208 j32) v35 w36) fun v38 w39 =>
  (fa_ix x1 24).bind fun j40 =>
  fa_let (fa_st w39 208 j40 v38) fun w41 =>
  fa_let (x1 + 1) fun x1_42 =>
  fm_Mod_comesAll_l125 k99 n x1_42 w41)
  else
  (fa_let (x1 + 1) fun x1_31 =>
  fm_Mod_comesAll_l125 k99 n x1_31 w))
set_option maxHeartbeats 4000000 in
set_option maxRecDepth 100000 in
theorem c_Mod_comesAll_l125 {p : Program} {l : Launch} {e : Env} {s : State} {m : MethodId} {args : Array Value} {below : List Frame} {meth : Method} {c : Code} {hh : Nat} {D : va_G} {b : Nat} {aC : Nat → ClassId} {H0 : Heap} {N T : Nat} (X : fa_GX p s m args meth c prog_12_method_54_code 3 ((Option.none : Option Jvm.ClassFile.FieldType)) y_Mod_comesAll.cls D b aC) (hle : 904 ≤ hh) (hN : fa_NM ≤ N) (hT : fa_TM ≤ T) {r : fa_W} (k99 : fa_W → Option fa_W) (K99 : ∀ (w : fa_W), k99 w = some r → fa_GJ p l e (fa_rm hh) s m args below meth c 0 0 (MQ below (fa_Qc D b aC H0 N T (none) r) args s 0 0 (fun q => b ≤ q)) D b aC H0 N T 3 w 99 [(0, .ref (b + 181))] []) : ∀ (n : Nat) (x1 : Int) (w : fa_W), fm_Mod_comesAll_l125 k99 n x1 w = some r → fa_GJ p l e (fa_rm hh) s m args below meth c 0 0 (MQ below (fa_Qc D b aC H0 N T (none) r) args s 0 0 (fun q => b ≤ q)) D b aC H0 N T 3 w 125 [(0, .ref (b + 181)), (1, .int (fa_I x1))] [] := by
  intro n
  induction n with
  | zero => intro x1 w hM; exact fa_no hM
  | succ n ih =>
    intro x1 w hM
    rw [fm_Mod_comesAll_l125] at hM
    refine g_iload_n X 1 rfl d_Mod_comesAll_125 ?_
    refine g_aload_n X 0 rfl d_Mod_comesAll_126 ?_
    refine g_callV_i X ck_10 fo_181 (fn_181 hN) rfl mi_Mod_functions (c_Mod_functions hN hT w _ rfl) wd_1644 rfl (Nat.le_trans (Nat.le_of_ble_eq_true rfl) hle) (st := [.int (fa_I x1)]) (Nat.le_of_ble_eq_true rfl) rfl d_Mod_comesAll_127 ?_
    refine g_icmp_ge X 176 d_Mod_comesAll_130 (by decide) (fun hc28 => ?_) (fun hc28 => ?_)
    · have hM := fa_if_t hM hc28
      refine g_goto X 99 d_Mod_comesAll_176 (by decide) ?_
      exact g_lv [0] rfl (K99 _ hM)
    · have hM := fa_if_f hM hc28
      refine g_aload_n X 0 rfl d_Mod_comesAll_133 ?_
      refine g_get X ck_10 fo_181 (fn_181 hN) 53 (by decide) wd_1794 rfl (fa_fvI rfl) d_Mod_comesAll_134 ?_
      refine g_iload_n X 1 rfl d_Mod_comesAll_137 ?_
      refine g_callS_i X mi_Mod_holds (c_Mod_holds hN hT (w 181 53) x1 w _ rfl) wd_1691 rfl (Nat.le_trans (Nat.le_of_ble_eq_true rfl) hle) (st := []) (Nat.le_of_ble_eq_true rfl) rfl d_Mod_comesAll_138 ?_
      refine g_ifb_eq X 170 d_Mod_comesAll_141 (by decide) (fun hc30 => ?_) (fun hc30 => ?_)
      · have hM := fa_ifb_f hM hc30
        refine g_iinc X 1 (fun x1_31 => [(1, .int (fa_I x1_31)), (0, .ref (b + 181))]) d_Mod_comesAll_170 rfl (by decide) (fun _ => rfl) (fun x1_31 ex1_31 => ?_)
        have hM := fa_let_to hM ex1_31
        refine g_goto X 125 d_Mod_comesAll_173 (by decide) ?_
        exact g_lv [1, 0] rfl (ih _ _ hM)
      · have hM := fa_ifb_t hM hc30
        refine g_aload_n X 0 rfl d_Mod_comesAll_144 ?_
        refine g_get X ck_10 fo_181 (fn_181 hN) 47 (by decide) wd_1788 rfl (fr_181_47 rfl hT) d_Mod_comesAll_145 ?_
        refine g_iload_n X 1 rfl d_Mod_comesAll_148 ?_
        refine g_aload_n X 0 rfl d_Mod_comesAll_149 ?_
        refine g_aload_n X 0 rfl d_Mod_comesAll_150 ?_
        refine g_get X ck_10 fo_181 (fn_181 hN) 47 (by decide) wd_1788 rfl (fr_181_47 rfl hT) d_Mod_comesAll_151 ?_
        refine g_iload_n X 1 rfl d_Mod_comesAll_154 ?_
        obtain ⟨j32, ej32, hM⟩ := fa_ob hM
        refine g_iald X fs_208 (fn_208 hN) ej32 d_Mod_comesAll_155 ?_
        refine g_aload_n X 0 rfl d_Mod_comesAll_156 ?_
        refine g_aload_n X 0 rfl d_Mod_comesAll_157 ?_
        refine g_get X ck_10 fo_181 (fn_181 hN) 9 (by decide) wd_1751 rfl (fr_181_9 rfl hT) d_Mod_comesAll_158 ?_
        refine g_iload_n X 1 rfl d_Mod_comesAll_161 ?_
        obtain ⟨j33, ej33, hM⟩ := fa_ob hM
        refine g_iald X fs_189 (fn_189 hN) ej33 d_Mod_comesAll_162 ?_
        obtain ⟨v35, w36, e34, hM⟩ := fa_obd hM
        refine g_callV_i X ck_10 fo_181 (fn_181 hN) rfl mi_Mod_looks (c_Mod_looks hN hT 900 (w 189 j33) w _ e34) wd_1676 rfl (Nat.le_trans (Nat.le_of_ble_eq_true rfl) hle) (st := [.int (fa_I (w 208 j32)), .ref (b + 181), .int (fa_I x1), .ref (b + 208)]) (Nat.le_of_ble_eq_true rfl) rfl d_Mod_comesAll_163 ?_
        obtain ⟨v38, w39, e37, hM⟩ := fa_obd hM
        refine g_callV_i X ck_10 fo_181 (fn_181 hN) rfl mi_Mod_more (c_Mod_more hN hT (w 208 j32) v35 w36 _ e37) wd_1680 rfl (Nat.le_trans (Nat.le_of_ble_eq_true rfl) hle) (st := [.int (fa_I x1), .ref (b + 208)]) (Nat.le_of_ble_eq_true rfl) rfl d_Mod_comesAll_166 ?_
        obtain ⟨j40, ej40, hM⟩ := fa_ob hM
        refine g_iast X fs_208 (fn_208 hN) ej40 d_Mod_comesAll_169 (fun w41 ew41 => ?_)
        have hM := fa_let_to hM ew41
        refine g_iinc X 1 (fun x1_42 => [(1, .int (fa_I x1_42)), (0, .ref (b + 181))]) d_Mod_comesAll_170 rfl (by decide) (fun _ => rfl) (fun x1_42 ex1_42 => ?_)
        have hM := fa_let_to hM ex1_42
        refine g_goto X 125 d_Mod_comesAll_173 (by decide) ?_
        exact g_lv [1, 0] rfl (ih _ _ hM)
def fm_Mod_comesAll_l99  : Nat → fa_W → Option fa_W
  | 0, _ => none
  | n + 1, w => if fa_wr (w 181 55) ≤ 0 then
  (fa_bd (fm_Mod_looks 900 (w 181 21) w) fun v9 w10 =>
  fa_let (fa_st w10 181 54 v9) fun w11 =>
  fm_Mod_comesAll_l193 fa_FU 0 w11)
  else
  (fa_let (fa_st w 181 55 0) fun w22 =>
  fa_bd (fm_Mod_looks 900 (w22 181 21) w22) fun v24 w25 =>
  fa_let (fa_st w25 181 54 v24) fun w26 =>
  fm_Mod_comesAll_l125 (fun w9 => fm_Mod_comesAll_l99 n w9) fa_FU 0 w26)
set_option maxHeartbeats 4000000 in
set_option maxRecDepth 100000 in
theorem c_Mod_comesAll_l99 {p : Program} {l : Launch} {e : Env} {s : State} {m : MethodId} {args : Array Value} {below : List Frame} {meth : Method} {c : Code} {hh : Nat} {D : va_G} {b : Nat} {aC : Nat → ClassId} {H0 : Heap} {N T : Nat} (X : fa_GX p s m args meth c prog_12_method_54_code 3 ((Option.none : Option Jvm.ClassFile.FieldType)) y_Mod_comesAll.cls D b aC) (hle : 904 ≤ hh) (hN : fa_NM ≤ N) (hT : fa_TM ≤ T) {r : fa_W}  : ∀ (n : Nat) (w : fa_W), fm_Mod_comesAll_l99 n w = some r → fa_GJ p l e (fa_rm hh) s m args below meth c 0 0 (MQ below (fa_Qc D b aC H0 N T (none) r) args s 0 0 (fun q => b ≤ q)) D b aC H0 N T 3 w 99 [(0, .ref (b + 181))] [] := by
  intro n
  induction n with
  | zero => intro w hM; exact fa_no hM
  | succ n ih =>
    intro w hM
    rw [fm_Mod_comesAll_l99] at hM
    refine g_aload_n X 0 rfl d_Mod_comesAll_99 ?_
    refine g_get X ck_10 fo_181 (fn_181 hN) 55 (by decide) wd_1796 rfl (fa_fvI rfl) d_Mod_comesAll_100 ?_
    refine g_if_le X 179 d_Mod_comesAll_103 (by decide) (fun hc7 => ?_) (fun hc7 => ?_)
    · have hM := fa_if_t hM hc7
      refine g_aload_n X 0 rfl d_Mod_comesAll_179 ?_
      refine g_aload_n X 0 rfl d_Mod_comesAll_180 ?_
      refine g_aload_n X 0 rfl d_Mod_comesAll_181 ?_
      refine g_get X ck_10 fo_181 (fn_181 hN) 21 (by decide) wd_1763 rfl (fa_fvI rfl) d_Mod_comesAll_182 ?_
      obtain ⟨v9, w10, e8, hM⟩ := fa_obd hM
      refine g_callV_i X ck_10 fo_181 (fn_181 hN) rfl mi_Mod_looks (c_Mod_looks hN hT 900 (w 181 21) w _ e8) wd_1676 rfl (Nat.le_trans (Nat.le_of_ble_eq_true rfl) hle) (st := [.ref (b + 181)]) (Nat.le_of_ble_eq_true rfl) rfl d_Mod_comesAll_185 ?_
      refine g_put X ck_10 fo_181 (fn_181 hN) 54 (z := v9) (by decide) wd_1795 rfl (fa_fvI' rfl) rfl rfl rfl d_Mod_comesAll_188 (fun w11 ew11 => ?_)
      have hM := fa_let_to hM ew11
      refine g_iconst X d_Mod_comesAll_191 ?_
      refine g_istorec_n X [(1, .int (fa_I 0)), (0, .ref (b + 181))] d_Mod_comesAll_192 (by decide) rfl ?_
      exact g_lv [1, 0] rfl (c_Mod_comesAll_l193 X hle hN hT   fa_FU _ _ hM)
    · have hM := fa_if_f hM hc7
      refine g_aload_n X 0 rfl d_Mod_comesAll_106 ?_
      refine g_iconst X d_Mod_comesAll_107 ?_
      refine g_put X ck_10 fo_181 (fn_181 hN) 55 (z := 0) (by decide) wd_1796 rfl (fa_fvI' rfl) rfl rfl rfl d_Mod_comesAll_108 (fun w22 ew22 => ?_)
      have hM := fa_let_to hM ew22
      refine g_aload_n X 0 rfl d_Mod_comesAll_111 ?_
      refine g_aload_n X 0 rfl d_Mod_comesAll_112 ?_
      refine g_aload_n X 0 rfl d_Mod_comesAll_113 ?_
      refine g_get X ck_10 fo_181 (fn_181 hN) 21 (by decide) wd_1763 rfl (fa_fvI rfl) d_Mod_comesAll_114 ?_
      obtain ⟨v24, w25, e23, hM⟩ := fa_obd hM
      refine g_callV_i X ck_10 fo_181 (fn_181 hN) rfl mi_Mod_looks (c_Mod_looks hN hT 900 (w22 181 21) w22 _ e23) wd_1676 rfl (Nat.le_trans (Nat.le_of_ble_eq_true rfl) hle) (st := [.ref (b + 181)]) (Nat.le_of_ble_eq_true rfl) rfl d_Mod_comesAll_117 ?_
      refine g_put X ck_10 fo_181 (fn_181 hN) 54 (z := v24) (by decide) wd_1795 rfl (fa_fvI' rfl) rfl rfl rfl d_Mod_comesAll_120 (fun w26 ew26 => ?_)
      have hM := fa_let_to hM ew26
      refine g_iconst X d_Mod_comesAll_123 ?_
      refine g_istorec_n X [(1, .int (fa_I 0)), (0, .ref (b + 181))] d_Mod_comesAll_124 (by decide) rfl ?_
      exact g_lv [1, 0] rfl (c_Mod_comesAll_l125 X hle hN hT  (fun w9 => fm_Mod_comesAll_l99 n w9) (fun _ h => ih _ h) fa_FU _ _ hM)
def fm_Mod_comesAll_l54  : Nat → Int → fa_W → Option fa_W
  | 0, _, _ => none
  | n + 1, x1, w => if 100 < fa_wr x1 then
  (fa_let (fa_st w 181 55 1) fun w6 =>
  fm_Mod_comesAll_l99 fa_FU w6)
  else
  ((fa_ix x1 101).bind fun j43 =>
  fa_let (fa_st w 212 j43 (fa_bi false)) fun w44 =>
  (fa_ix x1 101).bind fun j45 =>
  fa_let (fa_st w44 209 j45 0) fun w46 =>
  (fa_ix x1 101).bind fun j47 =>
  fa_let (fa_st w46 210 j47 0) fun w48 =>
  (fa_ix x1 101).bind fun j49 =>
  fa_let (fa_st w48 211 j49 0) fun w50 =>
  fa_let (x1 + 1) fun x1_51 =>
  fm_Mod_comesAll_l54 n x1_51 w50)
set_option maxHeartbeats 4000000 in
set_option maxRecDepth 100000 in
theorem c_Mod_comesAll_l54 {p : Program} {l : Launch} {e : Env} {s : State} {m : MethodId} {args : Array Value} {below : List Frame} {meth : Method} {c : Code} {hh : Nat} {D : va_G} {b : Nat} {aC : Nat → ClassId} {H0 : Heap} {N T : Nat} (X : fa_GX p s m args meth c prog_12_method_54_code 3 ((Option.none : Option Jvm.ClassFile.FieldType)) y_Mod_comesAll.cls D b aC) (hle : 904 ≤ hh) (hN : fa_NM ≤ N) (hT : fa_TM ≤ T) {r : fa_W}  : ∀ (n : Nat) (x1 : Int) (w : fa_W), fm_Mod_comesAll_l54 n x1 w = some r → fa_GJ p l e (fa_rm hh) s m args below meth c 0 0 (MQ below (fa_Qc D b aC H0 N T (none) r) args s 0 0 (fun q => b ≤ q)) D b aC H0 N T 3 w 54 [(0, .ref (b + 181)), (1, .int (fa_I x1))] [] := by
  intro n
  induction n with
  | zero => intro x1 w hM; exact fa_no hM
  | succ n ih =>
    intro x1 w hM
    rw [fm_Mod_comesAll_l54] at hM
    refine g_iload_n X 1 rfl d_Mod_comesAll_54 ?_
    refine g_bipush X (by decide) d_Mod_comesAll_55 ?_
    refine g_icmp_gt X 94 d_Mod_comesAll_57 (by decide) (fun hc5 => ?_) (fun hc5 => ?_)
    · have hM := fa_if_t hM hc5
      refine g_aload_n X 0 rfl d_Mod_comesAll_94 ?_
      refine g_iconst X d_Mod_comesAll_95 ?_
      refine g_put X ck_10 fo_181 (fn_181 hN) 55 (z := 1) (by decide) wd_1796 rfl (fa_fvI' rfl) rfl rfl rfl d_Mod_comesAll_96 (fun w6 ew6 => ?_)
      have hM := fa_let_to hM ew6
      exact g_lv [0] rfl (c_Mod_comesAll_l99 X hle hN hT   fa_FU _ hM)
    · have hM := fa_if_f hM hc5
      refine g_aload_n X 0 rfl d_Mod_comesAll_60 ?_
      refine g_get X ck_10 fo_181 (fn_181 hN) 51 (by decide) wd_1792 rfl (fr_181_51 rfl hT) d_Mod_comesAll_61 ?_
      refine g_iload_n X 1 rfl d_Mod_comesAll_64 ?_
      refine g_iconst X d_Mod_comesAll_65 ?_
      obtain ⟨j43, ej43, hM⟩ := fa_ob hM
      refine g_zast X (B := false) fs_212 (fn_212 hN) ej43 d_Mod_comesAll_66 (fun w44 ew44 => ?_)
      have hM := fa_let_to hM ew44
      refine g_aload_n X 0 rfl d_Mod_comesAll_67 ?_
      refine g_get X ck_10 fo_181 (fn_181 hN) 48 (by decide) wd_1789 rfl (fr_181_48 rfl hT) d_Mod_comesAll_68 ?_
      refine g_iload_n X 1 rfl d_Mod_comesAll_71 ?_
      refine g_iconst X d_Mod_comesAll_72 ?_
      obtain ⟨j45, ej45, hM⟩ := fa_ob hM
      refine g_iast X fs_209 (fn_209 hN) ej45 d_Mod_comesAll_73 (fun w46 ew46 => ?_)
      have hM := fa_let_to hM ew46
      refine g_aload_n X 0 rfl d_Mod_comesAll_74 ?_
      refine g_get X ck_10 fo_181 (fn_181 hN) 49 (by decide) wd_1790 rfl (fr_181_49 rfl hT) d_Mod_comesAll_75 ?_
      refine g_iload_n X 1 rfl d_Mod_comesAll_78 ?_
      refine g_iconst X d_Mod_comesAll_79 ?_
      obtain ⟨j47, ej47, hM⟩ := fa_ob hM
      refine g_iast X fs_210 (fn_210 hN) ej47 d_Mod_comesAll_80 (fun w48 ew48 => ?_)
      have hM := fa_let_to hM ew48
      refine g_aload_n X 0 rfl d_Mod_comesAll_81 ?_
      refine g_get X ck_10 fo_181 (fn_181 hN) 50 (by decide) wd_1791 rfl (fr_181_50 rfl hT) d_Mod_comesAll_82 ?_
      refine g_iload_n X 1 rfl d_Mod_comesAll_85 ?_
      refine g_iconst X d_Mod_comesAll_86 ?_
      obtain ⟨j49, ej49, hM⟩ := fa_ob hM
      refine g_iast X fs_211 (fn_211 hN) ej49 d_Mod_comesAll_87 (fun w50 ew50 => ?_)
      have hM := fa_let_to hM ew50
      refine g_iinc X 1 (fun x1_51 => [(1, .int (fa_I x1_51)), (0, .ref (b + 181))]) d_Mod_comesAll_88 rfl (by decide) (fun _ => rfl) (fun x1_51 ex1_51 => ?_)
      have hM := fa_let_to hM ex1_51
      refine g_goto X 54 d_Mod_comesAll_91 (by decide) ?_
      exact g_lv [1, 0] rfl (ih _ _ hM)
def fm_Mod_comesAll_l33  : Nat → Int → fa_W → Option fa_W
  | 0, _, _ => none
  | n + 1, x1, w => if 24 ≤ fa_wr x1 then
  fm_Mod_comesAll_l54 fa_FU 0 w
  else
  ((fa_ix x1 24).bind fun j52 =>
  fa_let (fa_st w 208 j52 0) fun w53 =>
  fa_let (x1 + 1) fun x1_54 =>
  fm_Mod_comesAll_l33 n x1_54 w53)
set_option maxHeartbeats 4000000 in
set_option maxRecDepth 100000 in
theorem c_Mod_comesAll_l33 {p : Program} {l : Launch} {e : Env} {s : State} {m : MethodId} {args : Array Value} {below : List Frame} {meth : Method} {c : Code} {hh : Nat} {D : va_G} {b : Nat} {aC : Nat → ClassId} {H0 : Heap} {N T : Nat} (X : fa_GX p s m args meth c prog_12_method_54_code 3 ((Option.none : Option Jvm.ClassFile.FieldType)) y_Mod_comesAll.cls D b aC) (hle : 904 ≤ hh) (hN : fa_NM ≤ N) (hT : fa_TM ≤ T) {r : fa_W}  : ∀ (n : Nat) (x1 : Int) (w : fa_W), fm_Mod_comesAll_l33 n x1 w = some r → fa_GJ p l e (fa_rm hh) s m args below meth c 0 0 (MQ below (fa_Qc D b aC H0 N T (none) r) args s 0 0 (fun q => b ≤ q)) D b aC H0 N T 3 w 33 [(0, .ref (b + 181)), (1, .int (fa_I x1))] [] := by
  intro n
  induction n with
  | zero => intro x1 w hM; exact fa_no hM
  | succ n ih =>
    intro x1 w hM
    rw [fm_Mod_comesAll_l33] at hM
    refine g_iload_n X 1 rfl d_Mod_comesAll_33 ?_
    refine g_bipush X (by decide) d_Mod_comesAll_34 ?_
    refine g_icmp_ge X 52 d_Mod_comesAll_36 (by decide) (fun hc4 => ?_) (fun hc4 => ?_)
    · have hM := fa_if_t hM hc4
      refine g_iconst X d_Mod_comesAll_52 ?_
      refine g_istorec_n X [(1, .int (fa_I 0)), (0, .ref (b + 181))] d_Mod_comesAll_53 (by decide) rfl ?_
      exact g_lv [1, 0] rfl (c_Mod_comesAll_l54 X hle hN hT   fa_FU _ _ hM)
    · have hM := fa_if_f hM hc4
      refine g_aload_n X 0 rfl d_Mod_comesAll_39 ?_
      refine g_get X ck_10 fo_181 (fn_181 hN) 47 (by decide) wd_1788 rfl (fr_181_47 rfl hT) d_Mod_comesAll_40 ?_
      refine g_iload_n X 1 rfl d_Mod_comesAll_43 ?_
      refine g_iconst X d_Mod_comesAll_44 ?_
      obtain ⟨j52, ej52, hM⟩ := fa_ob hM
      refine g_iast X fs_208 (fn_208 hN) ej52 d_Mod_comesAll_45 (fun w53 ew53 => ?_)
      have hM := fa_let_to hM ew53
      refine g_iinc X 1 (fun x1_54 => [(1, .int (fa_I x1_54)), (0, .ref (b + 181))]) d_Mod_comesAll_46 rfl (by decide) (fun _ => rfl) (fun x1_54 ex1_54 => ?_)
      have hM := fa_let_to hM ex1_54
      refine g_goto X 33 d_Mod_comesAll_49 (by decide) ?_
      exact g_lv [1, 0] rfl (ih _ _ hM)
def fm_Mod_comesAll_l12  : Nat → Int → fa_W → Option fa_W
  | 0, _, _ => none
  | n + 1, x1, w => if 124 ≤ fa_wr x1 then
  fm_Mod_comesAll_l33 fa_FU 0 w
  else
  ((fa_ix x1 124).bind fun j55 =>
  fa_let (fa_st w 207 j55 0) fun w56 =>
  fa_let (x1 + 1) fun x1_57 =>
  fm_Mod_comesAll_l12 n x1_57 w56)
set_option maxHeartbeats 4000000 in
set_option maxRecDepth 100000 in
theorem c_Mod_comesAll_l12 {p : Program} {l : Launch} {e : Env} {s : State} {m : MethodId} {args : Array Value} {below : List Frame} {meth : Method} {c : Code} {hh : Nat} {D : va_G} {b : Nat} {aC : Nat → ClassId} {H0 : Heap} {N T : Nat} (X : fa_GX p s m args meth c prog_12_method_54_code 3 ((Option.none : Option Jvm.ClassFile.FieldType)) y_Mod_comesAll.cls D b aC) (hle : 904 ≤ hh) (hN : fa_NM ≤ N) (hT : fa_TM ≤ T) {r : fa_W}  : ∀ (n : Nat) (x1 : Int) (w : fa_W), fm_Mod_comesAll_l12 n x1 w = some r → fa_GJ p l e (fa_rm hh) s m args below meth c 0 0 (MQ below (fa_Qc D b aC H0 N T (none) r) args s 0 0 (fun q => b ≤ q)) D b aC H0 N T 3 w 12 [(0, .ref (b + 181)), (1, .int (fa_I x1))] [] := by
  intro n
  induction n with
  | zero => intro x1 w hM; exact fa_no hM
  | succ n ih =>
    intro x1 w hM
    rw [fm_Mod_comesAll_l12] at hM
    refine g_iload_n X 1 rfl d_Mod_comesAll_12 ?_
    refine g_bipush X (by decide) d_Mod_comesAll_13 ?_
    refine g_icmp_ge X 31 d_Mod_comesAll_15 (by decide) (fun hc3 => ?_) (fun hc3 => ?_)
    · have hM := fa_if_t hM hc3
      refine g_iconst X d_Mod_comesAll_31 ?_
      refine g_istorec_n X [(1, .int (fa_I 0)), (0, .ref (b + 181))] d_Mod_comesAll_32 (by decide) rfl ?_
      exact g_lv [1, 0] rfl (c_Mod_comesAll_l33 X hle hN hT   fa_FU _ _ hM)
    · have hM := fa_if_f hM hc3
      refine g_aload_n X 0 rfl d_Mod_comesAll_18 ?_
      refine g_get X ck_10 fo_181 (fn_181 hN) 46 (by decide) wd_1787 rfl (fr_181_46 rfl hT) d_Mod_comesAll_19 ?_
      refine g_iload_n X 1 rfl d_Mod_comesAll_22 ?_
      refine g_iconst X d_Mod_comesAll_23 ?_
      obtain ⟨j55, ej55, hM⟩ := fa_ob hM
      refine g_iast X fs_207 (fn_207 hN) ej55 d_Mod_comesAll_24 (fun w56 ew56 => ?_)
      have hM := fa_let_to hM ew56
      refine g_iinc X 1 (fun x1_57 => [(1, .int (fa_I x1_57)), (0, .ref (b + 181))]) d_Mod_comesAll_25 rfl (by decide) (fun _ => rfl) (fun x1_57 ex1_57 => ?_)
      have hM := fa_let_to hM ex1_57
      refine g_goto X 12 d_Mod_comesAll_28 (by decide) ?_
      exact g_lv [1, 0] rfl (ih _ _ hM)
def fm_Mod_comesAll (w : fa_W) : Option fa_W :=
  fa_let (fa_st w 181 52 0) fun w1 =>
  fa_let (fa_st w1 181 53 0) fun w2 =>
  fm_Mod_comesAll_l12 fa_FU 0 w2
set_option maxHeartbeats 4000000 in
set_option maxRecDepth 100000 in
theorem c_Mod_comesAll {l : Launch} {D : va_G} {b : Nat} {aC : Nat → ClassId} {H0 : Heap} {N T : Nat} (hN : fa_NM ≤ N) (hT : fa_TM ≤ T)   (w : fa_W) (r : fa_W) (hM : fm_Mod_comesAll w = some r) : fa_MC l D b aC H0 N T y_Mod_comesAll prog_12_method_54_code 3 ((Option.none : Option Jvm.ClassFile.FieldType)) (904) [.ref (b + 181)] w (none) r := by
  refine fa_enter (lv := [(0, .ref (b + 181))]) (by decide +kernel) (Nat.le_of_ble_eq_true rfl) rfl (fun hh hle hnm X => ?_)
  unfold fm_Mod_comesAll at hM
  refine g_aload_n X 0 rfl d_Mod_comesAll_0 ?_
  refine g_iconst X d_Mod_comesAll_1 ?_
  refine g_put X ck_10 fo_181 (fn_181 hN) 52 (z := 0) (by decide) wd_1793 rfl (fa_fvI' rfl) rfl rfl rfl d_Mod_comesAll_2 (fun w1 ew1 => ?_)
  have hM := fa_let_to hM ew1
  refine g_aload_n X 0 rfl d_Mod_comesAll_5 ?_
  refine g_iconst X d_Mod_comesAll_6 ?_
  refine g_put X ck_10 fo_181 (fn_181 hN) 53 (z := 0) (by decide) wd_1794 rfl (fa_fvI' rfl) rfl rfl rfl d_Mod_comesAll_7 (fun w2 ew2 => ?_)
  have hM := fa_let_to hM ew2
  refine g_iconst X d_Mod_comesAll_10 ?_
  refine g_istorec_n X [(1, .int (fa_I 0)), (0, .ref (b + 181))] d_Mod_comesAll_11 (by decide) rfl ?_
  exact g_lv [1, 0] rfl (c_Mod_comesAll_l12 X hle hN hT   fa_FU _ _ hM)
theorem d_Mod_isWithin_0 : decode prog_12_method_55_code 0 = .ok (.iload_n 1, 1) := by decide +kernel
theorem d_Mod_isWithin_1 : decode prog_12_method_55_code 1 = .ok (.istore_n 3, 1) := by decide +kernel
theorem d_Mod_isWithin_2 : decode prog_12_method_55_code 2 = .ok (.iload_n 3, 1) := by decide +kernel
theorem d_Mod_isWithin_3 : decode prog_12_method_55_code 3 = .ok (.iconst (-1), 1) := by decide +kernel
theorem d_Mod_isWithin_4 : decode prog_12_method_55_code 4 = .ok (.if_icmp .eq 18, 3) := by decide +kernel
theorem d_Mod_isWithin_7 : decode prog_12_method_55_code 7 = .ok (.iload_n 3, 1) := by decide +kernel
theorem d_Mod_isWithin_8 : decode prog_12_method_55_code 8 = .ok (.iload_n 2, 1) := by decide +kernel
theorem d_Mod_isWithin_9 : decode prog_12_method_55_code 9 = .ok (.if_icmp .eq 13, 3) := by decide +kernel
theorem d_Mod_isWithin_12 : decode prog_12_method_55_code 12 = .ok (.aload_n 0, 1) := by decide +kernel
theorem d_Mod_isWithin_13 : decode prog_12_method_55_code 13 = .ok (.getfield 156, 3) := by decide +kernel
theorem d_Mod_isWithin_16 : decode prog_12_method_55_code 16 = .ok (.iload_n 3, 1) := by decide +kernel
theorem d_Mod_isWithin_17 : decode prog_12_method_55_code 17 = .ok (.iaload, 1) := by decide +kernel
theorem d_Mod_isWithin_18 : decode prog_12_method_55_code 18 = .ok (.istore_n 3, 1) := by decide +kernel
theorem d_Mod_isWithin_19 : decode prog_12_method_55_code 19 = .ok (.goto (-17), 3) := by decide +kernel
theorem d_Mod_isWithin_22 : decode prog_12_method_55_code 22 = .ok (.iload_n 3, 1) := by decide +kernel
theorem d_Mod_isWithin_23 : decode prog_12_method_55_code 23 = .ok (.iload_n 2, 1) := by decide +kernel
theorem d_Mod_isWithin_24 : decode prog_12_method_55_code 24 = .ok (.if_icmp .ne 7, 3) := by decide +kernel
theorem d_Mod_isWithin_27 : decode prog_12_method_55_code 27 = .ok (.iconst 1, 1) := by decide +kernel
theorem d_Mod_isWithin_28 : decode prog_12_method_55_code 28 = .ok (.goto 4, 3) := by decide +kernel
theorem d_Mod_isWithin_31 : decode prog_12_method_55_code 31 = .ok (.iconst 0, 1) := by decide +kernel
theorem d_Mod_isWithin_32 : decode prog_12_method_55_code 32 = .ok (.ireturn, 1) := by decide +kernel
def fm_Mod_isWithin_j22 (a1 : Int) (a2 : Int) (w : fa_W) (x3 : Int) : Option Bool :=
  if fa_wr x3 = fa_wr a2 then
  some true
  else
  some false
set_option maxHeartbeats 4000000 in
set_option maxRecDepth 100000 in
theorem c_Mod_isWithin_j22 {p : Program} {l : Launch} {e : Env} {s : State} {m : MethodId} {args : Array Value} {below : List Frame} {meth : Method} {c : Code} {hh : Nat} {D : va_G} {b : Nat} {aC : Nat → ClassId} {H0 : Heap} {N T : Nat} (X : fa_GX p s m args meth c prog_12_method_55_code 4 ((Option.some Jvm.ClassFile.FieldType.boolean)) y_Mod_isWithin.cls D b aC) (hle : 0 ≤ hh) (hN : fa_NM ≤ N) (hT : fa_TM ≤ T) (a1 : Int) (a2 : Int) {r : Bool} (w : fa_W) : ∀ (x3 : Int) (_ : fm_Mod_isWithin_j22 a1 a2 w x3 = some r), fa_GJ p l e (fa_rm hh) s m args below meth c 0 0 (MQ below (fa_Qc D b aC H0 N T (some (.int (fa_I (fa_bi r)))) w) args s 0 0 (fun q => b ≤ q)) D b aC H0 N T 4 w 22 [(2, .int (fa_I a2)), (3, .int (fa_I x3))] [] := by
  intro x3 hM
  unfold fm_Mod_isWithin_j22 at hM
  refine g_iload_n X 1 rfl d_Mod_isWithin_22 ?_
  refine g_iload_n X 0 rfl d_Mod_isWithin_23 ?_
  refine g_icmp_ne X 31 d_Mod_isWithin_24 (by decide) (fun hc2 => ?_) (fun hc2 => ?_)
  · have hM := fa_if_f hM hc2
    refine g_iconst X d_Mod_isWithin_31 ?_
    cases hM
    exact g_zret X rfl d_Mod_isWithin_32
  · have hM := fa_if_t hM hc2
    refine g_iconst X d_Mod_isWithin_27 ?_
    refine g_goto X 32 d_Mod_isWithin_28 (by decide) ?_
    cases hM
    exact g_zret X rfl d_Mod_isWithin_32
def fm_Mod_isWithin_l2 (a1 : Int) (a2 : Int) (w : fa_W) : Nat → Int → Option Bool
  | 0, _ => none
  | n + 1, x3 => if fa_wr x3 = (-1) then
  fm_Mod_isWithin_j22 a1 a2 w x3
  else
  (if fa_wr x3 = fa_wr a2 then
  fm_Mod_isWithin_j22 a1 a2 w x3
  else
  ((fa_ix x3 24).bind fun j4 =>
  fa_let (w 191 j4) fun x3_5 =>
  fm_Mod_isWithin_l2 a1 a2 w n x3_5))
set_option maxHeartbeats 4000000 in
set_option maxRecDepth 100000 in
theorem c_Mod_isWithin_l2 {p : Program} {l : Launch} {e : Env} {s : State} {m : MethodId} {args : Array Value} {below : List Frame} {meth : Method} {c : Code} {hh : Nat} {D : va_G} {b : Nat} {aC : Nat → ClassId} {H0 : Heap} {N T : Nat} (X : fa_GX p s m args meth c prog_12_method_55_code 4 ((Option.some Jvm.ClassFile.FieldType.boolean)) y_Mod_isWithin.cls D b aC) (hle : 0 ≤ hh) (hN : fa_NM ≤ N) (hT : fa_TM ≤ T) (a1 : Int) (a2 : Int) {r : Bool} (w : fa_W) : ∀ (n : Nat) (x3 : Int), fm_Mod_isWithin_l2 a1 a2 w n x3 = some r → fa_GJ p l e (fa_rm hh) s m args below meth c 0 0 (MQ below (fa_Qc D b aC H0 N T (some (.int (fa_I (fa_bi r)))) w) args s 0 0 (fun q => b ≤ q)) D b aC H0 N T 4 w 2 [(0, .ref (b + 181)), (2, .int (fa_I a2)), (3, .int (fa_I x3))] [] := by
  intro n
  induction n with
  | zero => intro x3 hM; exact fa_no hM
  | succ n ih =>
    intro x3 hM
    rw [fm_Mod_isWithin_l2] at hM
    refine g_iload_n X 2 rfl d_Mod_isWithin_2 ?_
    refine g_iconst X d_Mod_isWithin_3 ?_
    refine g_icmp_eq X 22 d_Mod_isWithin_4 (by decide) (fun hc1 => ?_) (fun hc1 => ?_)
    · have hM := fa_if_t hM hc1
      exact g_lv [1, 2] rfl (c_Mod_isWithin_j22 X hle hN hT a1 a2 w   _ hM)
    · have hM := fa_if_f hM hc1
      refine g_iload_n X 2 rfl d_Mod_isWithin_7 ?_
      refine g_iload_n X 1 rfl d_Mod_isWithin_8 ?_
      refine g_icmp_eq X 22 d_Mod_isWithin_9 (by decide) (fun hc3 => ?_) (fun hc3 => ?_)
      · have hM := fa_if_t hM hc3
        exact g_lv [1, 2] rfl (c_Mod_isWithin_j22 X hle hN hT a1 a2 w   _ hM)
      · have hM := fa_if_f hM hc3
        refine g_aload_n X 0 rfl d_Mod_isWithin_12 ?_
        refine g_get X ck_10 fo_181 (fn_181 hN) 11 (by decide) wd_1753 rfl (fr_181_11 rfl hT) d_Mod_isWithin_13 ?_
        refine g_iload_n X 2 rfl d_Mod_isWithin_16 ?_
        obtain ⟨j4, ej4, hM⟩ := fa_ob hM
        refine g_iald X fs_191 (fn_191 hN) ej4 d_Mod_isWithin_17 ?_
        refine g_istore_n X (fun x3_5 => [(3, .int (fa_I x3_5)), (0, .ref (b + 181)), (2, .int (fa_I a2))]) d_Mod_isWithin_18 (by decide) (fun _ => rfl) (fun x3_5 ex3_5 => ?_)
        have hM := fa_let_to hM ex3_5
        refine g_goto X 2 d_Mod_isWithin_19 (by decide) ?_
        exact g_lv [1, 2, 0] rfl (ih _ hM)
def fm_Mod_isWithin (a1 : Int) (a2 : Int) (w : fa_W) : Option Bool :=
  fm_Mod_isWithin_l2 a1 a2 w fa_FU a1
set_option maxHeartbeats 4000000 in
set_option maxRecDepth 100000 in
theorem c_Mod_isWithin {l : Launch} {D : va_G} {b : Nat} {aC : Nat → ClassId} {H0 : Heap} {N T : Nat} (hN : fa_NM ≤ N) (hT : fa_TM ≤ T) (a1 : Int) (a2 : Int)  (w : fa_W) (r : Bool) (hM : fm_Mod_isWithin a1 a2 w = some r) : fa_MC l D b aC H0 N T y_Mod_isWithin prog_12_method_55_code 4 ((Option.some Jvm.ClassFile.FieldType.boolean)) (0) [.ref (b + 181), .int (fa_I a1), .int (fa_I a2)] w (some (.int (fa_I (fa_bi r)))) w := by
  refine fa_enter (lv := [(0, .ref (b + 181)), (1, .int (fa_I a1)), (2, .int (fa_I a2))]) (by decide +kernel) (Nat.le_of_ble_eq_true rfl) rfl (fun hh hle hnm X => ?_)
  unfold fm_Mod_isWithin at hM
  refine g_iload_n X 1 rfl d_Mod_isWithin_0 ?_
  refine g_istorec_n X [(3, .int (fa_I a1)), (0, .ref (b + 181)), (1, .int (fa_I a1)), (2, .int (fa_I a2))] d_Mod_isWithin_1 (by decide) rfl ?_
  exact g_lv [1, 3, 0] rfl (c_Mod_isWithin_l2 X hle hN hT a1 a2 w  fa_FU _ hM)
theorem d_Mod_addsField_0 : decode prog_12_method_57_code 0 = .ok (.iconst 0, 1) := by decide +kernel
theorem d_Mod_addsField_1 : decode prog_12_method_57_code 1 = .ok (.istore_n 3, 1) := by decide +kernel
theorem d_Mod_addsField_2 : decode prog_12_method_57_code 2 = .ok (.iload_n 3, 1) := by decide +kernel
theorem d_Mod_addsField_3 : decode prog_12_method_57_code 3 = .ok (.aload_n 0, 1) := by decide +kernel
theorem d_Mod_addsField_4 : decode prog_12_method_57_code 4 = .ok (.getfield 347, 3) := by decide +kernel
theorem d_Mod_addsField_7 : decode prog_12_method_57_code 7 = .ok (.iload_n 1, 1) := by decide +kernel
theorem d_Mod_addsField_8 : decode prog_12_method_57_code 8 = .ok (.iaload, 1) := by decide +kernel
theorem d_Mod_addsField_9 : decode prog_12_method_57_code 9 = .ok (.if_icmp .ge 25, 3) := by decide +kernel
theorem d_Mod_addsField_12 : decode prog_12_method_57_code 12 = .ok (.aload_n 0, 1) := by decide +kernel
theorem d_Mod_addsField_13 : decode prog_12_method_57_code 13 = .ok (.getfield 350, 3) := by decide +kernel
theorem d_Mod_addsField_16 : decode prog_12_method_57_code 16 = .ok (.bipush 124, 2) := by decide +kernel
theorem d_Mod_addsField_18 : decode prog_12_method_57_code 18 = .ok (.iload_n 1, 1) := by decide +kernel
theorem d_Mod_addsField_19 : decode prog_12_method_57_code 19 = .ok (.imul, 1) := by decide +kernel
theorem d_Mod_addsField_20 : decode prog_12_method_57_code 20 = .ok (.iload_n 3, 1) := by decide +kernel
theorem d_Mod_addsField_21 : decode prog_12_method_57_code 21 = .ok (.iadd, 1) := by decide +kernel
theorem d_Mod_addsField_22 : decode prog_12_method_57_code 22 = .ok (.iaload, 1) := by decide +kernel
theorem d_Mod_addsField_23 : decode prog_12_method_57_code 23 = .ok (.iload_n 2, 1) := by decide +kernel
theorem d_Mod_addsField_24 : decode prog_12_method_57_code 24 = .ok (.if_icmp .ne 4, 3) := by decide +kernel
theorem d_Mod_addsField_27 : decode prog_12_method_57_code 27 = .ok (.return_, 1) := by decide +kernel
theorem d_Mod_addsField_28 : decode prog_12_method_57_code 28 = .ok (.iinc 3 1, 3) := by decide +kernel
theorem d_Mod_addsField_31 : decode prog_12_method_57_code 31 = .ok (.goto (-29), 3) := by decide +kernel
theorem d_Mod_addsField_34 : decode prog_12_method_57_code 34 = .ok (.aload_n 0, 1) := by decide +kernel
theorem d_Mod_addsField_35 : decode prog_12_method_57_code 35 = .ok (.getfield 350, 3) := by decide +kernel
theorem d_Mod_addsField_38 : decode prog_12_method_57_code 38 = .ok (.bipush 124, 2) := by decide +kernel
theorem d_Mod_addsField_40 : decode prog_12_method_57_code 40 = .ok (.iload_n 1, 1) := by decide +kernel
theorem d_Mod_addsField_41 : decode prog_12_method_57_code 41 = .ok (.imul, 1) := by decide +kernel
theorem d_Mod_addsField_42 : decode prog_12_method_57_code 42 = .ok (.aload_n 0, 1) := by decide +kernel
theorem d_Mod_addsField_43 : decode prog_12_method_57_code 43 = .ok (.getfield 347, 3) := by decide +kernel
theorem d_Mod_addsField_46 : decode prog_12_method_57_code 46 = .ok (.iload_n 1, 1) := by decide +kernel
theorem d_Mod_addsField_47 : decode prog_12_method_57_code 47 = .ok (.iaload, 1) := by decide +kernel
theorem d_Mod_addsField_48 : decode prog_12_method_57_code 48 = .ok (.iadd, 1) := by decide +kernel
theorem d_Mod_addsField_49 : decode prog_12_method_57_code 49 = .ok (.iload_n 2, 1) := by decide +kernel
theorem d_Mod_addsField_50 : decode prog_12_method_57_code 50 = .ok (.iastore, 1) := by decide +kernel
theorem d_Mod_addsField_51 : decode prog_12_method_57_code 51 = .ok (.aload_n 0, 1) := by decide +kernel
theorem d_Mod_addsField_52 : decode prog_12_method_57_code 52 = .ok (.getfield 347, 3) := by decide +kernel
theorem d_Mod_addsField_55 : decode prog_12_method_57_code 55 = .ok (.iload_n 1, 1) := by decide +kernel
theorem d_Mod_addsField_56 : decode prog_12_method_57_code 56 = .ok (.dup2, 1) := by decide +kernel
theorem d_Mod_addsField_57 : decode prog_12_method_57_code 57 = .ok (.iaload, 1) := by decide +kernel
theorem d_Mod_addsField_58 : decode prog_12_method_57_code 58 = .ok (.iconst 1, 1) := by decide +kernel
theorem d_Mod_addsField_59 : decode prog_12_method_57_code 59 = .ok (.iadd, 1) := by decide +kernel
theorem d_Mod_addsField_60 : decode prog_12_method_57_code 60 = .ok (.iastore, 1) := by decide +kernel
theorem d_Mod_addsField_61 : decode prog_12_method_57_code 61 = .ok (.return_, 1) := by decide +kernel
def fm_Mod_addsField_l2 (a1 : Int) (a2 : Int) : Nat → Int → fa_W → Option fa_W
  | 0, _, _ => none
  | n + 1, x3, w => (fa_ix a1 24).bind fun j1 =>
  if fa_wr (w 214 j1) ≤ fa_wr x3 then
  ((fa_ix a1 24).bind fun j3 =>
  (fa_ix ((124 * a1) + (w 214 j3)) 2976).bind fun j4 =>
  fa_let (fa_st w 213 j4 a2) fun w5 =>
  (fa_ix a1 24).bind fun j6 =>
  (fa_ix a1 24).bind fun j7 =>
  fa_let (fa_st w5 214 j7 ((w5 214 j6) + 1)) fun w8 =>
  some w8)
  else
  ((fa_ix ((124 * a1) + x3) 2976).bind fun j9 =>
  if fa_wr (w 213 j9) = fa_wr a2 then
  some w
  else
  (fa_let (x3 + 1) fun x3_11 =>
  fm_Mod_addsField_l2 a1 a2 n x3_11 w))
set_option maxHeartbeats 4000000 in
set_option maxRecDepth 100000 in
theorem c_Mod_addsField_l2 {p : Program} {l : Launch} {e : Env} {s : State} {m : MethodId} {args : Array Value} {below : List Frame} {meth : Method} {c : Code} {hh : Nat} {D : va_G} {b : Nat} {aC : Nat → ClassId} {H0 : Heap} {N T : Nat} (X : fa_GX p s m args meth c prog_12_method_57_code 4 ((Option.none : Option Jvm.ClassFile.FieldType)) y_Mod_addsField.cls D b aC) (hle : 0 ≤ hh) (hN : fa_NM ≤ N) (hT : fa_TM ≤ T) (a1 : Int) (a2 : Int) {r : fa_W}  : ∀ (n : Nat) (x3 : Int) (w : fa_W), fm_Mod_addsField_l2 a1 a2 n x3 w = some r → fa_GJ p l e (fa_rm hh) s m args below meth c 0 0 (MQ below (fa_Qc D b aC H0 N T (none) r) args s 0 0 (fun q => b ≤ q)) D b aC H0 N T 4 w 2 [(0, .ref (b + 181)), (1, .int (fa_I a1)), (2, .int (fa_I a2)), (3, .int (fa_I x3))] [] := by
  intro n
  induction n with
  | zero => intro x3 w hM; exact fa_no hM
  | succ n ih =>
    intro x3 w hM
    rw [fm_Mod_addsField_l2] at hM
    refine g_iload_n X 3 rfl d_Mod_addsField_2 ?_
    refine g_aload_n X 0 rfl d_Mod_addsField_3 ?_
    refine g_get X ck_10 fo_181 (fn_181 hN) 57 (by decide) wd_1798 rfl (fr_181_57 rfl hT) d_Mod_addsField_4 ?_
    refine g_iload_n X 1 rfl d_Mod_addsField_7 ?_
    obtain ⟨j1, ej1, hM⟩ := fa_ob hM
    refine g_iald X fs_214 (fn_214 hN) ej1 d_Mod_addsField_8 ?_
    refine g_icmp_ge X 34 d_Mod_addsField_9 (by decide) (fun hc2 => ?_) (fun hc2 => ?_)
    · have hM := fa_if_t hM hc2
      refine g_aload_n X 0 rfl d_Mod_addsField_34 ?_
      refine g_get X ck_10 fo_181 (fn_181 hN) 56 (by decide) wd_1797 rfl (fr_181_56 rfl hT) d_Mod_addsField_35 ?_
      refine g_bipush X (by decide) d_Mod_addsField_38 ?_
      refine g_iload_n X 1 rfl d_Mod_addsField_40 ?_
      refine g_imul X d_Mod_addsField_41 ?_
      refine g_aload_n X 0 rfl d_Mod_addsField_42 ?_
      refine g_get X ck_10 fo_181 (fn_181 hN) 57 (by decide) wd_1798 rfl (fr_181_57 rfl hT) d_Mod_addsField_43 ?_
      refine g_iload_n X 1 rfl d_Mod_addsField_46 ?_
      obtain ⟨j3, ej3, hM⟩ := fa_ob hM
      refine g_iald X fs_214 (fn_214 hN) ej3 d_Mod_addsField_47 ?_
      refine g_iadd X d_Mod_addsField_48 ?_
      refine g_iload_n X 2 rfl d_Mod_addsField_49 ?_
      obtain ⟨j4, ej4, hM⟩ := fa_ob hM
      refine g_iast X fs_213 (fn_213 hN) ej4 d_Mod_addsField_50 (fun w5 ew5 => ?_)
      have hM := fa_let_to hM ew5
      refine g_aload_n X 0 rfl d_Mod_addsField_51 ?_
      refine g_get X ck_10 fo_181 (fn_181 hN) 57 (by decide) wd_1798 rfl (fr_181_57 rfl hT) d_Mod_addsField_52 ?_
      refine g_iload_n X 1 rfl d_Mod_addsField_55 ?_
      refine g_dup2 X rfl rfl d_Mod_addsField_56 ?_
      obtain ⟨j6, ej6, hM⟩ := fa_ob hM
      refine g_iald X fs_214 (fn_214 hN) ej6 d_Mod_addsField_57 ?_
      refine g_iconst X d_Mod_addsField_58 ?_
      refine g_iadd X d_Mod_addsField_59 ?_
      obtain ⟨j7, ej7, hM⟩ := fa_ob hM
      refine g_iast X fs_214 (fn_214 hN) ej7 d_Mod_addsField_60 (fun w8 ew8 => ?_)
      have hM := fa_let_to hM ew8
      cases hM
      exact g_vret X d_Mod_addsField_61
    · have hM := fa_if_f hM hc2
      refine g_aload_n X 0 rfl d_Mod_addsField_12 ?_
      refine g_get X ck_10 fo_181 (fn_181 hN) 56 (by decide) wd_1797 rfl (fr_181_56 rfl hT) d_Mod_addsField_13 ?_
      refine g_bipush X (by decide) d_Mod_addsField_16 ?_
      refine g_iload_n X 1 rfl d_Mod_addsField_18 ?_
      refine g_imul X d_Mod_addsField_19 ?_
      refine g_iload_n X 3 rfl d_Mod_addsField_20 ?_
      refine g_iadd X d_Mod_addsField_21 ?_
      obtain ⟨j9, ej9, hM⟩ := fa_ob hM
      refine g_iald X fs_213 (fn_213 hN) ej9 d_Mod_addsField_22 ?_
      refine g_iload_n X 2 rfl d_Mod_addsField_23 ?_
      refine g_icmp_ne X 28 d_Mod_addsField_24 (by decide) (fun hc10 => ?_) (fun hc10 => ?_)
      · have hM := fa_if_f hM hc10
        refine g_iinc X 3 (fun x3_11 => [(3, .int (fa_I x3_11)), (0, .ref (b + 181)), (1, .int (fa_I a1)), (2, .int (fa_I a2))]) d_Mod_addsField_28 rfl (by decide) (fun _ => rfl) (fun x3_11 ex3_11 => ?_)
        have hM := fa_let_to hM ex3_11
        refine g_goto X 2 d_Mod_addsField_31 (by decide) ?_
        exact g_lv [1, 2, 3, 0] rfl (ih _ _ hM)
      · have hM := fa_if_t hM hc10
        cases hM
        exact g_vret X d_Mod_addsField_27
def fm_Mod_addsField (a1 : Int) (a2 : Int) (w : fa_W) : Option fa_W :=
  fm_Mod_addsField_l2 a1 a2 fa_FU 0 w
set_option maxHeartbeats 4000000 in
set_option maxRecDepth 100000 in
theorem c_Mod_addsField {l : Launch} {D : va_G} {b : Nat} {aC : Nat → ClassId} {H0 : Heap} {N T : Nat} (hN : fa_NM ≤ N) (hT : fa_TM ≤ T) (a1 : Int) (a2 : Int)  (w : fa_W) (r : fa_W) (hM : fm_Mod_addsField a1 a2 w = some r) : fa_MC l D b aC H0 N T y_Mod_addsField prog_12_method_57_code 4 ((Option.none : Option Jvm.ClassFile.FieldType)) (0) [.ref (b + 181), .int (fa_I a1), .int (fa_I a2)] w (none) r := by
  refine fa_enter (lv := [(0, .ref (b + 181)), (1, .int (fa_I a1)), (2, .int (fa_I a2))]) (by decide +kernel) (Nat.le_of_ble_eq_true rfl) rfl (fun hh hle hnm X => ?_)
  unfold fm_Mod_addsField at hM
  refine g_iconst X d_Mod_addsField_0 ?_
  refine g_istorec_n X [(3, .int (fa_I 0)), (0, .ref (b + 181)), (1, .int (fa_I a1)), (2, .int (fa_I a2))] d_Mod_addsField_1 (by decide) rfl ?_
  exact g_lv [1, 2, 3, 0] rfl (c_Mod_addsField_l2 X hle hN hT a1 a2   fa_FU _ _ hM)
theorem d_Mod_collects_0 : decode prog_12_method_56_code 0 = .ok (.aload_n 0, 1) := by decide +kernel
theorem d_Mod_collects_1 : decode prog_12_method_56_code 1 = .ok (.getfield 88, 3) := by decide +kernel
theorem d_Mod_collects_4 : decode prog_12_method_56_code 4 = .ok (.iload_n 2, 1) := by decide +kernel
theorem d_Mod_collects_5 : decode prog_12_method_56_code 5 = .ok (.iaload, 1) := by decide +kernel
theorem d_Mod_collects_6 : decode prog_12_method_56_code 6 = .ok (.tableswitch 159 1 8 #[46, 159, 159, 79, 98, 134, 134, 134], 46) := by decide +kernel
theorem d_Mod_collects_52 : decode prog_12_method_56_code 52 = .ok (.aload_n 0, 1) := by decide +kernel
theorem d_Mod_collects_53 : decode prog_12_method_56_code 53 = .ok (.aload_n 0, 1) := by decide +kernel
theorem d_Mod_collects_54 : decode prog_12_method_56_code 54 = .ok (.getfield 119, 3) := by decide +kernel
theorem d_Mod_collects_57 : decode prog_12_method_56_code 57 = .ok (.aload_n 0, 1) := by decide +kernel
theorem d_Mod_collects_58 : decode prog_12_method_56_code 58 = .ok (.getfield 94, 3) := by decide +kernel
theorem d_Mod_collects_61 : decode prog_12_method_56_code 61 = .ok (.iload_n 2, 1) := by decide +kernel
theorem d_Mod_collects_62 : decode prog_12_method_56_code 62 = .ok (.iaload, 1) := by decide +kernel
theorem d_Mod_collects_63 : decode prog_12_method_56_code 63 = .ok (.iaload, 1) := by decide +kernel
theorem d_Mod_collects_64 : decode prog_12_method_56_code 64 = .ok (.iload_n 1, 1) := by decide +kernel
theorem d_Mod_collects_65 : decode prog_12_method_56_code 65 = .ok (.invokevirtual 338, 3) := by decide +kernel
theorem d_Mod_collects_68 : decode prog_12_method_56_code 68 = .ok (.ifCond .ne 97, 3) := by decide +kernel
theorem d_Mod_collects_71 : decode prog_12_method_56_code 71 = .ok (.aload_n 0, 1) := by decide +kernel
theorem d_Mod_collects_72 : decode prog_12_method_56_code 72 = .ok (.iload_n 1, 1) := by decide +kernel
theorem d_Mod_collects_73 : decode prog_12_method_56_code 73 = .ok (.aload_n 0, 1) := by decide +kernel
theorem d_Mod_collects_74 : decode prog_12_method_56_code 74 = .ok (.getfield 94, 3) := by decide +kernel
theorem d_Mod_collects_77 : decode prog_12_method_56_code 77 = .ok (.iload_n 2, 1) := by decide +kernel
theorem d_Mod_collects_78 : decode prog_12_method_56_code 78 = .ok (.iaload, 1) := by decide +kernel
theorem d_Mod_collects_79 : decode prog_12_method_56_code 79 = .ok (.invokevirtual 341, 3) := by decide +kernel
theorem d_Mod_collects_82 : decode prog_12_method_56_code 82 = .ok (.goto 83, 3) := by decide +kernel
theorem d_Mod_collects_85 : decode prog_12_method_56_code 85 = .ok (.aload_n 0, 1) := by decide +kernel
theorem d_Mod_collects_86 : decode prog_12_method_56_code 86 = .ok (.iload_n 1, 1) := by decide +kernel
theorem d_Mod_collects_87 : decode prog_12_method_56_code 87 = .ok (.aload_n 0, 1) := by decide +kernel
theorem d_Mod_collects_88 : decode prog_12_method_56_code 88 = .ok (.getfield 166, 3) := by decide +kernel
theorem d_Mod_collects_91 : decode prog_12_method_56_code 91 = .ok (.aload_n 0, 1) := by decide +kernel
theorem d_Mod_collects_92 : decode prog_12_method_56_code 92 = .ok (.getfield 94, 3) := by decide +kernel
theorem d_Mod_collects_95 : decode prog_12_method_56_code 95 = .ok (.iload_n 2, 1) := by decide +kernel
theorem d_Mod_collects_96 : decode prog_12_method_56_code 96 = .ok (.iaload, 1) := by decide +kernel
theorem d_Mod_collects_97 : decode prog_12_method_56_code 97 = .ok (.iaload, 1) := by decide +kernel
theorem d_Mod_collects_98 : decode prog_12_method_56_code 98 = .ok (.invokevirtual 344, 3) := by decide +kernel
theorem d_Mod_collects_101 : decode prog_12_method_56_code 101 = .ok (.goto 64, 3) := by decide +kernel
theorem d_Mod_collects_104 : decode prog_12_method_56_code 104 = .ok (.aload_n 0, 1) := by decide +kernel
theorem d_Mod_collects_105 : decode prog_12_method_56_code 105 = .ok (.iload_n 1, 1) := by decide +kernel
theorem d_Mod_collects_106 : decode prog_12_method_56_code 106 = .ok (.aload_n 0, 1) := by decide +kernel
theorem d_Mod_collects_107 : decode prog_12_method_56_code 107 = .ok (.getfield 94, 3) := by decide +kernel
theorem d_Mod_collects_110 : decode prog_12_method_56_code 110 = .ok (.iload_n 2, 1) := by decide +kernel
theorem d_Mod_collects_111 : decode prog_12_method_56_code 111 = .ok (.iaload, 1) := by decide +kernel
theorem d_Mod_collects_112 : decode prog_12_method_56_code 112 = .ok (.invokevirtual 344, 3) := by decide +kernel
theorem d_Mod_collects_115 : decode prog_12_method_56_code 115 = .ok (.aload_n 0, 1) := by decide +kernel
theorem d_Mod_collects_116 : decode prog_12_method_56_code 116 = .ok (.iload_n 1, 1) := by decide +kernel
theorem d_Mod_collects_117 : decode prog_12_method_56_code 117 = .ok (.aload_n 0, 1) := by decide +kernel
theorem d_Mod_collects_118 : decode prog_12_method_56_code 118 = .ok (.getfield 97, 3) := by decide +kernel
theorem d_Mod_collects_121 : decode prog_12_method_56_code 121 = .ok (.iload_n 2, 1) := by decide +kernel
theorem d_Mod_collects_122 : decode prog_12_method_56_code 122 = .ok (.iaload, 1) := by decide +kernel
theorem d_Mod_collects_123 : decode prog_12_method_56_code 123 = .ok (.invokevirtual 344, 3) := by decide +kernel
theorem d_Mod_collects_126 : decode prog_12_method_56_code 126 = .ok (.aload_n 0, 1) := by decide +kernel
theorem d_Mod_collects_127 : decode prog_12_method_56_code 127 = .ok (.iload_n 1, 1) := by decide +kernel
theorem d_Mod_collects_128 : decode prog_12_method_56_code 128 = .ok (.aload_n 0, 1) := by decide +kernel
theorem d_Mod_collects_129 : decode prog_12_method_56_code 129 = .ok (.getfield 100, 3) := by decide +kernel
theorem d_Mod_collects_132 : decode prog_12_method_56_code 132 = .ok (.iload_n 2, 1) := by decide +kernel
theorem d_Mod_collects_133 : decode prog_12_method_56_code 133 = .ok (.iaload, 1) := by decide +kernel
theorem d_Mod_collects_134 : decode prog_12_method_56_code 134 = .ok (.invokevirtual 344, 3) := by decide +kernel
theorem d_Mod_collects_137 : decode prog_12_method_56_code 137 = .ok (.goto 28, 3) := by decide +kernel
theorem d_Mod_collects_140 : decode prog_12_method_56_code 140 = .ok (.aload_n 0, 1) := by decide +kernel
theorem d_Mod_collects_141 : decode prog_12_method_56_code 141 = .ok (.iload_n 1, 1) := by decide +kernel
theorem d_Mod_collects_142 : decode prog_12_method_56_code 142 = .ok (.aload_n 0, 1) := by decide +kernel
theorem d_Mod_collects_143 : decode prog_12_method_56_code 143 = .ok (.getfield 94, 3) := by decide +kernel
theorem d_Mod_collects_146 : decode prog_12_method_56_code 146 = .ok (.iload_n 2, 1) := by decide +kernel
theorem d_Mod_collects_147 : decode prog_12_method_56_code 147 = .ok (.iaload, 1) := by decide +kernel
theorem d_Mod_collects_148 : decode prog_12_method_56_code 148 = .ok (.invokevirtual 344, 3) := by decide +kernel
theorem d_Mod_collects_151 : decode prog_12_method_56_code 151 = .ok (.aload_n 0, 1) := by decide +kernel
theorem d_Mod_collects_152 : decode prog_12_method_56_code 152 = .ok (.iload_n 1, 1) := by decide +kernel
theorem d_Mod_collects_153 : decode prog_12_method_56_code 153 = .ok (.aload_n 0, 1) := by decide +kernel
theorem d_Mod_collects_154 : decode prog_12_method_56_code 154 = .ok (.getfield 97, 3) := by decide +kernel
theorem d_Mod_collects_157 : decode prog_12_method_56_code 157 = .ok (.iload_n 2, 1) := by decide +kernel
theorem d_Mod_collects_158 : decode prog_12_method_56_code 158 = .ok (.iaload, 1) := by decide +kernel
theorem d_Mod_collects_159 : decode prog_12_method_56_code 159 = .ok (.invokevirtual 344, 3) := by decide +kernel
theorem d_Mod_collects_162 : decode prog_12_method_56_code 162 = .ok (.goto 3, 3) := by decide +kernel
theorem d_Mod_collects_165 : decode prog_12_method_56_code 165 = .ok (.return_, 1) := by decide +kernel
def fm_Mod_collects_b (rc_collects : Int → Int → fa_W → Option fa_W) (a1 : Int) (a2 : Int) (w : fa_W) : Option fa_W :=
  (fa_ix a2 101).bind fun j1 =>
  if fa_wr (w 184 j1) = 1 then
  ((fa_ix a2 101).bind fun j3 =>
  (fa_ix (w 185 j3) 124).bind fun j4 =>
  (fm_Mod_isWithin (w 193 j4) a1 w).bind fun v6 =>
  if v6 = true then
  some w
  else
  ((fa_ix a2 101).bind fun j8 =>
  (fm_Mod_addsField a1 (w 185 j8) w).bind fun w10 =>
  some w10))
  else
  if fa_wr (w 184 j1) = 4 then
  ((fa_ix a2 101).bind fun j12 =>
  (fa_ix (w 185 j12) 24).bind fun j13 =>
  (rc_collects a1 (w 189 j13) w).bind fun w15 =>
  some w15)
  else
  if fa_wr (w 184 j1) = 5 then
  ((fa_ix a2 101).bind fun j17 =>
  (rc_collects a1 (w 185 j17) w).bind fun w19 =>
  (fa_ix a2 101).bind fun j20 =>
  (rc_collects a1 (w19 186 j20) w19).bind fun w22 =>
  (fa_ix a2 101).bind fun j23 =>
  (rc_collects a1 (w22 187 j23) w22).bind fun w25 =>
  some w25)
  else
  if fa_wr (w 184 j1) = 6 then
  ((fa_ix a2 101).bind fun j27 =>
  (rc_collects a1 (w 185 j27) w).bind fun w29 =>
  (fa_ix a2 101).bind fun j30 =>
  (rc_collects a1 (w29 186 j30) w29).bind fun w32 =>
  some w32)
  else
  if fa_wr (w 184 j1) = 7 then
  ((fa_ix a2 101).bind fun j34 =>
  (rc_collects a1 (w 185 j34) w).bind fun w36 =>
  (fa_ix a2 101).bind fun j37 =>
  (rc_collects a1 (w36 186 j37) w36).bind fun w39 =>
  some w39)
  else
  if fa_wr (w 184 j1) = 8 then
  ((fa_ix a2 101).bind fun j41 =>
  (rc_collects a1 (w 185 j41) w).bind fun w43 =>
  (fa_ix a2 101).bind fun j44 =>
  (rc_collects a1 (w43 186 j44) w43).bind fun w46 =>
  some w46)
  else
  some w
set_option maxHeartbeats 4000000 in
set_option maxRecDepth 100000 in
theorem c_Mod_collects_b {l : Launch} {D : va_G} {b : Nat} {aC : Nat → ClassId} {H0 : Heap} {N T : Nat} (hN : fa_NM ≤ N) (hT : fa_TM ≤ T) (dd : Nat) (rc_collects : Int → Int → fa_W → Option fa_W) (Rrc_collects : ∀ (a1 : Int) (a2 : Int) (w : fa_W) (r : fa_W), rc_collects a1 a2 w = some r → fa_MC l D b aC H0 N T y_Mod_collects prog_12_method_56_code 3 ((Option.none : Option Jvm.ClassFile.FieldType)) (1 + dd) [.ref (b + 181), .int (fa_I a1), .int (fa_I a2)] w (none) r) (a1 : Int) (a2 : Int)  (w : fa_W) (r : fa_W) (hM : fm_Mod_collects_b rc_collects a1 a2 w = some r) : fa_MC l D b aC H0 N T y_Mod_collects prog_12_method_56_code 3 ((Option.none : Option Jvm.ClassFile.FieldType)) (1 + dd + 1) [.ref (b + 181), .int (fa_I a1), .int (fa_I a2)] w (none) r := by
  refine fa_enter (lv := [(0, .ref (b + 181)), (1, .int (fa_I a1)), (2, .int (fa_I a2))]) (by decide +kernel) (Nat.le_of_ble_eq_true rfl) rfl (fun hh hle hnm X => ?_)
  unfold fm_Mod_collects_b at hM
  refine g_aload_n X 0 rfl d_Mod_collects_0 ?_
  refine g_get X ck_10 fo_181 (fn_181 hN) 4 (by decide) wd_1746 rfl (fr_181_4 rfl hT) d_Mod_collects_1 ?_
  refine g_iload_n X 2 rfl d_Mod_collects_4 ?_
  obtain ⟨j1, ej1, hM⟩ := fa_ob hM
  refine g_iald X fs_184 (fn_184 hN) ej1 d_Mod_collects_5 ?_
  by_cases hc2 : fa_wr (w 184 j1) = 1
  · have hM := fa_if_t hM hc2
    refine g_tableIn X 1 52 d_Mod_collects_6 hc2 (by decide) (by decide) rfl (by decide) ?_
    refine g_aload_n X 0 rfl d_Mod_collects_52 ?_
    refine g_aload_n X 0 rfl d_Mod_collects_53 ?_
    refine g_get X ck_10 fo_181 (fn_181 hN) 13 (by decide) wd_1755 rfl (fr_181_13 rfl hT) d_Mod_collects_54 ?_
    refine g_aload_n X 0 rfl d_Mod_collects_57 ?_
    refine g_get X ck_10 fo_181 (fn_181 hN) 5 (by decide) wd_1747 rfl (fr_181_5 rfl hT) d_Mod_collects_58 ?_
    refine g_iload_n X 2 rfl d_Mod_collects_61 ?_
    obtain ⟨j3, ej3, hM⟩ := fa_ob hM
    refine g_iald X fs_185 (fn_185 hN) ej3 d_Mod_collects_62 ?_
    obtain ⟨j4, ej4, hM⟩ := fa_ob hM
    refine g_iald X fs_193 (fn_193 hN) ej4 d_Mod_collects_63 ?_
    refine g_iload_n X 1 rfl d_Mod_collects_64 ?_
    obtain ⟨v6, e5, hM⟩ := fa_ob hM
    refine g_callV_i X ck_10 fo_181 (fn_181 hN) rfl mi_Mod_isWithin (c_Mod_isWithin hN hT (w 193 j4) a1 w _ e5) wd_1698 rfl (by omega) (st := []) (Nat.le_of_ble_eq_true rfl) rfl d_Mod_collects_65 ?_
    refine g_ifb_ne X 165 d_Mod_collects_68 (by decide) (fun hc7 => ?_) (fun hc7 => ?_)
    · have hM := fa_ifb_t hM hc7
      cases hM
      exact g_vret X d_Mod_collects_165
    · have hM := fa_ifb_f hM hc7
      refine g_aload_n X 0 rfl d_Mod_collects_71 ?_
      refine g_iload_n X 1 rfl d_Mod_collects_72 ?_
      refine g_aload_n X 0 rfl d_Mod_collects_73 ?_
      refine g_get X ck_10 fo_181 (fn_181 hN) 5 (by decide) wd_1747 rfl (fr_181_5 rfl hT) d_Mod_collects_74 ?_
      refine g_iload_n X 2 rfl d_Mod_collects_77 ?_
      obtain ⟨j8, ej8, hM⟩ := fa_ob hM
      refine g_iald X fs_185 (fn_185 hN) ej8 d_Mod_collects_78 ?_
      obtain ⟨w10, e9, hM⟩ := fa_ob hM
      refine g_callV_v X ck_10 fo_181 (fn_181 hN) rfl mi_Mod_addsField (c_Mod_addsField hN hT a1 (w 185 j8) w _ e9) wd_1702 rfl (by omega) (st := []) (Nat.le_of_ble_eq_true rfl) rfl d_Mod_collects_79 ?_
      refine g_goto X 165 d_Mod_collects_82 (by decide) ?_
      cases hM
      exact g_vret X d_Mod_collects_165
  have hM := fa_if_f hM hc2
  by_cases hc11 : fa_wr (w 184 j1) = 4
  · have hM := fa_if_t hM hc11
    refine g_tableIn X 4 85 d_Mod_collects_6 hc11 (by decide) (by decide) rfl (by decide) ?_
    refine g_aload_n X 0 rfl d_Mod_collects_85 ?_
    refine g_iload_n X 1 rfl d_Mod_collects_86 ?_
    refine g_aload_n X 0 rfl d_Mod_collects_87 ?_
    refine g_get X ck_10 fo_181 (fn_181 hN) 9 (by decide) wd_1751 rfl (fr_181_9 rfl hT) d_Mod_collects_88 ?_
    refine g_aload_n X 0 rfl d_Mod_collects_91 ?_
    refine g_get X ck_10 fo_181 (fn_181 hN) 5 (by decide) wd_1747 rfl (fr_181_5 rfl hT) d_Mod_collects_92 ?_
    refine g_iload_n X 2 rfl d_Mod_collects_95 ?_
    obtain ⟨j12, ej12, hM⟩ := fa_ob hM
    refine g_iald X fs_185 (fn_185 hN) ej12 d_Mod_collects_96 ?_
    obtain ⟨j13, ej13, hM⟩ := fa_ob hM
    refine g_iald X fs_189 (fn_189 hN) ej13 d_Mod_collects_97 ?_
    obtain ⟨w15, e14, hM⟩ := fa_ob hM
    refine g_callV_v X ck_10 fo_181 (fn_181 hN) rfl mi_Mod_collects (Rrc_collects a1 (w 189 j13) w _ e14) wd_1694 rfl (by omega) (st := []) (Nat.le_of_ble_eq_true rfl) rfl d_Mod_collects_98 ?_
    refine g_goto X 165 d_Mod_collects_101 (by decide) ?_
    cases hM
    exact g_vret X d_Mod_collects_165
  have hM := fa_if_f hM hc11
  by_cases hc16 : fa_wr (w 184 j1) = 5
  · have hM := fa_if_t hM hc16
    refine g_tableIn X 5 104 d_Mod_collects_6 hc16 (by decide) (by decide) rfl (by decide) ?_
    refine g_aload_n X 0 rfl d_Mod_collects_104 ?_
    refine g_iload_n X 1 rfl d_Mod_collects_105 ?_
    refine g_aload_n X 0 rfl d_Mod_collects_106 ?_
    refine g_get X ck_10 fo_181 (fn_181 hN) 5 (by decide) wd_1747 rfl (fr_181_5 rfl hT) d_Mod_collects_107 ?_
    refine g_iload_n X 2 rfl d_Mod_collects_110 ?_
    obtain ⟨j17, ej17, hM⟩ := fa_ob hM
    refine g_iald X fs_185 (fn_185 hN) ej17 d_Mod_collects_111 ?_
    obtain ⟨w19, e18, hM⟩ := fa_ob hM
    refine g_callV_v X ck_10 fo_181 (fn_181 hN) rfl mi_Mod_collects (Rrc_collects a1 (w 185 j17) w _ e18) wd_1694 rfl (by omega) (st := []) (Nat.le_of_ble_eq_true rfl) rfl d_Mod_collects_112 ?_
    refine g_aload_n X 0 rfl d_Mod_collects_115 ?_
    refine g_iload_n X 1 rfl d_Mod_collects_116 ?_
    refine g_aload_n X 0 rfl d_Mod_collects_117 ?_
    refine g_get X ck_10 fo_181 (fn_181 hN) 6 (by decide) wd_1748 rfl (fr_181_6 rfl hT) d_Mod_collects_118 ?_
    refine g_iload_n X 2 rfl d_Mod_collects_121 ?_
    obtain ⟨j20, ej20, hM⟩ := fa_ob hM
    refine g_iald X fs_186 (fn_186 hN) ej20 d_Mod_collects_122 ?_
    obtain ⟨w22, e21, hM⟩ := fa_ob hM
    refine g_callV_v X ck_10 fo_181 (fn_181 hN) rfl mi_Mod_collects (Rrc_collects a1 (w19 186 j20) w19 _ e21) wd_1694 rfl (by omega) (st := []) (Nat.le_of_ble_eq_true rfl) rfl d_Mod_collects_123 ?_
    refine g_aload_n X 0 rfl d_Mod_collects_126 ?_
    refine g_iload_n X 1 rfl d_Mod_collects_127 ?_
    refine g_aload_n X 0 rfl d_Mod_collects_128 ?_
    refine g_get X ck_10 fo_181 (fn_181 hN) 7 (by decide) wd_1749 rfl (fr_181_7 rfl hT) d_Mod_collects_129 ?_
    refine g_iload_n X 2 rfl d_Mod_collects_132 ?_
    obtain ⟨j23, ej23, hM⟩ := fa_ob hM
    refine g_iald X fs_187 (fn_187 hN) ej23 d_Mod_collects_133 ?_
    obtain ⟨w25, e24, hM⟩ := fa_ob hM
    refine g_callV_v X ck_10 fo_181 (fn_181 hN) rfl mi_Mod_collects (Rrc_collects a1 (w22 187 j23) w22 _ e24) wd_1694 rfl (by omega) (st := []) (Nat.le_of_ble_eq_true rfl) rfl d_Mod_collects_134 ?_
    refine g_goto X 165 d_Mod_collects_137 (by decide) ?_
    cases hM
    exact g_vret X d_Mod_collects_165
  have hM := fa_if_f hM hc16
  by_cases hc26 : fa_wr (w 184 j1) = 6
  · have hM := fa_if_t hM hc26
    refine g_tableIn X 6 140 d_Mod_collects_6 hc26 (by decide) (by decide) rfl (by decide) ?_
    refine g_aload_n X 0 rfl d_Mod_collects_140 ?_
    refine g_iload_n X 1 rfl d_Mod_collects_141 ?_
    refine g_aload_n X 0 rfl d_Mod_collects_142 ?_
    refine g_get X ck_10 fo_181 (fn_181 hN) 5 (by decide) wd_1747 rfl (fr_181_5 rfl hT) d_Mod_collects_143 ?_
    refine g_iload_n X 2 rfl d_Mod_collects_146 ?_
    obtain ⟨j27, ej27, hM⟩ := fa_ob hM
    refine g_iald X fs_185 (fn_185 hN) ej27 d_Mod_collects_147 ?_
    obtain ⟨w29, e28, hM⟩ := fa_ob hM
    refine g_callV_v X ck_10 fo_181 (fn_181 hN) rfl mi_Mod_collects (Rrc_collects a1 (w 185 j27) w _ e28) wd_1694 rfl (by omega) (st := []) (Nat.le_of_ble_eq_true rfl) rfl d_Mod_collects_148 ?_
    refine g_aload_n X 0 rfl d_Mod_collects_151 ?_
    refine g_iload_n X 1 rfl d_Mod_collects_152 ?_
    refine g_aload_n X 0 rfl d_Mod_collects_153 ?_
    refine g_get X ck_10 fo_181 (fn_181 hN) 6 (by decide) wd_1748 rfl (fr_181_6 rfl hT) d_Mod_collects_154 ?_
    refine g_iload_n X 2 rfl d_Mod_collects_157 ?_
    obtain ⟨j30, ej30, hM⟩ := fa_ob hM
    refine g_iald X fs_186 (fn_186 hN) ej30 d_Mod_collects_158 ?_
    obtain ⟨w32, e31, hM⟩ := fa_ob hM
    refine g_callV_v X ck_10 fo_181 (fn_181 hN) rfl mi_Mod_collects (Rrc_collects a1 (w29 186 j30) w29 _ e31) wd_1694 rfl (by omega) (st := []) (Nat.le_of_ble_eq_true rfl) rfl d_Mod_collects_159 ?_
    refine g_goto X 165 d_Mod_collects_162 (by decide) ?_
    cases hM
    exact g_vret X d_Mod_collects_165
  have hM := fa_if_f hM hc26
  by_cases hc33 : fa_wr (w 184 j1) = 7
  · have hM := fa_if_t hM hc33
    refine g_tableIn X 7 140 d_Mod_collects_6 hc33 (by decide) (by decide) rfl (by decide) ?_
    refine g_aload_n X 0 rfl d_Mod_collects_140 ?_
    refine g_iload_n X 1 rfl d_Mod_collects_141 ?_
    refine g_aload_n X 0 rfl d_Mod_collects_142 ?_
    refine g_get X ck_10 fo_181 (fn_181 hN) 5 (by decide) wd_1747 rfl (fr_181_5 rfl hT) d_Mod_collects_143 ?_
    refine g_iload_n X 2 rfl d_Mod_collects_146 ?_
    obtain ⟨j34, ej34, hM⟩ := fa_ob hM
    refine g_iald X fs_185 (fn_185 hN) ej34 d_Mod_collects_147 ?_
    obtain ⟨w36, e35, hM⟩ := fa_ob hM
    refine g_callV_v X ck_10 fo_181 (fn_181 hN) rfl mi_Mod_collects (Rrc_collects a1 (w 185 j34) w _ e35) wd_1694 rfl (by omega) (st := []) (Nat.le_of_ble_eq_true rfl) rfl d_Mod_collects_148 ?_
    refine g_aload_n X 0 rfl d_Mod_collects_151 ?_
    refine g_iload_n X 1 rfl d_Mod_collects_152 ?_
    refine g_aload_n X 0 rfl d_Mod_collects_153 ?_
    refine g_get X ck_10 fo_181 (fn_181 hN) 6 (by decide) wd_1748 rfl (fr_181_6 rfl hT) d_Mod_collects_154 ?_
    refine g_iload_n X 2 rfl d_Mod_collects_157 ?_
    obtain ⟨j37, ej37, hM⟩ := fa_ob hM
    refine g_iald X fs_186 (fn_186 hN) ej37 d_Mod_collects_158 ?_
    obtain ⟨w39, e38, hM⟩ := fa_ob hM
    refine g_callV_v X ck_10 fo_181 (fn_181 hN) rfl mi_Mod_collects (Rrc_collects a1 (w36 186 j37) w36 _ e38) wd_1694 rfl (by omega) (st := []) (Nat.le_of_ble_eq_true rfl) rfl d_Mod_collects_159 ?_
    refine g_goto X 165 d_Mod_collects_162 (by decide) ?_
    cases hM
    exact g_vret X d_Mod_collects_165
  have hM := fa_if_f hM hc33
  by_cases hc40 : fa_wr (w 184 j1) = 8
  · have hM := fa_if_t hM hc40
    refine g_tableIn X 8 140 d_Mod_collects_6 hc40 (by decide) (by decide) rfl (by decide) ?_
    refine g_aload_n X 0 rfl d_Mod_collects_140 ?_
    refine g_iload_n X 1 rfl d_Mod_collects_141 ?_
    refine g_aload_n X 0 rfl d_Mod_collects_142 ?_
    refine g_get X ck_10 fo_181 (fn_181 hN) 5 (by decide) wd_1747 rfl (fr_181_5 rfl hT) d_Mod_collects_143 ?_
    refine g_iload_n X 2 rfl d_Mod_collects_146 ?_
    obtain ⟨j41, ej41, hM⟩ := fa_ob hM
    refine g_iald X fs_185 (fn_185 hN) ej41 d_Mod_collects_147 ?_
    obtain ⟨w43, e42, hM⟩ := fa_ob hM
    refine g_callV_v X ck_10 fo_181 (fn_181 hN) rfl mi_Mod_collects (Rrc_collects a1 (w 185 j41) w _ e42) wd_1694 rfl (by omega) (st := []) (Nat.le_of_ble_eq_true rfl) rfl d_Mod_collects_148 ?_
    refine g_aload_n X 0 rfl d_Mod_collects_151 ?_
    refine g_iload_n X 1 rfl d_Mod_collects_152 ?_
    refine g_aload_n X 0 rfl d_Mod_collects_153 ?_
    refine g_get X ck_10 fo_181 (fn_181 hN) 6 (by decide) wd_1748 rfl (fr_181_6 rfl hT) d_Mod_collects_154 ?_
    refine g_iload_n X 2 rfl d_Mod_collects_157 ?_
    obtain ⟨j44, ej44, hM⟩ := fa_ob hM
    refine g_iald X fs_186 (fn_186 hN) ej44 d_Mod_collects_158 ?_
    obtain ⟨w46, e45, hM⟩ := fa_ob hM
    refine g_callV_v X ck_10 fo_181 (fn_181 hN) rfl mi_Mod_collects (Rrc_collects a1 (w43 186 j44) w43 _ e45) wd_1694 rfl (by omega) (st := []) (Nat.le_of_ble_eq_true rfl) rfl d_Mod_collects_159 ?_
    refine g_goto X 165 d_Mod_collects_162 (by decide) ?_
    cases hM
    exact g_vret X d_Mod_collects_165
  have hM := fa_if_f hM hc40
  refine g_tableDef X 165 d_Mod_collects_6 (by
    by_cases h9 : fa_wr (w 184 j1) = 2
    · rw [h9]; exact Or.inr ⟨by decide, by decide, _, rfl, by decide⟩
    by_cases h9 : fa_wr (w 184 j1) = 3
    · rw [h9]; exact Or.inr ⟨by decide, by decide, _, rfl, by decide⟩
    exact Or.inl (by omega)) (by decide) ?_
  cases hM
  exact g_vret X d_Mod_collects_165
def fm_Mod_collects : Nat → Int → Int → fa_W → Option fa_W
  | 0, _, _, _ => none
  | n + 1, a1, a2, w => fm_Mod_collects_b (fm_Mod_collects n) a1 a2 w
set_option maxHeartbeats 4000000 in
set_option maxRecDepth 100000 in
theorem c_Mod_collects {l : Launch} {D : va_G} {b : Nat} {aC : Nat → ClassId} {H0 : Heap} {N T : Nat} (hN : fa_NM ≤ N) (hT : fa_TM ≤ T) : ∀ (n : Nat) (a1 : Int) (a2 : Int) (w : fa_W) (r : fa_W), fm_Mod_collects n a1 a2 w = some r → fa_MC l D b aC H0 N T y_Mod_collects prog_12_method_56_code 3 ((Option.none : Option Jvm.ClassFile.FieldType)) (1 + n) [.ref (b + 181), .int (fa_I a1), .int (fa_I a2)] w (none) r := by
  intro n
  induction n with
  | zero => intro a1 a2 w r hM; exact fa_no hM
  | succ n ih => intro a1 a2 w r hM; exact c_Mod_collects_b hN hT n (fm_Mod_collects n) ih a1 a2 w r hM
theorem d_Mod_groupAt_0 : decode prog_12_method_58_code 0 = .ok (.aload_n 0, 1) := by decide +kernel
theorem d_Mod_groupAt_1 : decode prog_12_method_58_code 1 = .ok (.getfield 353, 3) := by decide +kernel
theorem d_Mod_groupAt_4 : decode prog_12_method_58_code 4 = .ok (.bipush 24, 2) := by decide +kernel
theorem d_Mod_groupAt_6 : decode prog_12_method_58_code 6 = .ok (.iload_n 1, 1) := by decide +kernel
theorem d_Mod_groupAt_7 : decode prog_12_method_58_code 7 = .ok (.imul, 1) := by decide +kernel
theorem d_Mod_groupAt_8 : decode prog_12_method_58_code 8 = .ok (.iload_n 2, 1) := by decide +kernel
theorem d_Mod_groupAt_9 : decode prog_12_method_58_code 9 = .ok (.iadd, 1) := by decide +kernel
theorem d_Mod_groupAt_10 : decode prog_12_method_58_code 10 = .ok (.iaload, 1) := by decide +kernel
theorem d_Mod_groupAt_11 : decode prog_12_method_58_code 11 = .ok (.ireturn, 1) := by decide +kernel
def fm_Mod_groupAt (a1 : Int) (a2 : Int) (w : fa_W) : Option Int :=
  (fa_ix ((24 * a1) + a2) 72).bind fun j1 =>
  some (w 215 j1)
set_option maxHeartbeats 4000000 in
set_option maxRecDepth 100000 in
theorem c_Mod_groupAt {l : Launch} {D : va_G} {b : Nat} {aC : Nat → ClassId} {H0 : Heap} {N T : Nat} (hN : fa_NM ≤ N) (hT : fa_TM ≤ T) (a1 : Int) (a2 : Int)  (w : fa_W) (r : Int) (hM : fm_Mod_groupAt a1 a2 w = some r) : fa_MC l D b aC H0 N T y_Mod_groupAt prog_12_method_58_code 3 ((Option.some Jvm.ClassFile.FieldType.int)) (0) [.ref (b + 181), .int (fa_I a1), .int (fa_I a2)] w (some (.int (fa_I r))) w := by
  refine fa_enter (lv := [(0, .ref (b + 181)), (1, .int (fa_I a1)), (2, .int (fa_I a2))]) (by decide +kernel) (Nat.le_of_ble_eq_true rfl) rfl (fun hh hle hnm X => ?_)
  unfold fm_Mod_groupAt at hM
  refine g_aload_n X 0 rfl d_Mod_groupAt_0 ?_
  refine g_get X ck_10 fo_181 (fn_181 hN) 58 (by decide) wd_1799 rfl (fr_181_58 rfl hT) d_Mod_groupAt_1 ?_
  refine g_bipush X (by decide) d_Mod_groupAt_4 ?_
  refine g_iload_n X 1 rfl d_Mod_groupAt_6 ?_
  refine g_imul X d_Mod_groupAt_7 ?_
  refine g_iload_n X 2 rfl d_Mod_groupAt_8 ?_
  refine g_iadd X d_Mod_groupAt_9 ?_
  obtain ⟨j1, ej1, hM⟩ := fa_ob hM
  refine g_iald X fs_215 (fn_215 hN) ej1 d_Mod_groupAt_10 ?_
  cases hM
  exact g_iret X d_Mod_groupAt_11
theorem d_Mod_goTogether_0 : decode prog_12_method_59_code 0 = .ok (.iload_n 1, 1) := by decide +kernel
theorem d_Mod_goTogether_1 : decode prog_12_method_59_code 1 = .ok (.ifCond .ne 5, 3) := by decide +kernel
theorem d_Mod_goTogether_4 : decode prog_12_method_59_code 4 = .ok (.iconst 1, 1) := by decide +kernel
theorem d_Mod_goTogether_5 : decode prog_12_method_59_code 5 = .ok (.ireturn, 1) := by decide +kernel
theorem d_Mod_goTogether_6 : decode prog_12_method_59_code 6 = .ok (.iload_n 1, 1) := by decide +kernel
theorem d_Mod_goTogether_7 : decode prog_12_method_59_code 7 = .ok (.iconst 1, 1) := by decide +kernel
theorem d_Mod_goTogether_8 : decode prog_12_method_59_code 8 = .ok (.if_icmp .ne 20, 3) := by decide +kernel
theorem d_Mod_goTogether_11 : decode prog_12_method_59_code 11 = .ok (.aload_n 0, 1) := by decide +kernel
theorem d_Mod_goTogether_12 : decode prog_12_method_59_code 12 = .ok (.aload_n 0, 1) := by decide +kernel
theorem d_Mod_goTogether_13 : decode prog_12_method_59_code 13 = .ok (.getfield 273, 3) := by decide +kernel
theorem d_Mod_goTogether_16 : decode prog_12_method_59_code 16 = .ok (.iload_n 2, 1) := by decide +kernel
theorem d_Mod_goTogether_17 : decode prog_12_method_59_code 17 = .ok (.iaload, 1) := by decide +kernel
theorem d_Mod_goTogether_18 : decode prog_12_method_59_code 18 = .ok (.aload_n 0, 1) := by decide +kernel
theorem d_Mod_goTogether_19 : decode prog_12_method_59_code 19 = .ok (.getfield 273, 3) := by decide +kernel
theorem d_Mod_goTogether_22 : decode prog_12_method_59_code 22 = .ok (.iload_n 3, 1) := by decide +kernel
theorem d_Mod_goTogether_23 : decode prog_12_method_59_code 23 = .ok (.iaload, 1) := by decide +kernel
theorem d_Mod_goTogether_24 : decode prog_12_method_59_code 24 = .ok (.invokevirtual 288, 3) := by decide +kernel
theorem d_Mod_goTogether_27 : decode prog_12_method_59_code 27 = .ok (.ireturn, 1) := by decide +kernel
theorem d_Mod_goTogether_28 : decode prog_12_method_59_code 28 = .ok (.iconst 0, 1) := by decide +kernel
theorem d_Mod_goTogether_29 : decode prog_12_method_59_code 29 = .ok (.istore 4, 2) := by decide +kernel
theorem d_Mod_goTogether_31 : decode prog_12_method_59_code 31 = .ok (.iload 4, 2) := by decide +kernel
theorem d_Mod_goTogether_33 : decode prog_12_method_59_code 33 = .ok (.aload_n 0, 1) := by decide +kernel
theorem d_Mod_goTogether_34 : decode prog_12_method_59_code 34 = .ok (.getfield 197, 3) := by decide +kernel
theorem d_Mod_goTogether_37 : decode prog_12_method_59_code 37 = .ok (.if_icmp .ge 49, 3) := by decide +kernel
theorem d_Mod_goTogether_40 : decode prog_12_method_59_code 40 = .ok (.aload_n 0, 1) := by decide +kernel
theorem d_Mod_goTogether_41 : decode prog_12_method_59_code 41 = .ok (.getfield 313, 3) := by decide +kernel
theorem d_Mod_goTogether_44 : decode prog_12_method_59_code 44 = .ok (.iload 4, 2) := by decide +kernel
theorem d_Mod_goTogether_46 : decode prog_12_method_59_code 46 = .ok (.baload, 1) := by decide +kernel
theorem d_Mod_goTogether_47 : decode prog_12_method_59_code 47 = .ok (.ifCond .eq 33, 3) := by decide +kernel
theorem d_Mod_goTogether_50 : decode prog_12_method_59_code 50 = .ok (.aload_n 0, 1) := by decide +kernel
theorem d_Mod_goTogether_51 : decode prog_12_method_59_code 51 = .ok (.getfield 317, 3) := by decide +kernel
theorem d_Mod_goTogether_54 : decode prog_12_method_59_code 54 = .ok (.iload 4, 2) := by decide +kernel
theorem d_Mod_goTogether_56 : decode prog_12_method_59_code 56 = .ok (.iaload, 1) := by decide +kernel
theorem d_Mod_goTogether_57 : decode prog_12_method_59_code 57 = .ok (.iload_n 2, 1) := by decide +kernel
theorem d_Mod_goTogether_58 : decode prog_12_method_59_code 58 = .ok (.invokestatic 326, 3) := by decide +kernel
theorem d_Mod_goTogether_61 : decode prog_12_method_59_code 61 = .ok (.ifCond .eq 19, 3) := by decide +kernel
theorem d_Mod_goTogether_64 : decode prog_12_method_59_code 64 = .ok (.aload_n 0, 1) := by decide +kernel
theorem d_Mod_goTogether_65 : decode prog_12_method_59_code 65 = .ok (.getfield 317, 3) := by decide +kernel
theorem d_Mod_goTogether_68 : decode prog_12_method_59_code 68 = .ok (.iload 4, 2) := by decide +kernel
theorem d_Mod_goTogether_70 : decode prog_12_method_59_code 70 = .ok (.iaload, 1) := by decide +kernel
theorem d_Mod_goTogether_71 : decode prog_12_method_59_code 71 = .ok (.iload_n 3, 1) := by decide +kernel
theorem d_Mod_goTogether_72 : decode prog_12_method_59_code 72 = .ok (.invokestatic 326, 3) := by decide +kernel
theorem d_Mod_goTogether_75 : decode prog_12_method_59_code 75 = .ok (.ifCond .eq 5, 3) := by decide +kernel
theorem d_Mod_goTogether_78 : decode prog_12_method_59_code 78 = .ok (.iconst 1, 1) := by decide +kernel
theorem d_Mod_goTogether_79 : decode prog_12_method_59_code 79 = .ok (.ireturn, 1) := by decide +kernel
theorem d_Mod_goTogether_80 : decode prog_12_method_59_code 80 = .ok (.iinc 4 1, 3) := by decide +kernel
theorem d_Mod_goTogether_83 : decode prog_12_method_59_code 83 = .ok (.goto (-52), 3) := by decide +kernel
theorem d_Mod_goTogether_86 : decode prog_12_method_59_code 86 = .ok (.iconst 0, 1) := by decide +kernel
theorem d_Mod_goTogether_87 : decode prog_12_method_59_code 87 = .ok (.ireturn, 1) := by decide +kernel
def fm_Mod_goTogether_l31 (a1 : Int) (a2 : Int) (a3 : Int) (w : fa_W) : Nat → Int → Option Bool
  | 0, _ => none
  | n + 1, x4 => if fa_wr (w 181 20) ≤ fa_wr x4 then
  some false
  else
  ((fa_ix x4 101).bind fun j4 =>
  if decide (w 212 j4 ≠ 0) = true then
  ((fa_ix x4 101).bind fun j7 =>
  if fm_Mod_holds (w 209 j7) a2 w = true then
  ((fa_ix x4 101).bind fun j11 =>
  if fm_Mod_holds (w 209 j11) a3 w = true then
  some true
  else
  (fa_let (x4 + 1) fun x4_14 =>
  fm_Mod_goTogether_l31 a1 a2 a3 w n x4_14))
  else
  (fa_let (x4 + 1) fun x4_10 =>
  fm_Mod_goTogether_l31 a1 a2 a3 w n x4_10))
  else
  (fa_let (x4 + 1) fun x4_6 =>
  fm_Mod_goTogether_l31 a1 a2 a3 w n x4_6))
set_option maxHeartbeats 4000000 in
set_option maxRecDepth 100000 in
theorem c_Mod_goTogether_l31 {p : Program} {l : Launch} {e : Env} {s : State} {m : MethodId} {args : Array Value} {below : List Frame} {meth : Method} {c : Code} {hh : Nat} {D : va_G} {b : Nat} {aC : Nat → ClassId} {H0 : Heap} {N T : Nat} (X : fa_GX p s m args meth c prog_12_method_59_code 5 ((Option.some Jvm.ClassFile.FieldType.boolean)) y_Mod_goTogether.cls D b aC) (hle : 902 ≤ hh) (hN : fa_NM ≤ N) (hT : fa_TM ≤ T) (a1 : Int) (a2 : Int) (a3 : Int) {r : Bool} (w : fa_W) : ∀ (n : Nat) (x4 : Int), fm_Mod_goTogether_l31 a1 a2 a3 w n x4 = some r → fa_GJ p l e (fa_rm hh) s m args below meth c 0 0 (MQ below (fa_Qc D b aC H0 N T (some (.int (fa_I (fa_bi r)))) w) args s 0 0 (fun q => b ≤ q)) D b aC H0 N T 5 w 31 [(0, .ref (b + 181)), (2, .int (fa_I a2)), (3, .int (fa_I a3)), (4, .int (fa_I x4))] [] := by
  intro n
  induction n with
  | zero => intro x4 hM; exact fa_no hM
  | succ n ih =>
    intro x4 hM
    rw [fm_Mod_goTogether_l31] at hM
    refine g_iload X 3 rfl d_Mod_goTogether_31 ?_
    refine g_aload_n X 0 rfl d_Mod_goTogether_33 ?_
    refine g_get X ck_10 fo_181 (fn_181 hN) 20 (by decide) wd_1762 rfl (fa_fvI rfl) d_Mod_goTogether_34 ?_
    refine g_icmp_ge X 86 d_Mod_goTogether_37 (by decide) (fun hc3 => ?_) (fun hc3 => ?_)
    · have hM := fa_if_t hM hc3
      refine g_iconst X d_Mod_goTogether_86 ?_
      cases hM
      exact g_zret X rfl d_Mod_goTogether_87
    · have hM := fa_if_f hM hc3
      refine g_aload_n X 0 rfl d_Mod_goTogether_40 ?_
      refine g_get X ck_10 fo_181 (fn_181 hN) 51 (by decide) wd_1792 rfl (fr_181_51 rfl hT) d_Mod_goTogether_41 ?_
      refine g_iload X 3 rfl d_Mod_goTogether_44 ?_
      obtain ⟨j4, ej4, hM⟩ := fa_ob hM
      refine g_zald X fs_212 (fn_212 hN) ej4 d_Mod_goTogether_46 ?_
      refine g_ifb_eq X 80 d_Mod_goTogether_47 (by decide) (fun hc5 => ?_) (fun hc5 => ?_)
      · have hM := fa_ifb_f hM hc5
        refine g_iinc X 3 (fun x4_6 => [(4, .int (fa_I x4_6)), (0, .ref (b + 181)), (2, .int (fa_I a2)), (3, .int (fa_I a3))]) d_Mod_goTogether_80 rfl (by decide) (fun _ => rfl) (fun x4_6 ex4_6 => ?_)
        have hM := fa_let_to hM ex4_6
        refine g_goto X 31 d_Mod_goTogether_83 (by decide) ?_
        exact g_lv [1, 2, 3, 0] rfl (ih _ hM)
      · have hM := fa_ifb_t hM hc5
        refine g_aload_n X 0 rfl d_Mod_goTogether_50 ?_
        refine g_get X ck_10 fo_181 (fn_181 hN) 48 (by decide) wd_1789 rfl (fr_181_48 rfl hT) d_Mod_goTogether_51 ?_
        refine g_iload X 3 rfl d_Mod_goTogether_54 ?_
        obtain ⟨j7, ej7, hM⟩ := fa_ob hM
        refine g_iald X fs_209 (fn_209 hN) ej7 d_Mod_goTogether_56 ?_
        refine g_iload_n X 1 rfl d_Mod_goTogether_57 ?_
        refine g_callS_i X mi_Mod_holds (c_Mod_holds hN hT (w 209 j7) a2 w _ rfl) wd_1691 rfl (Nat.le_trans (Nat.le_of_ble_eq_true rfl) hle) (st := []) (Nat.le_of_ble_eq_true rfl) rfl d_Mod_goTogether_58 ?_
        refine g_ifb_eq X 80 d_Mod_goTogether_61 (by decide) (fun hc9 => ?_) (fun hc9 => ?_)
        · have hM := fa_ifb_f hM hc9
          refine g_iinc X 3 (fun x4_10 => [(4, .int (fa_I x4_10)), (0, .ref (b + 181)), (2, .int (fa_I a2)), (3, .int (fa_I a3))]) d_Mod_goTogether_80 rfl (by decide) (fun _ => rfl) (fun x4_10 ex4_10 => ?_)
          have hM := fa_let_to hM ex4_10
          refine g_goto X 31 d_Mod_goTogether_83 (by decide) ?_
          exact g_lv [1, 2, 3, 0] rfl (ih _ hM)
        · have hM := fa_ifb_t hM hc9
          refine g_aload_n X 0 rfl d_Mod_goTogether_64 ?_
          refine g_get X ck_10 fo_181 (fn_181 hN) 48 (by decide) wd_1789 rfl (fr_181_48 rfl hT) d_Mod_goTogether_65 ?_
          refine g_iload X 3 rfl d_Mod_goTogether_68 ?_
          obtain ⟨j11, ej11, hM⟩ := fa_ob hM
          refine g_iald X fs_209 (fn_209 hN) ej11 d_Mod_goTogether_70 ?_
          refine g_iload_n X 2 rfl d_Mod_goTogether_71 ?_
          refine g_callS_i X mi_Mod_holds (c_Mod_holds hN hT (w 209 j11) a3 w _ rfl) wd_1691 rfl (Nat.le_trans (Nat.le_of_ble_eq_true rfl) hle) (st := []) (Nat.le_of_ble_eq_true rfl) rfl d_Mod_goTogether_72 ?_
          refine g_ifb_eq X 80 d_Mod_goTogether_75 (by decide) (fun hc13 => ?_) (fun hc13 => ?_)
          · have hM := fa_ifb_f hM hc13
            refine g_iinc X 3 (fun x4_14 => [(4, .int (fa_I x4_14)), (0, .ref (b + 181)), (2, .int (fa_I a2)), (3, .int (fa_I a3))]) d_Mod_goTogether_80 rfl (by decide) (fun _ => rfl) (fun x4_14 ex4_14 => ?_)
            have hM := fa_let_to hM ex4_14
            refine g_goto X 31 d_Mod_goTogether_83 (by decide) ?_
            exact g_lv [1, 2, 3, 0] rfl (ih _ hM)
          · have hM := fa_ifb_t hM hc13
            refine g_iconst X d_Mod_goTogether_78 ?_
            cases hM
            exact g_zret X rfl d_Mod_goTogether_79
def fm_Mod_goTogether (a1 : Int) (a2 : Int) (a3 : Int) (w : fa_W) : Option Bool :=
  if fa_wr a1 = 0 then
  some true
  else
  (if fa_wr a1 = 1 then
  ((fa_ix a2 24).bind fun j15 =>
  (fa_ix a3 24).bind fun j16 =>
  (fm_Mod_areOne 900 (w 206 j15) (w 206 j16) w).bind fun v18 =>
  some v18)
  else
  fm_Mod_goTogether_l31 a1 a2 a3 w fa_FU 0)
set_option maxHeartbeats 4000000 in
set_option maxRecDepth 100000 in
theorem c_Mod_goTogether {l : Launch} {D : va_G} {b : Nat} {aC : Nat → ClassId} {H0 : Heap} {N T : Nat} (hN : fa_NM ≤ N) (hT : fa_TM ≤ T) (a1 : Int) (a2 : Int) (a3 : Int)  (w : fa_W) (r : Bool) (hM : fm_Mod_goTogether a1 a2 a3 w = some r) : fa_MC l D b aC H0 N T y_Mod_goTogether prog_12_method_59_code 5 ((Option.some Jvm.ClassFile.FieldType.boolean)) (902) [.ref (b + 181), .int (fa_I a1), .int (fa_I a2), .int (fa_I a3)] w (some (.int (fa_I (fa_bi r)))) w := by
  refine fa_enter (lv := [(0, .ref (b + 181)), (1, .int (fa_I a1)), (2, .int (fa_I a2)), (3, .int (fa_I a3))]) (by decide +kernel) (Nat.le_of_ble_eq_true rfl) rfl (fun hh hle hnm X => ?_)
  unfold fm_Mod_goTogether at hM
  refine g_iload_n X 1 rfl d_Mod_goTogether_0 ?_
  refine g_if_ne X 6 d_Mod_goTogether_1 (by decide) (fun hc1 => ?_) (fun hc1 => ?_)
  · have hM := fa_if_f hM hc1
    refine g_iload_n X 1 rfl d_Mod_goTogether_6 ?_
    refine g_iconst X d_Mod_goTogether_7 ?_
    refine g_icmp_ne X 28 d_Mod_goTogether_8 (by decide) (fun hc2 => ?_) (fun hc2 => ?_)
    · have hM := fa_if_f hM hc2
      refine g_iconst X d_Mod_goTogether_28 ?_
      refine g_istorec X [(4, .int (fa_I 0)), (0, .ref (b + 181)), (1, .int (fa_I a1)), (2, .int (fa_I a2)), (3, .int (fa_I a3))] d_Mod_goTogether_29 (by decide) rfl ?_
      exact g_lv [1, 3, 4, 0] rfl (c_Mod_goTogether_l31 X hle hN hT a1 a2 a3 w  fa_FU _ hM)
    · have hM := fa_if_t hM hc2
      refine g_aload_n X 0 rfl d_Mod_goTogether_11 ?_
      refine g_aload_n X 0 rfl d_Mod_goTogether_12 ?_
      refine g_get X ck_10 fo_181 (fn_181 hN) 45 (by decide) wd_1786 rfl (fr_181_45 rfl hT) d_Mod_goTogether_13 ?_
      refine g_iload_n X 2 rfl d_Mod_goTogether_16 ?_
      obtain ⟨j15, ej15, hM⟩ := fa_ob hM
      refine g_iald X fs_206 (fn_206 hN) ej15 d_Mod_goTogether_17 ?_
      refine g_aload_n X 0 rfl d_Mod_goTogether_18 ?_
      refine g_get X ck_10 fo_181 (fn_181 hN) 45 (by decide) wd_1786 rfl (fr_181_45 rfl hT) d_Mod_goTogether_19 ?_
      refine g_iload_n X 3 rfl d_Mod_goTogether_22 ?_
      obtain ⟨j16, ej16, hM⟩ := fa_ob hM
      refine g_iald X fs_206 (fn_206 hN) ej16 d_Mod_goTogether_23 ?_
      obtain ⟨v18, e17, hM⟩ := fa_ob hM
      refine g_callV_i X ck_10 fo_181 (fn_181 hN) rfl mi_Mod_areOne (c_Mod_areOne hN hT 900 (w 206 j15) (w 206 j16) w _ e17) wd_1718 rfl (Nat.le_trans (Nat.le_of_ble_eq_true rfl) hle) (st := []) (Nat.le_of_ble_eq_true rfl) rfl d_Mod_goTogether_24 ?_
      cases hM
      exact g_zret X rfl d_Mod_goTogether_27
  · have hM := fa_if_t hM hc1
    refine g_iconst X d_Mod_goTogether_4 ?_
    cases hM
    exact g_zret X rfl d_Mod_goTogether_5
theorem d_Mod_laysGroups_0 : decode prog_12_method_60_code 0 = .ok (.aload_n 0, 1) := by decide +kernel
theorem d_Mod_laysGroups_1 : decode prog_12_method_60_code 1 = .ok (.getfield 356, 3) := by decide +kernel
theorem d_Mod_laysGroups_4 : decode prog_12_method_60_code 4 = .ok (.iload_n 1, 1) := by decide +kernel
theorem d_Mod_laysGroups_5 : decode prog_12_method_60_code 5 = .ok (.iconst 0, 1) := by decide +kernel
theorem d_Mod_laysGroups_6 : decode prog_12_method_60_code 6 = .ok (.iastore, 1) := by decide +kernel
theorem d_Mod_laysGroups_7 : decode prog_12_method_60_code 7 = .ok (.iconst 0, 1) := by decide +kernel
theorem d_Mod_laysGroups_8 : decode prog_12_method_60_code 8 = .ok (.istore_n 2, 1) := by decide +kernel
theorem d_Mod_laysGroups_9 : decode prog_12_method_60_code 9 = .ok (.iload_n 2, 1) := by decide +kernel
theorem d_Mod_laysGroups_10 : decode prog_12_method_60_code 10 = .ok (.bipush 24, 2) := by decide +kernel
theorem d_Mod_laysGroups_12 : decode prog_12_method_60_code 12 = .ok (.if_icmp .ge 21, 3) := by decide +kernel
theorem d_Mod_laysGroups_15 : decode prog_12_method_60_code 15 = .ok (.aload_n 0, 1) := by decide +kernel
theorem d_Mod_laysGroups_16 : decode prog_12_method_60_code 16 = .ok (.getfield 353, 3) := by decide +kernel
theorem d_Mod_laysGroups_19 : decode prog_12_method_60_code 19 = .ok (.bipush 24, 2) := by decide +kernel
theorem d_Mod_laysGroups_21 : decode prog_12_method_60_code 21 = .ok (.iload_n 1, 1) := by decide +kernel
theorem d_Mod_laysGroups_22 : decode prog_12_method_60_code 22 = .ok (.imul, 1) := by decide +kernel
theorem d_Mod_laysGroups_23 : decode prog_12_method_60_code 23 = .ok (.iload_n 2, 1) := by decide +kernel
theorem d_Mod_laysGroups_24 : decode prog_12_method_60_code 24 = .ok (.iadd, 1) := by decide +kernel
theorem d_Mod_laysGroups_25 : decode prog_12_method_60_code 25 = .ok (.iconst (-1), 1) := by decide +kernel
theorem d_Mod_laysGroups_26 : decode prog_12_method_60_code 26 = .ok (.iastore, 1) := by decide +kernel
theorem d_Mod_laysGroups_27 : decode prog_12_method_60_code 27 = .ok (.iinc 2 1, 3) := by decide +kernel
theorem d_Mod_laysGroups_30 : decode prog_12_method_60_code 30 = .ok (.goto (-21), 3) := by decide +kernel
theorem d_Mod_laysGroups_33 : decode prog_12_method_60_code 33 = .ok (.iconst 0, 1) := by decide +kernel
theorem d_Mod_laysGroups_34 : decode prog_12_method_60_code 34 = .ok (.istore_n 2, 1) := by decide +kernel
theorem d_Mod_laysGroups_35 : decode prog_12_method_60_code 35 = .ok (.iload_n 2, 1) := by decide +kernel
theorem d_Mod_laysGroups_36 : decode prog_12_method_60_code 36 = .ok (.aload_n 0, 1) := by decide +kernel
theorem d_Mod_laysGroups_37 : decode prog_12_method_60_code 37 = .ok (.invokevirtual 270, 3) := by decide +kernel
theorem d_Mod_laysGroups_40 : decode prog_12_method_60_code 40 = .ok (.if_icmp .ge 184, 3) := by decide +kernel
theorem d_Mod_laysGroups_43 : decode prog_12_method_60_code 43 = .ok (.aload_n 0, 1) := by decide +kernel
theorem d_Mod_laysGroups_44 : decode prog_12_method_60_code 44 = .ok (.getfield 300, 3) := by decide +kernel
theorem d_Mod_laysGroups_47 : decode prog_12_method_60_code 47 = .ok (.iload_n 2, 1) := by decide +kernel
theorem d_Mod_laysGroups_48 : decode prog_12_method_60_code 48 = .ok (.invokestatic 326, 3) := by decide +kernel
theorem d_Mod_laysGroups_51 : decode prog_12_method_60_code 51 = .ok (.ifCond .eq 167, 3) := by decide +kernel
theorem d_Mod_laysGroups_54 : decode prog_12_method_60_code 54 = .ok (.aload_n 0, 1) := by decide +kernel
theorem d_Mod_laysGroups_55 : decode prog_12_method_60_code 55 = .ok (.iload_n 1, 1) := by decide +kernel
theorem d_Mod_laysGroups_56 : decode prog_12_method_60_code 56 = .ok (.iload_n 2, 1) := by decide +kernel
theorem d_Mod_laysGroups_57 : decode prog_12_method_60_code 57 = .ok (.invokevirtual 359, 3) := by decide +kernel
theorem d_Mod_laysGroups_60 : decode prog_12_method_60_code 60 = .ok (.iconst (-1), 1) := by decide +kernel
theorem d_Mod_laysGroups_61 : decode prog_12_method_60_code 61 = .ok (.if_icmp .eq 6, 3) := by decide +kernel
theorem d_Mod_laysGroups_64 : decode prog_12_method_60_code 64 = .ok (.goto 154, 3) := by decide +kernel
theorem d_Mod_laysGroups_67 : decode prog_12_method_60_code 67 = .ok (.iconst 1, 1) := by decide +kernel
theorem d_Mod_laysGroups_68 : decode prog_12_method_60_code 68 = .ok (.iload_n 2, 1) := by decide +kernel
theorem d_Mod_laysGroups_69 : decode prog_12_method_60_code 69 = .ok (.ishl, 1) := by decide +kernel
theorem d_Mod_laysGroups_70 : decode prog_12_method_60_code 70 = .ok (.istore_n 3, 1) := by decide +kernel
theorem d_Mod_laysGroups_71 : decode prog_12_method_60_code 71 = .ok (.iconst 0, 1) := by decide +kernel
theorem d_Mod_laysGroups_72 : decode prog_12_method_60_code 72 = .ok (.istore 4, 2) := by decide +kernel
theorem d_Mod_laysGroups_74 : decode prog_12_method_60_code 74 = .ok (.iload_n 3, 1) := by decide +kernel
theorem d_Mod_laysGroups_75 : decode prog_12_method_60_code 75 = .ok (.iload 4, 2) := by decide +kernel
theorem d_Mod_laysGroups_77 : decode prog_12_method_60_code 77 = .ok (.if_icmp .eq 86, 3) := by decide +kernel
theorem d_Mod_laysGroups_80 : decode prog_12_method_60_code 80 = .ok (.iload_n 3, 1) := by decide +kernel
theorem d_Mod_laysGroups_81 : decode prog_12_method_60_code 81 = .ok (.istore 4, 2) := by decide +kernel
theorem d_Mod_laysGroups_83 : decode prog_12_method_60_code 83 = .ok (.iconst 0, 1) := by decide +kernel
theorem d_Mod_laysGroups_84 : decode prog_12_method_60_code 84 = .ok (.istore 5, 2) := by decide +kernel
theorem d_Mod_laysGroups_86 : decode prog_12_method_60_code 86 = .ok (.iload 5, 2) := by decide +kernel
theorem d_Mod_laysGroups_88 : decode prog_12_method_60_code 88 = .ok (.aload_n 0, 1) := by decide +kernel
theorem d_Mod_laysGroups_89 : decode prog_12_method_60_code 89 = .ok (.invokevirtual 270, 3) := by decide +kernel
theorem d_Mod_laysGroups_92 : decode prog_12_method_60_code 92 = .ok (.if_icmp .ge 68, 3) := by decide +kernel
theorem d_Mod_laysGroups_95 : decode prog_12_method_60_code 95 = .ok (.iconst 0, 1) := by decide +kernel
theorem d_Mod_laysGroups_96 : decode prog_12_method_60_code 96 = .ok (.istore 6, 2) := by decide +kernel
theorem d_Mod_laysGroups_98 : decode prog_12_method_60_code 98 = .ok (.iload 6, 2) := by decide +kernel
theorem d_Mod_laysGroups_100 : decode prog_12_method_60_code 100 = .ok (.aload_n 0, 1) := by decide +kernel
theorem d_Mod_laysGroups_101 : decode prog_12_method_60_code 101 = .ok (.invokevirtual 270, 3) := by decide +kernel
theorem d_Mod_laysGroups_104 : decode prog_12_method_60_code 104 = .ok (.if_icmp .ge 50, 3) := by decide +kernel
theorem d_Mod_laysGroups_107 : decode prog_12_method_60_code 107 = .ok (.iload 4, 2) := by decide +kernel
theorem d_Mod_laysGroups_109 : decode prog_12_method_60_code 109 = .ok (.iload 5, 2) := by decide +kernel
theorem d_Mod_laysGroups_111 : decode prog_12_method_60_code 111 = .ok (.invokestatic 326, 3) := by decide +kernel
theorem d_Mod_laysGroups_114 : decode prog_12_method_60_code 114 = .ok (.ifCond .eq 34, 3) := by decide +kernel
theorem d_Mod_laysGroups_117 : decode prog_12_method_60_code 117 = .ok (.aload_n 0, 1) := by decide +kernel
theorem d_Mod_laysGroups_118 : decode prog_12_method_60_code 118 = .ok (.getfield 300, 3) := by decide +kernel
theorem d_Mod_laysGroups_121 : decode prog_12_method_60_code 121 = .ok (.iload 6, 2) := by decide +kernel
theorem d_Mod_laysGroups_123 : decode prog_12_method_60_code 123 = .ok (.invokestatic 326, 3) := by decide +kernel
theorem d_Mod_laysGroups_126 : decode prog_12_method_60_code 126 = .ok (.ifCond .eq 22, 3) := by decide +kernel
theorem d_Mod_laysGroups_129 : decode prog_12_method_60_code 129 = .ok (.aload_n 0, 1) := by decide +kernel
theorem d_Mod_laysGroups_130 : decode prog_12_method_60_code 130 = .ok (.iload_n 1, 1) := by decide +kernel
theorem d_Mod_laysGroups_131 : decode prog_12_method_60_code 131 = .ok (.iload 5, 2) := by decide +kernel
theorem d_Mod_laysGroups_133 : decode prog_12_method_60_code 133 = .ok (.iload 6, 2) := by decide +kernel
theorem d_Mod_laysGroups_135 : decode prog_12_method_60_code 135 = .ok (.invokevirtual 362, 3) := by decide +kernel
theorem d_Mod_laysGroups_138 : decode prog_12_method_60_code 138 = .ok (.ifCond .eq 10, 3) := by decide +kernel
theorem d_Mod_laysGroups_141 : decode prog_12_method_60_code 141 = .ok (.iload_n 3, 1) := by decide +kernel
theorem d_Mod_laysGroups_142 : decode prog_12_method_60_code 142 = .ok (.iconst 1, 1) := by decide +kernel
theorem d_Mod_laysGroups_143 : decode prog_12_method_60_code 143 = .ok (.iload 6, 2) := by decide +kernel
theorem d_Mod_laysGroups_145 : decode prog_12_method_60_code 145 = .ok (.ishl, 1) := by decide +kernel
theorem d_Mod_laysGroups_146 : decode prog_12_method_60_code 146 = .ok (.ior, 1) := by decide +kernel
theorem d_Mod_laysGroups_147 : decode prog_12_method_60_code 147 = .ok (.istore_n 3, 1) := by decide +kernel
theorem d_Mod_laysGroups_148 : decode prog_12_method_60_code 148 = .ok (.iinc 6 1, 3) := by decide +kernel
theorem d_Mod_laysGroups_151 : decode prog_12_method_60_code 151 = .ok (.goto (-53), 3) := by decide +kernel
theorem d_Mod_laysGroups_154 : decode prog_12_method_60_code 154 = .ok (.iinc 5 1, 3) := by decide +kernel
theorem d_Mod_laysGroups_157 : decode prog_12_method_60_code 157 = .ok (.goto (-71), 3) := by decide +kernel
theorem d_Mod_laysGroups_160 : decode prog_12_method_60_code 160 = .ok (.goto (-86), 3) := by decide +kernel
theorem d_Mod_laysGroups_163 : decode prog_12_method_60_code 163 = .ok (.iconst 0, 1) := by decide +kernel
theorem d_Mod_laysGroups_164 : decode prog_12_method_60_code 164 = .ok (.istore 5, 2) := by decide +kernel
theorem d_Mod_laysGroups_166 : decode prog_12_method_60_code 166 = .ok (.iload 5, 2) := by decide +kernel
theorem d_Mod_laysGroups_168 : decode prog_12_method_60_code 168 = .ok (.aload_n 0, 1) := by decide +kernel
theorem d_Mod_laysGroups_169 : decode prog_12_method_60_code 169 = .ok (.invokevirtual 270, 3) := by decide +kernel
theorem d_Mod_laysGroups_172 : decode prog_12_method_60_code 172 = .ok (.if_icmp .ge 36, 3) := by decide +kernel
theorem d_Mod_laysGroups_175 : decode prog_12_method_60_code 175 = .ok (.iload_n 3, 1) := by decide +kernel
theorem d_Mod_laysGroups_176 : decode prog_12_method_60_code 176 = .ok (.iload 5, 2) := by decide +kernel
theorem d_Mod_laysGroups_178 : decode prog_12_method_60_code 178 = .ok (.invokestatic 326, 3) := by decide +kernel
theorem d_Mod_laysGroups_181 : decode prog_12_method_60_code 181 = .ok (.ifCond .eq 21, 3) := by decide +kernel
theorem d_Mod_laysGroups_184 : decode prog_12_method_60_code 184 = .ok (.aload_n 0, 1) := by decide +kernel
theorem d_Mod_laysGroups_185 : decode prog_12_method_60_code 185 = .ok (.getfield 353, 3) := by decide +kernel
theorem d_Mod_laysGroups_188 : decode prog_12_method_60_code 188 = .ok (.bipush 24, 2) := by decide +kernel
theorem d_Mod_laysGroups_190 : decode prog_12_method_60_code 190 = .ok (.iload_n 1, 1) := by decide +kernel
theorem d_Mod_laysGroups_191 : decode prog_12_method_60_code 191 = .ok (.imul, 1) := by decide +kernel
theorem d_Mod_laysGroups_192 : decode prog_12_method_60_code 192 = .ok (.iload 5, 2) := by decide +kernel
theorem d_Mod_laysGroups_194 : decode prog_12_method_60_code 194 = .ok (.iadd, 1) := by decide +kernel
theorem d_Mod_laysGroups_195 : decode prog_12_method_60_code 195 = .ok (.aload_n 0, 1) := by decide +kernel
theorem d_Mod_laysGroups_196 : decode prog_12_method_60_code 196 = .ok (.getfield 356, 3) := by decide +kernel
theorem d_Mod_laysGroups_199 : decode prog_12_method_60_code 199 = .ok (.iload_n 1, 1) := by decide +kernel
theorem d_Mod_laysGroups_200 : decode prog_12_method_60_code 200 = .ok (.iaload, 1) := by decide +kernel
theorem d_Mod_laysGroups_201 : decode prog_12_method_60_code 201 = .ok (.iastore, 1) := by decide +kernel
theorem d_Mod_laysGroups_202 : decode prog_12_method_60_code 202 = .ok (.iinc 5 1, 3) := by decide +kernel
theorem d_Mod_laysGroups_205 : decode prog_12_method_60_code 205 = .ok (.goto (-39), 3) := by decide +kernel
theorem d_Mod_laysGroups_208 : decode prog_12_method_60_code 208 = .ok (.aload_n 0, 1) := by decide +kernel
theorem d_Mod_laysGroups_209 : decode prog_12_method_60_code 209 = .ok (.getfield 356, 3) := by decide +kernel
theorem d_Mod_laysGroups_212 : decode prog_12_method_60_code 212 = .ok (.iload_n 1, 1) := by decide +kernel
theorem d_Mod_laysGroups_213 : decode prog_12_method_60_code 213 = .ok (.dup2, 1) := by decide +kernel
theorem d_Mod_laysGroups_214 : decode prog_12_method_60_code 214 = .ok (.iaload, 1) := by decide +kernel
theorem d_Mod_laysGroups_215 : decode prog_12_method_60_code 215 = .ok (.iconst 1, 1) := by decide +kernel
theorem d_Mod_laysGroups_216 : decode prog_12_method_60_code 216 = .ok (.iadd, 1) := by decide +kernel
theorem d_Mod_laysGroups_217 : decode prog_12_method_60_code 217 = .ok (.iastore, 1) := by decide +kernel
theorem d_Mod_laysGroups_218 : decode prog_12_method_60_code 218 = .ok (.iinc 2 1, 3) := by decide +kernel
theorem d_Mod_laysGroups_221 : decode prog_12_method_60_code 221 = .ok (.goto (-186), 3) := by decide +kernel
theorem d_Mod_laysGroups_224 : decode prog_12_method_60_code 224 = .ok (.return_, 1) := by decide +kernel
def fm_Mod_laysGroups_l166 (a1 : Int) (k35 : Int → fa_W → Option fa_W) : Nat → Int → Int → Int → fa_W → Option fa_W
  | 0, _, _, _, _ => none
  | n + 1, x2, x3, x5, w => if fa_wr (fm_Mod_functions w) ≤ fa_wr x5 then
  ((fa_ix a1 3).bind fun j16 =>
  (fa_ix a1 3).bind fun j17 =>
  fa_let (fa_st w 216 j17 ((w 216 j16) + 1)) fun w18 =>
  fa_let (x2 + 1) fun x2_19 =>
  k35 x2_19 w18)
  else
  (if fm_Mod_holds x3 x5 w = true then
  ((fa_ix a1 3).bind fun j23 =>
  (fa_ix ((24 * a1) + x5) 72).bind fun j24 =>
  fa_let (fa_st w 215 j24 (w 216 j23)) fun w25 =>
  fa_let (x5 + 1) fun x5_26 =>
  fm_Mod_laysGroups_l166 a1 k35 n x2 x3 x5_26 w25)
  else
  (fa_let (x5 + 1) fun x5_22 =>
  fm_Mod_laysGroups_l166 a1 k35 n x2 x3 x5_22 w))
set_option maxHeartbeats 4000000 in
set_option maxRecDepth 100000 in
theorem c_Mod_laysGroups_l166 {p : Program} {l : Launch} {e : Env} {s : State} {m : MethodId} {args : Array Value} {below : List Frame} {meth : Method} {c : Code} {hh : Nat} {D : va_G} {b : Nat} {aC : Nat → ClassId} {H0 : Heap} {N T : Nat} (X : fa_GX p s m args meth c prog_12_method_60_code 7 ((Option.none : Option Jvm.ClassFile.FieldType)) y_Mod_laysGroups.cls D b aC) (hle : 903 ≤ hh) (hN : fa_NM ≤ N) (hT : fa_TM ≤ T) (a1 : Int) {r : fa_W} (k35 : Int → fa_W → Option fa_W) (K35 : ∀ (x2 : Int) (w : fa_W), k35 x2 w = some r → fa_GJ p l e (fa_rm hh) s m args below meth c 0 0 (MQ below (fa_Qc D b aC H0 N T (none) r) args s 0 0 (fun q => b ≤ q)) D b aC H0 N T 7 w 35 [(0, .ref (b + 181)), (1, .int (fa_I a1)), (2, .int (fa_I x2))] []) : ∀ (n : Nat) (x2 : Int) (x3 : Int) (x5 : Int) (w : fa_W), fm_Mod_laysGroups_l166 a1 k35 n x2 x3 x5 w = some r → fa_GJ p l e (fa_rm hh) s m args below meth c 0 0 (MQ below (fa_Qc D b aC H0 N T (none) r) args s 0 0 (fun q => b ≤ q)) D b aC H0 N T 7 w 166 [(0, .ref (b + 181)), (1, .int (fa_I a1)), (2, .int (fa_I x2)), (3, .int (fa_I x3)), (5, .int (fa_I x5))] [] := by
  intro n
  induction n with
  | zero => intro x2 x3 x5 w hM; exact fa_no hM
  | succ n ih =>
    intro x2 x3 x5 w hM
    rw [fm_Mod_laysGroups_l166] at hM
    refine g_iload X 4 rfl d_Mod_laysGroups_166 ?_
    refine g_aload_n X 0 rfl d_Mod_laysGroups_168 ?_
    refine g_callV_i X ck_10 fo_181 (fn_181 hN) rfl mi_Mod_functions (c_Mod_functions hN hT w _ rfl) wd_1644 rfl (Nat.le_trans (Nat.le_of_ble_eq_true rfl) hle) (st := [.int (fa_I x5)]) (Nat.le_of_ble_eq_true rfl) rfl d_Mod_laysGroups_169 ?_
    refine g_icmp_ge X 208 d_Mod_laysGroups_172 (by decide) (fun hc15 => ?_) (fun hc15 => ?_)
    · have hM := fa_if_t hM hc15
      refine g_aload_n X 0 rfl d_Mod_laysGroups_208 ?_
      refine g_get X ck_10 fo_181 (fn_181 hN) 59 (by decide) wd_1800 rfl (fr_181_59 rfl hT) d_Mod_laysGroups_209 ?_
      refine g_iload_n X 1 rfl d_Mod_laysGroups_212 ?_
      refine g_dup2 X rfl rfl d_Mod_laysGroups_213 ?_
      obtain ⟨j16, ej16, hM⟩ := fa_ob hM
      refine g_iald X fs_216 (fn_216 hN) ej16 d_Mod_laysGroups_214 ?_
      refine g_iconst X d_Mod_laysGroups_215 ?_
      refine g_iadd X d_Mod_laysGroups_216 ?_
      obtain ⟨j17, ej17, hM⟩ := fa_ob hM
      refine g_iast X fs_216 (fn_216 hN) ej17 d_Mod_laysGroups_217 (fun w18 ew18 => ?_)
      have hM := fa_let_to hM ew18
      refine g_iinc X 2 (fun x2_19 => [(2, .int (fa_I x2_19)), (0, .ref (b + 181)), (1, .int (fa_I a1)), (3, .int (fa_I x3)), (5, .int (fa_I x5))]) d_Mod_laysGroups_218 rfl (by decide) (fun _ => rfl) (fun x2_19 ex2_19 => ?_)
      have hM := fa_let_to hM ex2_19
      refine g_goto X 35 d_Mod_laysGroups_221 (by decide) ?_
      exact g_lv [1, 2, 0] rfl (K35 _ _ hM)
    · have hM := fa_if_f hM hc15
      refine g_iload_n X 3 rfl d_Mod_laysGroups_175 ?_
      refine g_iload X 4 rfl d_Mod_laysGroups_176 ?_
      refine g_callS_i X mi_Mod_holds (c_Mod_holds hN hT x3 x5 w _ rfl) wd_1691 rfl (Nat.le_trans (Nat.le_of_ble_eq_true rfl) hle) (st := []) (Nat.le_of_ble_eq_true rfl) rfl d_Mod_laysGroups_178 ?_
      refine g_ifb_eq X 202 d_Mod_laysGroups_181 (by decide) (fun hc21 => ?_) (fun hc21 => ?_)
      · have hM := fa_ifb_f hM hc21
        refine g_iinc X 4 (fun x5_22 => [(5, .int (fa_I x5_22)), (0, .ref (b + 181)), (1, .int (fa_I a1)), (2, .int (fa_I x2)), (3, .int (fa_I x3))]) d_Mod_laysGroups_202 rfl (by decide) (fun _ => rfl) (fun x5_22 ex5_22 => ?_)
        have hM := fa_let_to hM ex5_22
        refine g_goto X 166 d_Mod_laysGroups_205 (by decide) ?_
        exact g_lv [1, 2, 3, 4, 0] rfl (ih _ _ _ _ hM)
      · have hM := fa_ifb_t hM hc21
        refine g_aload_n X 0 rfl d_Mod_laysGroups_184 ?_
        refine g_get X ck_10 fo_181 (fn_181 hN) 58 (by decide) wd_1799 rfl (fr_181_58 rfl hT) d_Mod_laysGroups_185 ?_
        refine g_bipush X (by decide) d_Mod_laysGroups_188 ?_
        refine g_iload_n X 1 rfl d_Mod_laysGroups_190 ?_
        refine g_imul X d_Mod_laysGroups_191 ?_
        refine g_iload X 4 rfl d_Mod_laysGroups_192 ?_
        refine g_iadd X d_Mod_laysGroups_194 ?_
        refine g_aload_n X 0 rfl d_Mod_laysGroups_195 ?_
        refine g_get X ck_10 fo_181 (fn_181 hN) 59 (by decide) wd_1800 rfl (fr_181_59 rfl hT) d_Mod_laysGroups_196 ?_
        refine g_iload_n X 1 rfl d_Mod_laysGroups_199 ?_
        obtain ⟨j23, ej23, hM⟩ := fa_ob hM
        refine g_iald X fs_216 (fn_216 hN) ej23 d_Mod_laysGroups_200 ?_
        obtain ⟨j24, ej24, hM⟩ := fa_ob hM
        refine g_iast X fs_215 (fn_215 hN) ej24 d_Mod_laysGroups_201 (fun w25 ew25 => ?_)
        have hM := fa_let_to hM ew25
        refine g_iinc X 4 (fun x5_26 => [(5, .int (fa_I x5_26)), (0, .ref (b + 181)), (1, .int (fa_I a1)), (2, .int (fa_I x2)), (3, .int (fa_I x3))]) d_Mod_laysGroups_202 rfl (by decide) (fun _ => rfl) (fun x5_26 ex5_26 => ?_)
        have hM := fa_let_to hM ex5_26
        refine g_goto X 166 d_Mod_laysGroups_205 (by decide) ?_
        exact g_lv [1, 2, 3, 4, 0] rfl (ih _ _ _ _ hM)
def fm_Mod_laysGroups_l98 (a1 : Int) (k86 : Int → Int → Int → Int → fa_W → Option fa_W) : Nat → Int → Int → Int → Int → Int → fa_W → Option fa_W
  | 0, _, _, _, _, _, _ => none
  | n + 1, x2, x3, x4, x5, x6, w => if fa_wr (fm_Mod_functions w) ≤ fa_wr x6 then
  (fa_let (x5 + 1) fun x5_31 =>
  k86 x2 x3 x4 x5_31 w)
  else
  (if fm_Mod_holds x4 x5 w = true then
  (if fm_Mod_holds (w 181 52) x6 w = true then
  ((fm_Mod_goTogether a1 x5 x6 w).bind fun v39 =>
  if v39 = true then
  (fa_let (fa_ior x3 (fa_ishl 1 x6)) fun x3_42 =>
  fa_let (x6 + 1) fun x6_43 =>
  fm_Mod_laysGroups_l98 a1 k86 n x2 x3_42 x4 x5 x6_43 w)
  else
  (fa_let (x6 + 1) fun x6_41 =>
  fm_Mod_laysGroups_l98 a1 k86 n x2 x3 x4 x5 x6_41 w))
  else
  (fa_let (x6 + 1) fun x6_37 =>
  fm_Mod_laysGroups_l98 a1 k86 n x2 x3 x4 x5 x6_37 w))
  else
  (fa_let (x6 + 1) fun x6_34 =>
  fm_Mod_laysGroups_l98 a1 k86 n x2 x3 x4 x5 x6_34 w))
set_option maxHeartbeats 4000000 in
set_option maxRecDepth 100000 in
theorem c_Mod_laysGroups_l98 {p : Program} {l : Launch} {e : Env} {s : State} {m : MethodId} {args : Array Value} {below : List Frame} {meth : Method} {c : Code} {hh : Nat} {D : va_G} {b : Nat} {aC : Nat → ClassId} {H0 : Heap} {N T : Nat} (X : fa_GX p s m args meth c prog_12_method_60_code 7 ((Option.none : Option Jvm.ClassFile.FieldType)) y_Mod_laysGroups.cls D b aC) (hle : 903 ≤ hh) (hN : fa_NM ≤ N) (hT : fa_TM ≤ T) (a1 : Int) {r : fa_W} (k86 : Int → Int → Int → Int → fa_W → Option fa_W) (K86 : ∀ (x2 : Int) (x3 : Int) (x4 : Int) (x5 : Int) (w : fa_W), k86 x2 x3 x4 x5 w = some r → fa_GJ p l e (fa_rm hh) s m args below meth c 0 0 (MQ below (fa_Qc D b aC H0 N T (none) r) args s 0 0 (fun q => b ≤ q)) D b aC H0 N T 7 w 86 [(0, .ref (b + 181)), (1, .int (fa_I a1)), (2, .int (fa_I x2)), (3, .int (fa_I x3)), (4, .int (fa_I x4)), (5, .int (fa_I x5))] []) : ∀ (n : Nat) (x2 : Int) (x3 : Int) (x4 : Int) (x5 : Int) (x6 : Int) (w : fa_W), fm_Mod_laysGroups_l98 a1 k86 n x2 x3 x4 x5 x6 w = some r → fa_GJ p l e (fa_rm hh) s m args below meth c 0 0 (MQ below (fa_Qc D b aC H0 N T (none) r) args s 0 0 (fun q => b ≤ q)) D b aC H0 N T 7 w 98 [(0, .ref (b + 181)), (1, .int (fa_I a1)), (2, .int (fa_I x2)), (3, .int (fa_I x3)), (4, .int (fa_I x4)), (5, .int (fa_I x5)), (6, .int (fa_I x6))] [] := by
  intro n
  induction n with
  | zero => intro x2 x3 x4 x5 x6 w hM; exact fa_no hM
  | succ n ih =>
    intro x2 x3 x4 x5 x6 w hM
    rw [fm_Mod_laysGroups_l98] at hM
    refine g_iload X 6 rfl d_Mod_laysGroups_98 ?_
    refine g_aload_n X 0 rfl d_Mod_laysGroups_100 ?_
    refine g_callV_i X ck_10 fo_181 (fn_181 hN) rfl mi_Mod_functions (c_Mod_functions hN hT w _ rfl) wd_1644 rfl (Nat.le_trans (Nat.le_of_ble_eq_true rfl) hle) (st := [.int (fa_I x6)]) (Nat.le_of_ble_eq_true rfl) rfl d_Mod_laysGroups_101 ?_
    refine g_icmp_ge X 154 d_Mod_laysGroups_104 (by decide) (fun hc30 => ?_) (fun hc30 => ?_)
    · have hM := fa_if_t hM hc30
      refine g_iinc X 5 (fun x5_31 => [(5, .int (fa_I x5_31)), (0, .ref (b + 181)), (1, .int (fa_I a1)), (2, .int (fa_I x2)), (3, .int (fa_I x3)), (4, .int (fa_I x4)), (6, .int (fa_I x6))]) d_Mod_laysGroups_154 rfl (by decide) (fun _ => rfl) (fun x5_31 ex5_31 => ?_)
      have hM := fa_let_to hM ex5_31
      refine g_goto X 86 d_Mod_laysGroups_157 (by decide) ?_
      exact g_lv [1, 2, 3, 4, 5, 0] rfl (K86 _ _ _ _ _ hM)
    · have hM := fa_if_f hM hc30
      refine g_iload X 4 rfl d_Mod_laysGroups_107 ?_
      refine g_iload X 5 rfl d_Mod_laysGroups_109 ?_
      refine g_callS_i X mi_Mod_holds (c_Mod_holds hN hT x4 x5 w _ rfl) wd_1691 rfl (Nat.le_trans (Nat.le_of_ble_eq_true rfl) hle) (st := []) (Nat.le_of_ble_eq_true rfl) rfl d_Mod_laysGroups_111 ?_
      refine g_ifb_eq X 148 d_Mod_laysGroups_114 (by decide) (fun hc33 => ?_) (fun hc33 => ?_)
      · have hM := fa_ifb_f hM hc33
        refine g_iinc X 6 (fun x6_34 => [(6, .int (fa_I x6_34)), (0, .ref (b + 181)), (1, .int (fa_I a1)), (2, .int (fa_I x2)), (3, .int (fa_I x3)), (4, .int (fa_I x4)), (5, .int (fa_I x5))]) d_Mod_laysGroups_148 rfl (by decide) (fun _ => rfl) (fun x6_34 ex6_34 => ?_)
        have hM := fa_let_to hM ex6_34
        refine g_goto X 98 d_Mod_laysGroups_151 (by decide) ?_
        exact g_lv [1, 2, 3, 4, 5, 6, 0] rfl (ih _ _ _ _ _ _ hM)
      · have hM := fa_ifb_t hM hc33
        refine g_aload_n X 0 rfl d_Mod_laysGroups_117 ?_
        refine g_get X ck_10 fo_181 (fn_181 hN) 52 (by decide) wd_1793 rfl (fa_fvI rfl) d_Mod_laysGroups_118 ?_
        refine g_iload X 6 rfl d_Mod_laysGroups_121 ?_
        refine g_callS_i X mi_Mod_holds (c_Mod_holds hN hT (w 181 52) x6 w _ rfl) wd_1691 rfl (Nat.le_trans (Nat.le_of_ble_eq_true rfl) hle) (st := []) (Nat.le_of_ble_eq_true rfl) rfl d_Mod_laysGroups_123 ?_
        refine g_ifb_eq X 148 d_Mod_laysGroups_126 (by decide) (fun hc36 => ?_) (fun hc36 => ?_)
        · have hM := fa_ifb_f hM hc36
          refine g_iinc X 6 (fun x6_37 => [(6, .int (fa_I x6_37)), (0, .ref (b + 181)), (1, .int (fa_I a1)), (2, .int (fa_I x2)), (3, .int (fa_I x3)), (4, .int (fa_I x4)), (5, .int (fa_I x5))]) d_Mod_laysGroups_148 rfl (by decide) (fun _ => rfl) (fun x6_37 ex6_37 => ?_)
          have hM := fa_let_to hM ex6_37
          refine g_goto X 98 d_Mod_laysGroups_151 (by decide) ?_
          exact g_lv [1, 2, 3, 4, 5, 6, 0] rfl (ih _ _ _ _ _ _ hM)
        · have hM := fa_ifb_t hM hc36
          refine g_aload_n X 0 rfl d_Mod_laysGroups_129 ?_
          refine g_iload_n X 1 rfl d_Mod_laysGroups_130 ?_
          refine g_iload X 5 rfl d_Mod_laysGroups_131 ?_
          refine g_iload X 6 rfl d_Mod_laysGroups_133 ?_
          obtain ⟨v39, e38, hM⟩ := fa_ob hM
          refine g_callV_i X ck_10 fo_181 (fn_181 hN) rfl mi_Mod_goTogether (c_Mod_goTogether hN hT a1 x5 x6 w _ e38) wd_1714 rfl (Nat.le_trans (Nat.le_of_ble_eq_true rfl) hle) (st := []) (Nat.le_of_ble_eq_true rfl) rfl d_Mod_laysGroups_135 ?_
          refine g_ifb_eq X 148 d_Mod_laysGroups_138 (by decide) (fun hc40 => ?_) (fun hc40 => ?_)
          · have hM := fa_ifb_f hM hc40
            refine g_iinc X 6 (fun x6_41 => [(6, .int (fa_I x6_41)), (0, .ref (b + 181)), (1, .int (fa_I a1)), (2, .int (fa_I x2)), (3, .int (fa_I x3)), (4, .int (fa_I x4)), (5, .int (fa_I x5))]) d_Mod_laysGroups_148 rfl (by decide) (fun _ => rfl) (fun x6_41 ex6_41 => ?_)
            have hM := fa_let_to hM ex6_41
            refine g_goto X 98 d_Mod_laysGroups_151 (by decide) ?_
            exact g_lv [1, 2, 3, 4, 5, 6, 0] rfl (ih _ _ _ _ _ _ hM)
          · have hM := fa_ifb_t hM hc40
            refine g_iload_n X 3 rfl d_Mod_laysGroups_141 ?_
            refine g_iconst X d_Mod_laysGroups_142 ?_
            refine g_iload X 6 rfl d_Mod_laysGroups_143 ?_
            refine g_ishl X d_Mod_laysGroups_145 ?_
            refine g_ior X d_Mod_laysGroups_146 ?_
            refine g_istore_n X (fun x3_42 => [(3, .int (fa_I x3_42)), (0, .ref (b + 181)), (1, .int (fa_I a1)), (2, .int (fa_I x2)), (4, .int (fa_I x4)), (5, .int (fa_I x5)), (6, .int (fa_I x6))]) d_Mod_laysGroups_147 (by decide) (fun _ => rfl) (fun x3_42 ex3_42 => ?_)
            have hM := fa_let_to hM ex3_42
            refine g_iinc X 6 (fun x6_43 => [(6, .int (fa_I x6_43)), (3, .int (fa_I x3_42)), (0, .ref (b + 181)), (1, .int (fa_I a1)), (2, .int (fa_I x2)), (4, .int (fa_I x4)), (5, .int (fa_I x5))]) d_Mod_laysGroups_148 rfl (by decide) (fun _ => rfl) (fun x6_43 ex6_43 => ?_)
            have hM := fa_let_to hM ex6_43
            refine g_goto X 98 d_Mod_laysGroups_151 (by decide) ?_
            exact g_lv [2, 3, 4, 1, 5, 6, 0] rfl (ih _ _ _ _ _ _ hM)
def fm_Mod_laysGroups_l86 (a1 : Int) (k74 : Int → Int → Int → fa_W → Option fa_W) : Nat → Int → Int → Int → Int → fa_W → Option fa_W
  | 0, _, _, _, _, _ => none
  | n + 1, x2, x3, x4, x5, w => if fa_wr (fm_Mod_functions w) ≤ fa_wr x5 then
  k74 x2 x3 x4 w
  else
  fm_Mod_laysGroups_l98 a1 (fun x2 x3 x4 x5 w9 => fm_Mod_laysGroups_l86 a1 k74 n x2 x3 x4 x5 w9) fa_FU x2 x3 x4 x5 0 w
set_option maxHeartbeats 4000000 in
set_option maxRecDepth 100000 in
theorem c_Mod_laysGroups_l86 {p : Program} {l : Launch} {e : Env} {s : State} {m : MethodId} {args : Array Value} {below : List Frame} {meth : Method} {c : Code} {hh : Nat} {D : va_G} {b : Nat} {aC : Nat → ClassId} {H0 : Heap} {N T : Nat} (X : fa_GX p s m args meth c prog_12_method_60_code 7 ((Option.none : Option Jvm.ClassFile.FieldType)) y_Mod_laysGroups.cls D b aC) (hle : 903 ≤ hh) (hN : fa_NM ≤ N) (hT : fa_TM ≤ T) (a1 : Int) {r : fa_W} (k74 : Int → Int → Int → fa_W → Option fa_W) (K74 : ∀ (x2 : Int) (x3 : Int) (x4 : Int) (w : fa_W), k74 x2 x3 x4 w = some r → fa_GJ p l e (fa_rm hh) s m args below meth c 0 0 (MQ below (fa_Qc D b aC H0 N T (none) r) args s 0 0 (fun q => b ≤ q)) D b aC H0 N T 7 w 74 [(0, .ref (b + 181)), (1, .int (fa_I a1)), (2, .int (fa_I x2)), (3, .int (fa_I x3)), (4, .int (fa_I x4))] []) : ∀ (n : Nat) (x2 : Int) (x3 : Int) (x4 : Int) (x5 : Int) (w : fa_W), fm_Mod_laysGroups_l86 a1 k74 n x2 x3 x4 x5 w = some r → fa_GJ p l e (fa_rm hh) s m args below meth c 0 0 (MQ below (fa_Qc D b aC H0 N T (none) r) args s 0 0 (fun q => b ≤ q)) D b aC H0 N T 7 w 86 [(0, .ref (b + 181)), (1, .int (fa_I a1)), (2, .int (fa_I x2)), (3, .int (fa_I x3)), (4, .int (fa_I x4)), (5, .int (fa_I x5))] [] := by
  intro n
  induction n with
  | zero => intro x2 x3 x4 x5 w hM; exact fa_no hM
  | succ n ih =>
    intro x2 x3 x4 x5 w hM
    rw [fm_Mod_laysGroups_l86] at hM
    refine g_iload X 5 rfl d_Mod_laysGroups_86 ?_
    refine g_aload_n X 0 rfl d_Mod_laysGroups_88 ?_
    refine g_callV_i X ck_10 fo_181 (fn_181 hN) rfl mi_Mod_functions (c_Mod_functions hN hT w _ rfl) wd_1644 rfl (Nat.le_trans (Nat.le_of_ble_eq_true rfl) hle) (st := [.int (fa_I x5)]) (Nat.le_of_ble_eq_true rfl) rfl d_Mod_laysGroups_89 ?_
    refine g_icmp_ge X 160 d_Mod_laysGroups_92 (by decide) (fun hc28 => ?_) (fun hc28 => ?_)
    · have hM := fa_if_t hM hc28
      refine g_goto X 74 d_Mod_laysGroups_160 (by decide) ?_
      exact g_lv [0, 1, 2, 3, 4] rfl (K74 _ _ _ _ hM)
    · have hM := fa_if_f hM hc28
      refine g_iconst X d_Mod_laysGroups_95 ?_
      refine g_istorec X [(6, .int (fa_I 0)), (0, .ref (b + 181)), (1, .int (fa_I a1)), (2, .int (fa_I x2)), (3, .int (fa_I x3)), (4, .int (fa_I x4)), (5, .int (fa_I x5))] d_Mod_laysGroups_96 (by decide) rfl ?_
      exact g_lv [1, 2, 3, 4, 5, 6, 0] rfl (c_Mod_laysGroups_l98 X hle hN hT a1  (fun x2 x3 x4 x5 w9 => fm_Mod_laysGroups_l86 a1 k74 n x2 x3 x4 x5 w9) (fun _ _ _ _ _ h => ih _ _ _ _ _ h) fa_FU _ _ _ _ _ _ hM)
def fm_Mod_laysGroups_l74 (a1 : Int) (k35 : Int → fa_W → Option fa_W) : Nat → Int → Int → Int → fa_W → Option fa_W
  | 0, _, _, _, _ => none
  | n + 1, x2, x3, x4, w => if fa_wr x3 = fa_wr x4 then
  fm_Mod_laysGroups_l166 a1 k35 fa_FU x2 x3 0 w
  else
  fm_Mod_laysGroups_l86 a1 (fun x2 x3 x4 w9 => fm_Mod_laysGroups_l74 a1 k35 n x2 x3 x4 w9) fa_FU x2 x3 x3 0 w
set_option maxHeartbeats 4000000 in
set_option maxRecDepth 100000 in
theorem c_Mod_laysGroups_l74 {p : Program} {l : Launch} {e : Env} {s : State} {m : MethodId} {args : Array Value} {below : List Frame} {meth : Method} {c : Code} {hh : Nat} {D : va_G} {b : Nat} {aC : Nat → ClassId} {H0 : Heap} {N T : Nat} (X : fa_GX p s m args meth c prog_12_method_60_code 7 ((Option.none : Option Jvm.ClassFile.FieldType)) y_Mod_laysGroups.cls D b aC) (hle : 903 ≤ hh) (hN : fa_NM ≤ N) (hT : fa_TM ≤ T) (a1 : Int) {r : fa_W} (k35 : Int → fa_W → Option fa_W) (K35 : ∀ (x2 : Int) (w : fa_W), k35 x2 w = some r → fa_GJ p l e (fa_rm hh) s m args below meth c 0 0 (MQ below (fa_Qc D b aC H0 N T (none) r) args s 0 0 (fun q => b ≤ q)) D b aC H0 N T 7 w 35 [(0, .ref (b + 181)), (1, .int (fa_I a1)), (2, .int (fa_I x2))] []) : ∀ (n : Nat) (x2 : Int) (x3 : Int) (x4 : Int) (w : fa_W), fm_Mod_laysGroups_l74 a1 k35 n x2 x3 x4 w = some r → fa_GJ p l e (fa_rm hh) s m args below meth c 0 0 (MQ below (fa_Qc D b aC H0 N T (none) r) args s 0 0 (fun q => b ≤ q)) D b aC H0 N T 7 w 74 [(0, .ref (b + 181)), (1, .int (fa_I a1)), (2, .int (fa_I x2)), (3, .int (fa_I x3)), (4, .int (fa_I x4))] [] := by
  intro n
  induction n with
  | zero => intro x2 x3 x4 w hM; exact fa_no hM
  | succ n ih =>
    intro x2 x3 x4 w hM
    rw [fm_Mod_laysGroups_l74] at hM
    refine g_iload_n X 3 rfl d_Mod_laysGroups_74 ?_
    refine g_iload X 4 rfl d_Mod_laysGroups_75 ?_
    refine g_icmp_eq X 163 d_Mod_laysGroups_77 (by decide) (fun hc13 => ?_) (fun hc13 => ?_)
    · have hM := fa_if_t hM hc13
      refine g_iconst X d_Mod_laysGroups_163 ?_
      refine g_istorec X [(5, .int (fa_I 0)), (0, .ref (b + 181)), (1, .int (fa_I a1)), (2, .int (fa_I x2)), (3, .int (fa_I x3)), (4, .int (fa_I x4))] d_Mod_laysGroups_164 (by decide) rfl ?_
      exact g_lv [1, 2, 3, 4, 0] rfl (c_Mod_laysGroups_l166 X hle hN hT a1  k35 K35 fa_FU _ _ _ _ hM)
    · have hM := fa_if_f hM hc13
      refine g_iload_n X 3 rfl d_Mod_laysGroups_80 ?_
      refine g_istorec X [(4, .int (fa_I x3)), (0, .ref (b + 181)), (1, .int (fa_I a1)), (2, .int (fa_I x2)), (3, .int (fa_I x3))] d_Mod_laysGroups_81 (by decide) rfl ?_
      refine g_iconst X d_Mod_laysGroups_83 ?_
      refine g_istorec X [(5, .int (fa_I 0)), (4, .int (fa_I x3)), (0, .ref (b + 181)), (1, .int (fa_I a1)), (2, .int (fa_I x2)), (3, .int (fa_I x3))] d_Mod_laysGroups_84 (by decide) rfl ?_
      exact g_lv [2, 3, 4, 5, 1, 0] rfl (c_Mod_laysGroups_l86 X hle hN hT a1  (fun x2 x3 x4 w9 => fm_Mod_laysGroups_l74 a1 k35 n x2 x3 x4 w9) (fun _ _ _ _ h => ih _ _ _ _ h) fa_FU _ _ _ _ _ hM)
def fm_Mod_laysGroups_l35 (a1 : Int) : Nat → Int → fa_W → Option fa_W
  | 0, _, _ => none
  | n + 1, x2, w => if fa_wr (fm_Mod_functions w) ≤ fa_wr x2 then
  some w
  else
  (if fm_Mod_holds (w 181 52) x2 w = true then
  ((fm_Mod_groupAt a1 x2 w).bind fun v10 =>
  if fa_wr v10 = (-1) then
  (fa_let (fa_ishl 1 x2) fun x3_12 =>
  fm_Mod_laysGroups_l74 a1 (fun x2 w9 => fm_Mod_laysGroups_l35 a1 n x2 w9) fa_FU x2 x3_12 0 w)
  else
  (fa_let (x2 + 1) fun x2_44 =>
  fm_Mod_laysGroups_l35 a1 n x2_44 w))
  else
  (fa_let (x2 + 1) fun x2_8 =>
  fm_Mod_laysGroups_l35 a1 n x2_8 w))
set_option maxHeartbeats 4000000 in
set_option maxRecDepth 100000 in
theorem c_Mod_laysGroups_l35 {p : Program} {l : Launch} {e : Env} {s : State} {m : MethodId} {args : Array Value} {below : List Frame} {meth : Method} {c : Code} {hh : Nat} {D : va_G} {b : Nat} {aC : Nat → ClassId} {H0 : Heap} {N T : Nat} (X : fa_GX p s m args meth c prog_12_method_60_code 7 ((Option.none : Option Jvm.ClassFile.FieldType)) y_Mod_laysGroups.cls D b aC) (hle : 903 ≤ hh) (hN : fa_NM ≤ N) (hT : fa_TM ≤ T) (a1 : Int) {r : fa_W}  : ∀ (n : Nat) (x2 : Int) (w : fa_W), fm_Mod_laysGroups_l35 a1 n x2 w = some r → fa_GJ p l e (fa_rm hh) s m args below meth c 0 0 (MQ below (fa_Qc D b aC H0 N T (none) r) args s 0 0 (fun q => b ≤ q)) D b aC H0 N T 7 w 35 [(0, .ref (b + 181)), (1, .int (fa_I a1)), (2, .int (fa_I x2))] [] := by
  intro n
  induction n with
  | zero => intro x2 w hM; exact fa_no hM
  | succ n ih =>
    intro x2 w hM
    rw [fm_Mod_laysGroups_l35] at hM
    refine g_iload_n X 2 rfl d_Mod_laysGroups_35 ?_
    refine g_aload_n X 0 rfl d_Mod_laysGroups_36 ?_
    refine g_callV_i X ck_10 fo_181 (fn_181 hN) rfl mi_Mod_functions (c_Mod_functions hN hT w _ rfl) wd_1644 rfl (Nat.le_trans (Nat.le_of_ble_eq_true rfl) hle) (st := [.int (fa_I x2)]) (Nat.le_of_ble_eq_true rfl) rfl d_Mod_laysGroups_37 ?_
    refine g_icmp_ge X 224 d_Mod_laysGroups_40 (by decide) (fun hc5 => ?_) (fun hc5 => ?_)
    · have hM := fa_if_t hM hc5
      cases hM
      exact g_vret X d_Mod_laysGroups_224
    · have hM := fa_if_f hM hc5
      refine g_aload_n X 0 rfl d_Mod_laysGroups_43 ?_
      refine g_get X ck_10 fo_181 (fn_181 hN) 52 (by decide) wd_1793 rfl (fa_fvI rfl) d_Mod_laysGroups_44 ?_
      refine g_iload_n X 2 rfl d_Mod_laysGroups_47 ?_
      refine g_callS_i X mi_Mod_holds (c_Mod_holds hN hT (w 181 52) x2 w _ rfl) wd_1691 rfl (Nat.le_trans (Nat.le_of_ble_eq_true rfl) hle) (st := []) (Nat.le_of_ble_eq_true rfl) rfl d_Mod_laysGroups_48 ?_
      refine g_ifb_eq X 218 d_Mod_laysGroups_51 (by decide) (fun hc7 => ?_) (fun hc7 => ?_)
      · have hM := fa_ifb_f hM hc7
        refine g_iinc X 2 (fun x2_8 => [(2, .int (fa_I x2_8)), (0, .ref (b + 181)), (1, .int (fa_I a1))]) d_Mod_laysGroups_218 rfl (by decide) (fun _ => rfl) (fun x2_8 ex2_8 => ?_)
        have hM := fa_let_to hM ex2_8
        refine g_goto X 35 d_Mod_laysGroups_221 (by decide) ?_
        exact g_lv [1, 2, 0] rfl (ih _ _ hM)
      · have hM := fa_ifb_t hM hc7
        refine g_aload_n X 0 rfl d_Mod_laysGroups_54 ?_
        refine g_iload_n X 1 rfl d_Mod_laysGroups_55 ?_
        refine g_iload_n X 2 rfl d_Mod_laysGroups_56 ?_
        obtain ⟨v10, e9, hM⟩ := fa_ob hM
        refine g_callV_i X ck_10 fo_181 (fn_181 hN) rfl mi_Mod_groupAt (c_Mod_groupAt hN hT a1 x2 w _ e9) wd_1710 rfl (Nat.le_trans (Nat.le_of_ble_eq_true rfl) hle) (st := []) (Nat.le_of_ble_eq_true rfl) rfl d_Mod_laysGroups_57 ?_
        refine g_iconst X d_Mod_laysGroups_60 ?_
        refine g_icmp_eq X 67 d_Mod_laysGroups_61 (by decide) (fun hc11 => ?_) (fun hc11 => ?_)
        · have hM := fa_if_t hM hc11
          refine g_iconst X d_Mod_laysGroups_67 ?_
          refine g_iload_n X 2 rfl d_Mod_laysGroups_68 ?_
          refine g_ishl X d_Mod_laysGroups_69 ?_
          refine g_istore_n X (fun x3_12 => [(3, .int (fa_I x3_12)), (0, .ref (b + 181)), (1, .int (fa_I a1)), (2, .int (fa_I x2))]) d_Mod_laysGroups_70 (by decide) (fun _ => rfl) (fun x3_12 ex3_12 => ?_)
          have hM := fa_let_to hM ex3_12
          refine g_iconst X d_Mod_laysGroups_71 ?_
          refine g_istorec X [(4, .int (fa_I 0)), (3, .int (fa_I x3_12)), (0, .ref (b + 181)), (1, .int (fa_I a1)), (2, .int (fa_I x2))] d_Mod_laysGroups_72 (by decide) rfl ?_
          exact g_lv [2, 3, 4, 1, 0] rfl (c_Mod_laysGroups_l74 X hle hN hT a1  (fun x2 w9 => fm_Mod_laysGroups_l35 a1 n x2 w9) (fun _ _ h => ih _ _ h) fa_FU _ _ _ _ hM)
        · have hM := fa_if_f hM hc11
          refine g_goto X 218 d_Mod_laysGroups_64 (by decide) ?_
          refine g_iinc X 2 (fun x2_44 => [(2, .int (fa_I x2_44)), (0, .ref (b + 181)), (1, .int (fa_I a1))]) d_Mod_laysGroups_218 rfl (by decide) (fun _ => rfl) (fun x2_44 ex2_44 => ?_)
          have hM := fa_let_to hM ex2_44
          refine g_goto X 35 d_Mod_laysGroups_221 (by decide) ?_
          exact g_lv [1, 2, 0] rfl (ih _ _ hM)
def fm_Mod_laysGroups_l9 (a1 : Int) : Nat → Int → fa_W → Option fa_W
  | 0, _, _ => none
  | n + 1, x2, w => if 24 ≤ fa_wr x2 then
  fm_Mod_laysGroups_l35 a1 fa_FU 0 w
  else
  ((fa_ix ((24 * a1) + x2) 72).bind fun j45 =>
  fa_let (fa_st w 215 j45 (-1)) fun w46 =>
  fa_let (x2 + 1) fun x2_47 =>
  fm_Mod_laysGroups_l9 a1 n x2_47 w46)
set_option maxHeartbeats 4000000 in
set_option maxRecDepth 100000 in
theorem c_Mod_laysGroups_l9 {p : Program} {l : Launch} {e : Env} {s : State} {m : MethodId} {args : Array Value} {below : List Frame} {meth : Method} {c : Code} {hh : Nat} {D : va_G} {b : Nat} {aC : Nat → ClassId} {H0 : Heap} {N T : Nat} (X : fa_GX p s m args meth c prog_12_method_60_code 7 ((Option.none : Option Jvm.ClassFile.FieldType)) y_Mod_laysGroups.cls D b aC) (hle : 903 ≤ hh) (hN : fa_NM ≤ N) (hT : fa_TM ≤ T) (a1 : Int) {r : fa_W}  : ∀ (n : Nat) (x2 : Int) (w : fa_W), fm_Mod_laysGroups_l9 a1 n x2 w = some r → fa_GJ p l e (fa_rm hh) s m args below meth c 0 0 (MQ below (fa_Qc D b aC H0 N T (none) r) args s 0 0 (fun q => b ≤ q)) D b aC H0 N T 7 w 9 [(0, .ref (b + 181)), (1, .int (fa_I a1)), (2, .int (fa_I x2))] [] := by
  intro n
  induction n with
  | zero => intro x2 w hM; exact fa_no hM
  | succ n ih =>
    intro x2 w hM
    rw [fm_Mod_laysGroups_l9] at hM
    refine g_iload_n X 2 rfl d_Mod_laysGroups_9 ?_
    refine g_bipush X (by decide) d_Mod_laysGroups_10 ?_
    refine g_icmp_ge X 33 d_Mod_laysGroups_12 (by decide) (fun hc3 => ?_) (fun hc3 => ?_)
    · have hM := fa_if_t hM hc3
      refine g_iconst X d_Mod_laysGroups_33 ?_
      refine g_istorec_n X [(2, .int (fa_I 0)), (0, .ref (b + 181)), (1, .int (fa_I a1))] d_Mod_laysGroups_34 (by decide) rfl ?_
      exact g_lv [1, 2, 0] rfl (c_Mod_laysGroups_l35 X hle hN hT a1   fa_FU _ _ hM)
    · have hM := fa_if_f hM hc3
      refine g_aload_n X 0 rfl d_Mod_laysGroups_15 ?_
      refine g_get X ck_10 fo_181 (fn_181 hN) 58 (by decide) wd_1799 rfl (fr_181_58 rfl hT) d_Mod_laysGroups_16 ?_
      refine g_bipush X (by decide) d_Mod_laysGroups_19 ?_
      refine g_iload_n X 1 rfl d_Mod_laysGroups_21 ?_
      refine g_imul X d_Mod_laysGroups_22 ?_
      refine g_iload_n X 2 rfl d_Mod_laysGroups_23 ?_
      refine g_iadd X d_Mod_laysGroups_24 ?_
      refine g_iconst X d_Mod_laysGroups_25 ?_
      obtain ⟨j45, ej45, hM⟩ := fa_ob hM
      refine g_iast X fs_215 (fn_215 hN) ej45 d_Mod_laysGroups_26 (fun w46 ew46 => ?_)
      have hM := fa_let_to hM ew46
      refine g_iinc X 2 (fun x2_47 => [(2, .int (fa_I x2_47)), (0, .ref (b + 181)), (1, .int (fa_I a1))]) d_Mod_laysGroups_27 rfl (by decide) (fun _ => rfl) (fun x2_47 ex2_47 => ?_)
      have hM := fa_let_to hM ex2_47
      refine g_goto X 9 d_Mod_laysGroups_30 (by decide) ?_
      exact g_lv [1, 2, 0] rfl (ih _ _ hM)
def fm_Mod_laysGroups (a1 : Int) (w : fa_W) : Option fa_W :=
  (fa_ix a1 3).bind fun j1 =>
  fa_let (fa_st w 216 j1 0) fun w2 =>
  fm_Mod_laysGroups_l9 a1 fa_FU 0 w2
set_option maxHeartbeats 4000000 in
set_option maxRecDepth 100000 in
theorem c_Mod_laysGroups {l : Launch} {D : va_G} {b : Nat} {aC : Nat → ClassId} {H0 : Heap} {N T : Nat} (hN : fa_NM ≤ N) (hT : fa_TM ≤ T) (a1 : Int)  (w : fa_W) (r : fa_W) (hM : fm_Mod_laysGroups a1 w = some r) : fa_MC l D b aC H0 N T y_Mod_laysGroups prog_12_method_60_code 7 ((Option.none : Option Jvm.ClassFile.FieldType)) (903) [.ref (b + 181), .int (fa_I a1)] w (none) r := by
  refine fa_enter (lv := [(0, .ref (b + 181)), (1, .int (fa_I a1))]) (by decide +kernel) (Nat.le_of_ble_eq_true rfl) rfl (fun hh hle hnm X => ?_)
  unfold fm_Mod_laysGroups at hM
  refine g_aload_n X 0 rfl d_Mod_laysGroups_0 ?_
  refine g_get X ck_10 fo_181 (fn_181 hN) 59 (by decide) wd_1800 rfl (fr_181_59 rfl hT) d_Mod_laysGroups_1 ?_
  refine g_iload_n X 1 rfl d_Mod_laysGroups_4 ?_
  refine g_iconst X d_Mod_laysGroups_5 ?_
  obtain ⟨j1, ej1, hM⟩ := fa_ob hM
  refine g_iast X fs_216 (fn_216 hN) ej1 d_Mod_laysGroups_6 (fun w2 ew2 => ?_)
  have hM := fa_let_to hM ew2
  refine g_iconst X d_Mod_laysGroups_7 ?_
  refine g_istorec_n X [(2, .int (fa_I 0)), (0, .ref (b + 181)), (1, .int (fa_I a1))] d_Mod_laysGroups_8 (by decide) rfl ?_
  exact g_lv [1, 2, 0] rfl (c_Mod_laysGroups_l9 X hle hN hT a1   fa_FU _ _ hM)
theorem d_Mod_groupSet_0 : decode prog_12_method_61_code 0 = .ok (.iconst 0, 1) := by decide +kernel
theorem d_Mod_groupSet_1 : decode prog_12_method_61_code 1 = .ok (.istore_n 3, 1) := by decide +kernel
theorem d_Mod_groupSet_2 : decode prog_12_method_61_code 2 = .ok (.iconst 0, 1) := by decide +kernel
theorem d_Mod_groupSet_3 : decode prog_12_method_61_code 3 = .ok (.istore 4, 2) := by decide +kernel
theorem d_Mod_groupSet_5 : decode prog_12_method_61_code 5 = .ok (.iload 4, 2) := by decide +kernel
theorem d_Mod_groupSet_7 : decode prog_12_method_61_code 7 = .ok (.aload_n 0, 1) := by decide +kernel
theorem d_Mod_groupSet_8 : decode prog_12_method_61_code 8 = .ok (.invokevirtual 270, 3) := by decide +kernel
theorem d_Mod_groupSet_11 : decode prog_12_method_61_code 11 = .ok (.if_icmp .ge 27, 3) := by decide +kernel
theorem d_Mod_groupSet_14 : decode prog_12_method_61_code 14 = .ok (.aload_n 0, 1) := by decide +kernel
theorem d_Mod_groupSet_15 : decode prog_12_method_61_code 15 = .ok (.iload_n 1, 1) := by decide +kernel
theorem d_Mod_groupSet_16 : decode prog_12_method_61_code 16 = .ok (.iload 4, 2) := by decide +kernel
theorem d_Mod_groupSet_18 : decode prog_12_method_61_code 18 = .ok (.invokevirtual 359, 3) := by decide +kernel
theorem d_Mod_groupSet_21 : decode prog_12_method_61_code 21 = .ok (.iload_n 2, 1) := by decide +kernel
theorem d_Mod_groupSet_22 : decode prog_12_method_61_code 22 = .ok (.if_icmp .ne 10, 3) := by decide +kernel
theorem d_Mod_groupSet_25 : decode prog_12_method_61_code 25 = .ok (.iload_n 3, 1) := by decide +kernel
theorem d_Mod_groupSet_26 : decode prog_12_method_61_code 26 = .ok (.iconst 1, 1) := by decide +kernel
theorem d_Mod_groupSet_27 : decode prog_12_method_61_code 27 = .ok (.iload 4, 2) := by decide +kernel
theorem d_Mod_groupSet_29 : decode prog_12_method_61_code 29 = .ok (.ishl, 1) := by decide +kernel
theorem d_Mod_groupSet_30 : decode prog_12_method_61_code 30 = .ok (.ior, 1) := by decide +kernel
theorem d_Mod_groupSet_31 : decode prog_12_method_61_code 31 = .ok (.istore_n 3, 1) := by decide +kernel
theorem d_Mod_groupSet_32 : decode prog_12_method_61_code 32 = .ok (.iinc 4 1, 3) := by decide +kernel
theorem d_Mod_groupSet_35 : decode prog_12_method_61_code 35 = .ok (.goto (-30), 3) := by decide +kernel
theorem d_Mod_groupSet_38 : decode prog_12_method_61_code 38 = .ok (.iload_n 3, 1) := by decide +kernel
theorem d_Mod_groupSet_39 : decode prog_12_method_61_code 39 = .ok (.ireturn, 1) := by decide +kernel
def fm_Mod_groupSet_l5 (a1 : Int) (a2 : Int) (w : fa_W) : Nat → Int → Int → Option Int
  | 0, _, _ => none
  | n + 1, x3, x4 => if fa_wr (fm_Mod_functions w) ≤ fa_wr x4 then
  some x3
  else
  ((fm_Mod_groupAt a1 x4 w).bind fun v4 =>
  if fa_wr v4 = fa_wr a2 then
  (fa_let (fa_ior x3 (fa_ishl 1 x4)) fun x3_7 =>
  fa_let (x4 + 1) fun x4_8 =>
  fm_Mod_groupSet_l5 a1 a2 w n x3_7 x4_8)
  else
  (fa_let (x4 + 1) fun x4_6 =>
  fm_Mod_groupSet_l5 a1 a2 w n x3 x4_6))
set_option maxHeartbeats 4000000 in
set_option maxRecDepth 100000 in
theorem c_Mod_groupSet_l5 {p : Program} {l : Launch} {e : Env} {s : State} {m : MethodId} {args : Array Value} {below : List Frame} {meth : Method} {c : Code} {hh : Nat} {D : va_G} {b : Nat} {aC : Nat → ClassId} {H0 : Heap} {N T : Nat} (X : fa_GX p s m args meth c prog_12_method_61_code 5 ((Option.some Jvm.ClassFile.FieldType.int)) y_Mod_groupSet.cls D b aC) (hle : 1 ≤ hh) (hN : fa_NM ≤ N) (hT : fa_TM ≤ T) (a1 : Int) (a2 : Int) {r : Int} (w : fa_W) : ∀ (n : Nat) (x3 : Int) (x4 : Int), fm_Mod_groupSet_l5 a1 a2 w n x3 x4 = some r → fa_GJ p l e (fa_rm hh) s m args below meth c 0 0 (MQ below (fa_Qc D b aC H0 N T (some (.int (fa_I r))) w) args s 0 0 (fun q => b ≤ q)) D b aC H0 N T 5 w 5 [(0, .ref (b + 181)), (1, .int (fa_I a1)), (2, .int (fa_I a2)), (3, .int (fa_I x3)), (4, .int (fa_I x4))] [] := by
  intro n
  induction n with
  | zero => intro x3 x4 hM; exact fa_no hM
  | succ n ih =>
    intro x3 x4 hM
    rw [fm_Mod_groupSet_l5] at hM
    refine g_iload X 4 rfl d_Mod_groupSet_5 ?_
    refine g_aload_n X 0 rfl d_Mod_groupSet_7 ?_
    refine g_callV_i X ck_10 fo_181 (fn_181 hN) rfl mi_Mod_functions (c_Mod_functions hN hT w _ rfl) wd_1644 rfl (Nat.le_trans (Nat.le_of_ble_eq_true rfl) hle) (st := [.int (fa_I x4)]) (Nat.le_of_ble_eq_true rfl) rfl d_Mod_groupSet_8 ?_
    refine g_icmp_ge X 38 d_Mod_groupSet_11 (by decide) (fun hc2 => ?_) (fun hc2 => ?_)
    · have hM := fa_if_t hM hc2
      refine g_iload_n X 3 rfl d_Mod_groupSet_38 ?_
      cases hM
      exact g_iret X d_Mod_groupSet_39
    · have hM := fa_if_f hM hc2
      refine g_aload_n X 0 rfl d_Mod_groupSet_14 ?_
      refine g_iload_n X 1 rfl d_Mod_groupSet_15 ?_
      refine g_iload X 4 rfl d_Mod_groupSet_16 ?_
      obtain ⟨v4, e3, hM⟩ := fa_ob hM
      refine g_callV_i X ck_10 fo_181 (fn_181 hN) rfl mi_Mod_groupAt (c_Mod_groupAt hN hT a1 x4 w _ e3) wd_1710 rfl (Nat.le_trans (Nat.le_of_ble_eq_true rfl) hle) (st := []) (Nat.le_of_ble_eq_true rfl) rfl d_Mod_groupSet_18 ?_
      refine g_iload_n X 2 rfl d_Mod_groupSet_21 ?_
      refine g_icmp_ne X 32 d_Mod_groupSet_22 (by decide) (fun hc5 => ?_) (fun hc5 => ?_)
      · have hM := fa_if_f hM hc5
        refine g_iinc X 4 (fun x4_6 => [(4, .int (fa_I x4_6)), (0, .ref (b + 181)), (1, .int (fa_I a1)), (2, .int (fa_I a2)), (3, .int (fa_I x3))]) d_Mod_groupSet_32 rfl (by decide) (fun _ => rfl) (fun x4_6 ex4_6 => ?_)
        have hM := fa_let_to hM ex4_6
        refine g_goto X 5 d_Mod_groupSet_35 (by decide) ?_
        exact g_lv [1, 2, 3, 4, 0] rfl (ih _ _ hM)
      · have hM := fa_if_t hM hc5
        refine g_iload_n X 3 rfl d_Mod_groupSet_25 ?_
        refine g_iconst X d_Mod_groupSet_26 ?_
        refine g_iload X 4 rfl d_Mod_groupSet_27 ?_
        refine g_ishl X d_Mod_groupSet_29 ?_
        refine g_ior X d_Mod_groupSet_30 ?_
        refine g_istore_n X (fun x3_7 => [(3, .int (fa_I x3_7)), (0, .ref (b + 181)), (1, .int (fa_I a1)), (2, .int (fa_I a2)), (4, .int (fa_I x4))]) d_Mod_groupSet_31 (by decide) (fun _ => rfl) (fun x3_7 ex3_7 => ?_)
        have hM := fa_let_to hM ex3_7
        refine g_iinc X 4 (fun x4_8 => [(4, .int (fa_I x4_8)), (3, .int (fa_I x3_7)), (0, .ref (b + 181)), (1, .int (fa_I a1)), (2, .int (fa_I a2))]) d_Mod_groupSet_32 rfl (by decide) (fun _ => rfl) (fun x4_8 ex4_8 => ?_)
        have hM := fa_let_to hM ex4_8
        refine g_goto X 5 d_Mod_groupSet_35 (by decide) ?_
        exact g_lv [2, 3, 4, 1, 0] rfl (ih _ _ hM)
def fm_Mod_groupSet (a1 : Int) (a2 : Int) (w : fa_W) : Option Int :=
  fm_Mod_groupSet_l5 a1 a2 w fa_FU 0 0
set_option maxHeartbeats 4000000 in
set_option maxRecDepth 100000 in
theorem c_Mod_groupSet {l : Launch} {D : va_G} {b : Nat} {aC : Nat → ClassId} {H0 : Heap} {N T : Nat} (hN : fa_NM ≤ N) (hT : fa_TM ≤ T) (a1 : Int) (a2 : Int)  (w : fa_W) (r : Int) (hM : fm_Mod_groupSet a1 a2 w = some r) : fa_MC l D b aC H0 N T y_Mod_groupSet prog_12_method_61_code 5 ((Option.some Jvm.ClassFile.FieldType.int)) (1) [.ref (b + 181), .int (fa_I a1), .int (fa_I a2)] w (some (.int (fa_I r))) w := by
  refine fa_enter (lv := [(0, .ref (b + 181)), (1, .int (fa_I a1)), (2, .int (fa_I a2))]) (by decide +kernel) (Nat.le_of_ble_eq_true rfl) rfl (fun hh hle hnm X => ?_)
  unfold fm_Mod_groupSet at hM
  refine g_iconst X d_Mod_groupSet_0 ?_
  refine g_istorec_n X [(3, .int (fa_I 0)), (0, .ref (b + 181)), (1, .int (fa_I a1)), (2, .int (fa_I a2))] d_Mod_groupSet_1 (by decide) rfl ?_
  refine g_iconst X d_Mod_groupSet_2 ?_
  refine g_istorec X [(4, .int (fa_I 0)), (3, .int (fa_I 0)), (0, .ref (b + 181)), (1, .int (fa_I a1)), (2, .int (fa_I a2))] d_Mod_groupSet_3 (by decide) rfl ?_
  exact g_lv [2, 3, 4, 1, 0] rfl (c_Mod_groupSet_l5 X hle hN hT a1 a2 w  fa_FU _ _ hM)
