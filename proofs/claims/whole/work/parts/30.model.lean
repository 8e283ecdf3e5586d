theorem d_Mod_thrown_0 : decode prog_12_method_1_code 0 = .ok (.aload_n 0, 1) := by decide +kernel
theorem d_Mod_thrown_1 : decode prog_12_method_1_code 1 = .ok (.getfield 1, 3) := by decide +kernel
theorem d_Mod_thrown_4 : decode prog_12_method_1_code 4 = .ok (.ireturn, 1) := by decide +kernel
def fm_Mod_thrown (w : fa_W) : Int :=
  w 181 0
set_option maxHeartbeats 4000000 in
set_option maxRecDepth 100000 in
theorem c_Mod_thrown {l : Launch} {D : va_G} {b : Nat} {aC : Nat → ClassId} {H0 : Heap} {N T : Nat} (hN : fa_NM ≤ N) (hT : fa_TM ≤ T)   (w : fa_W) (r : Int) (hM : fm_Mod_thrown w = r) : fa_MC l D b aC H0 N T y_Mod_thrown prog_12_method_1_code 1 ((Option.some Jvm.ClassFile.FieldType.int)) (0) [.ref (b + 181)] w (some (.int (fa_I r))) w := by
  refine fa_enter (lv := [(0, .ref (b + 181))]) (by decide +kernel) (Nat.le_of_ble_eq_true rfl) rfl (fun hh hle hnm X => ?_)
  unfold fm_Mod_thrown at hM
  refine g_aload_n X 0 rfl d_Mod_thrown_0 ?_
  refine g_get X ck_10 fo_181 (fn_181 hN) 0 (by decide) wd_1742 rfl (fa_fvI rfl) d_Mod_thrown_1 ?_
  subst hM
  exact g_iret X d_Mod_thrown_4
theorem d_Mod_throwsIf_0 : decode prog_12_method_2_code 0 = .ok (.iload_n 1, 1) := by decide +kernel
theorem d_Mod_throwsIf_1 : decode prog_12_method_2_code 1 = .ok (.ifCond .eq 8, 3) := by decide +kernel
theorem d_Mod_throwsIf_4 : decode prog_12_method_2_code 4 = .ok (.aload_n 0, 1) := by decide +kernel
theorem d_Mod_throwsIf_5 : decode prog_12_method_2_code 5 = .ok (.iload_n 2, 1) := by decide +kernel
theorem d_Mod_throwsIf_6 : decode prog_12_method_2_code 6 = .ok (.putfield 1, 3) := by decide +kernel
theorem d_Mod_throwsIf_9 : decode prog_12_method_2_code 9 = .ok (.iload_n 1, 1) := by decide +kernel
theorem d_Mod_throwsIf_10 : decode prog_12_method_2_code 10 = .ok (.ireturn, 1) := by decide +kernel
def fm_Mod_throwsIf (a1 : Bool) (a2 : Int) (w : fa_W) : Bool × fa_W :=
  if a1 = true then
  (fa_let (fa_st w 181 0 a2) fun w2 =>
  (a1, w2))
  else
  (a1, w)
set_option maxHeartbeats 4000000 in
set_option maxRecDepth 100000 in
theorem c_Mod_throwsIf {l : Launch} {D : va_G} {b : Nat} {aC : Nat → ClassId} {H0 : Heap} {N T : Nat} (hN : fa_NM ≤ N) (hT : fa_TM ≤ T) (a1 : Bool) (a2 : Int)  (w : fa_W) (r : Bool × fa_W) (hM : fm_Mod_throwsIf a1 a2 w = r) : fa_MC l D b aC H0 N T y_Mod_throwsIf prog_12_method_2_code 3 ((Option.some Jvm.ClassFile.FieldType.boolean)) (0) [.ref (b + 181), .int (fa_I (fa_bi a1)), .int (fa_I a2)] w (some (.int (fa_I (fa_bi r.1)))) r.2 := by
  refine fa_enter (lv := [(0, .ref (b + 181)), (1, .int (fa_I (fa_bi a1))), (2, .int (fa_I a2))]) (by decide +kernel) (Nat.le_of_ble_eq_true rfl) rfl (fun hh hle hnm X => ?_)
  unfold fm_Mod_throwsIf at hM
  refine g_iload_n X 1 rfl d_Mod_throwsIf_0 ?_
  refine g_ifb_eq X 9 d_Mod_throwsIf_1 (by decide) (fun hc1 => ?_) (fun hc1 => ?_)
  · have hM := fa_ifb_f hM hc1
    refine g_iload_n X 1 rfl d_Mod_throwsIf_9 ?_
    subst hM
    exact g_zret X rfl d_Mod_throwsIf_10
  · have hM := fa_ifb_t hM hc1
    refine g_aload_n X 0 rfl d_Mod_throwsIf_4 ?_
    refine g_iload_n X 2 rfl d_Mod_throwsIf_5 ?_
    refine g_put X ck_10 fo_181 (fn_181 hN) 0 (z := a2) (by decide) wd_1742 rfl (fa_fvI' rfl) rfl rfl rfl d_Mod_throwsIf_6 (fun w2 ew2 => ?_)
    have hM := fa_let_to hM ew2
    refine g_iload_n X 1 rfl d_Mod_throwsIf_9 ?_
    subst hM
    exact g_zret X rfl d_Mod_throwsIf_10
theorem d_Mod_in_0 : decode prog_12_method_3_code 0 = .ok (.iload_n 0, 1) := by decide +kernel
theorem d_Mod_in_1 : decode prog_12_method_3_code 1 = .ok (.iload_n 1, 1) := by decide +kernel
theorem d_Mod_in_2 : decode prog_12_method_3_code 2 = .ok (.if_icmp .lt 12, 3) := by decide +kernel
theorem d_Mod_in_5 : decode prog_12_method_3_code 5 = .ok (.iload_n 0, 1) := by decide +kernel
theorem d_Mod_in_6 : decode prog_12_method_3_code 6 = .ok (.iload_n 2, 1) := by decide +kernel
theorem d_Mod_in_7 : decode prog_12_method_3_code 7 = .ok (.if_icmp .gt 7, 3) := by decide +kernel
theorem d_Mod_in_10 : decode prog_12_method_3_code 10 = .ok (.iconst 1, 1) := by decide +kernel
theorem d_Mod_in_11 : decode prog_12_method_3_code 11 = .ok (.goto 4, 3) := by decide +kernel
theorem d_Mod_in_14 : decode prog_12_method_3_code 14 = .ok (.iconst 0, 1) := by decide +kernel
theorem d_Mod_in_15 : decode prog_12_method_3_code 15 = .ok (.ireturn, 1) := by decide +kernel
def fm_Mod_in (a1 : Int) (a2 : Int) (a3 : Int) (w : fa_W) : Bool :=
  if fa_wr a1 < fa_wr a2 then
  false
  else
  (if fa_wr a3 < fa_wr a1 then
  false
  else
  true)
set_option maxHeartbeats 4000000 in
set_option maxRecDepth 100000 in
theorem c_Mod_in {l : Launch} {D : va_G} {b : Nat} {aC : Nat → ClassId} {H0 : Heap} {N T : Nat} (hN : fa_NM ≤ N) (hT : fa_TM ≤ T) (a1 : Int) (a2 : Int) (a3 : Int)  (w : fa_W) (r : Bool) (hM : fm_Mod_in a1 a2 a3 w = r) : fa_MC l D b aC H0 N T y_Mod_in prog_12_method_3_code 3 ((Option.some Jvm.ClassFile.FieldType.boolean)) (0) [.int (fa_I a1), .int (fa_I a2), .int (fa_I a3)] w (some (.int (fa_I (fa_bi r)))) w := by
  refine fa_enter (lv := [(0, .int (fa_I a1)), (1, .int (fa_I a2)), (2, .int (fa_I a3))]) (by decide +kernel) (Nat.le_of_ble_eq_true rfl) rfl (fun hh hle hnm X => ?_)
  unfold fm_Mod_in at hM
  refine g_iload_n X 0 rfl d_Mod_in_0 ?_
  refine g_iload_n X 1 rfl d_Mod_in_1 ?_
  refine g_icmp_lt X 14 d_Mod_in_2 (by decide) (fun hc1 => ?_) (fun hc1 => ?_)
  · have hM := fa_if_t hM hc1
    refine g_iconst X d_Mod_in_14 ?_
    subst hM
    exact g_zret X rfl d_Mod_in_15
  · have hM := fa_if_f hM hc1
    refine g_iload_n X 0 rfl d_Mod_in_5 ?_
    refine g_iload_n X 2 rfl d_Mod_in_6 ?_
    refine g_icmp_gt X 14 d_Mod_in_7 (by decide) (fun hc2 => ?_) (fun hc2 => ?_)
    · have hM := fa_if_t hM hc2
      refine g_iconst X d_Mod_in_14 ?_
      subst hM
      exact g_zret X rfl d_Mod_in_15
    · have hM := fa_if_f hM hc2
      refine g_iconst X d_Mod_in_10 ?_
      refine g_goto X 15 d_Mod_in_11 (by decide) ?_
      subst hM
      exact g_zret X rfl d_Mod_in_15
theorem d_Mod_holds_0 : decode prog_12_method_4_code 0 = .ok (.iload_n 0, 1) := by decide +kernel
theorem d_Mod_holds_1 : decode prog_12_method_4_code 1 = .ok (.iload_n 1, 1) := by decide +kernel
theorem d_Mod_holds_2 : decode prog_12_method_4_code 2 = .ok (.ishr, 1) := by decide +kernel
theorem d_Mod_holds_3 : decode prog_12_method_4_code 3 = .ok (.iconst 1, 1) := by decide +kernel
theorem d_Mod_holds_4 : decode prog_12_method_4_code 4 = .ok (.iand, 1) := by decide +kernel
theorem d_Mod_holds_5 : decode prog_12_method_4_code 5 = .ok (.iconst 1, 1) := by decide +kernel
theorem d_Mod_holds_6 : decode prog_12_method_4_code 6 = .ok (.if_icmp .ne 7, 3) := by decide +kernel
theorem d_Mod_holds_9 : decode prog_12_method_4_code 9 = .ok (.iconst 1, 1) := by decide +kernel
theorem d_Mod_holds_10 : decode prog_12_method_4_code 10 = .ok (.goto 4, 3) := by decide +kernel
theorem d_Mod_holds_13 : decode prog_12_method_4_code 13 = .ok (.iconst 0, 1) := by decide +kernel
theorem d_Mod_holds_14 : decode prog_12_method_4_code 14 = .ok (.ireturn, 1) := by decide +kernel
def fm_Mod_holds (a1 : Int) (a2 : Int) (w : fa_W) : Bool :=
  if fa_wr (fa_iand (fa_ishr a1 a2) 1) = 1 then
  true
  else
  false
set_option maxHeartbeats 4000000 in
set_option maxRecDepth 100000 in
theorem c_Mod_holds {l : Launch} {D : va_G} {b : Nat} {aC : Nat → ClassId} {H0 : Heap} {N T : Nat} (hN : fa_NM ≤ N) (hT : fa_TM ≤ T) (a1 : Int) (a2 : Int)  (w : fa_W) (r : Bool) (hM : fm_Mod_holds a1 a2 w = r) : fa_MC l D b aC H0 N T y_Mod_holds prog_12_method_4_code 2 ((Option.some Jvm.ClassFile.FieldType.boolean)) (0) [.int (fa_I a1), .int (fa_I a2)] w (some (.int (fa_I (fa_bi r)))) w := by
  refine fa_enter (lv := [(0, .int (fa_I a1)), (1, .int (fa_I a2))]) (by decide +kernel) (Nat.le_of_ble_eq_true rfl) rfl (fun hh hle hnm X => ?_)
  unfold fm_Mod_holds at hM
  refine g_iload_n X 0 rfl d_Mod_holds_0 ?_
  refine g_iload_n X 1 rfl d_Mod_holds_1 ?_
  refine g_ishr X d_Mod_holds_2 ?_
  refine g_iconst X d_Mod_holds_3 ?_
  refine g_iand X d_Mod_holds_4 ?_
  refine g_iconst X d_Mod_holds_5 ?_
  refine g_icmp_ne X 13 d_Mod_holds_6 (by decide) (fun hc1 => ?_) (fun hc1 => ?_)
  · have hM := fa_if_f hM hc1
    refine g_iconst X d_Mod_holds_13 ?_
    subst hM
    exact g_zret X rfl d_Mod_holds_14
  · have hM := fa_if_t hM hc1
    refine g_iconst X d_Mod_holds_9 ?_
    refine g_goto X 14 d_Mod_holds_10 (by decide) ?_
    subst hM
    exact g_zret X rfl d_Mod_holds_14
theorem d_Mod_bits_0 : decode prog_12_method_5_code 0 = .ok (.iconst 0, 1) := by decide +kernel
theorem d_Mod_bits_1 : decode prog_12_method_5_code 1 = .ok (.istore_n 1, 1) := by decide +kernel
theorem d_Mod_bits_2 : decode prog_12_method_5_code 2 = .ok (.iload_n 0, 1) := by decide +kernel
theorem d_Mod_bits_3 : decode prog_12_method_5_code 3 = .ok (.istore_n 2, 1) := by decide +kernel
theorem d_Mod_bits_4 : decode prog_12_method_5_code 4 = .ok (.iload_n 2, 1) := by decide +kernel
theorem d_Mod_bits_5 : decode prog_12_method_5_code 5 = .ok (.ifCond .eq 15, 3) := by decide +kernel
theorem d_Mod_bits_8 : decode prog_12_method_5_code 8 = .ok (.iinc 1 1, 3) := by decide +kernel
theorem d_Mod_bits_11 : decode prog_12_method_5_code 11 = .ok (.iload_n 2, 1) := by decide +kernel
theorem d_Mod_bits_12 : decode prog_12_method_5_code 12 = .ok (.iload_n 2, 1) := by decide +kernel
theorem d_Mod_bits_13 : decode prog_12_method_5_code 13 = .ok (.iconst 1, 1) := by decide +kernel
theorem d_Mod_bits_14 : decode prog_12_method_5_code 14 = .ok (.isub, 1) := by decide +kernel
theorem d_Mod_bits_15 : decode prog_12_method_5_code 15 = .ok (.iand, 1) := by decide +kernel
theorem d_Mod_bits_16 : decode prog_12_method_5_code 16 = .ok (.istore_n 2, 1) := by decide +kernel
theorem d_Mod_bits_17 : decode prog_12_method_5_code 17 = .ok (.goto (-13), 3) := by decide +kernel
theorem d_Mod_bits_20 : decode prog_12_method_5_code 20 = .ok (.iload_n 1, 1) := by decide +kernel
theorem d_Mod_bits_21 : decode prog_12_method_5_code 21 = .ok (.ireturn, 1) := by decide +kernel
def fm_Mod_bits_l4 (a1 : Int) (w : fa_W) : Nat → Int → Int → Option Int
  | 0, _, _ => none
  | n + 1, x1, x2 => if fa_wr x2 = 0 then
  some x1
  else
  (fa_let (x1 + 1) fun x1_2 =>
  fa_let (fa_iand x2 (x2 - 1)) fun x2_3 =>
  fm_Mod_bits_l4 a1 w n x1_2 x2_3)
set_option maxHeartbeats 4000000 in
set_option maxRecDepth 100000 in
theorem c_Mod_bits_l4 {p : Program} {l : Launch} {e : Env} {s : State} {m : MethodId} {args : Array Value} {below : List Frame} {meth : Method} {c : Code} {hh : Nat} {D : va_G} {b : Nat} {aC : Nat → ClassId} {H0 : Heap} {N T : Nat} (X : fa_GX p s m args meth c prog_12_method_5_code 3 ((Option.some Jvm.ClassFile.FieldType.int)) y_Mod_bits.cls D b aC) (hle : 0 ≤ hh) (hN : fa_NM ≤ N) (hT : fa_TM ≤ T) (a1 : Int) {r : Int} (w : fa_W) : ∀ (n : Nat) (x1 : Int) (x2 : Int), fm_Mod_bits_l4 a1 w n x1 x2 = some r → fa_GJ p l e (fa_rm hh) s m args below meth c 0 0 (MQ below (fa_Qc D b aC H0 N T (some (.int (fa_I r))) w) args s 0 0 (fun q => b ≤ q)) D b aC H0 N T 3 w 4 [(1, .int (fa_I x1)), (2, .int (fa_I x2))] [] := by
  intro n
  induction n with
  | zero => intro x1 x2 hM; exact fa_no hM
  | succ n ih =>
    intro x1 x2 hM
    rw [fm_Mod_bits_l4] at hM
    refine g_iload_n X 1 rfl d_Mod_bits_4 ?_
    refine g_if_eq X 20 d_Mod_bits_5 (by decide) (fun hc1 => ?_) (fun hc1 => ?_)
    · have hM := fa_if_t hM hc1
      refine g_iload_n X 0 rfl d_Mod_bits_20 ?_
      cases hM
      exact g_iret X d_Mod_bits_21
    · have hM := fa_if_f hM hc1
      refine g_iinc X 0 (fun x1_2 => [(1, .int (fa_I x1_2)), (2, .int (fa_I x2))]) d_Mod_bits_8 rfl (by decide) (fun _ => rfl) (fun x1_2 ex1_2 => ?_)
      have hM := fa_let_to hM ex1_2
      refine g_iload_n X 1 rfl d_Mod_bits_11 ?_
      refine g_iload_n X 1 rfl d_Mod_bits_12 ?_
      refine g_iconst X d_Mod_bits_13 ?_
      refine g_isub X d_Mod_bits_14 ?_
      refine g_iand X d_Mod_bits_15 ?_
      refine g_istore_n X (fun x2_3 => [(2, .int (fa_I x2_3)), (1, .int (fa_I x1_2))]) d_Mod_bits_16 (by decide) (fun _ => rfl) (fun x2_3 ex2_3 => ?_)
      have hM := fa_let_to hM ex2_3
      refine g_goto X 4 d_Mod_bits_17 (by decide) ?_
      exact g_lv [1, 0] rfl (ih _ _ hM)
def fm_Mod_bits (a1 : Int) (w : fa_W) : Option Int :=
  fm_Mod_bits_l4 a1 w fa_FU 0 a1
set_option maxHeartbeats 4000000 in
set_option maxRecDepth 100000 in
theorem c_Mod_bits {l : Launch} {D : va_G} {b : Nat} {aC : Nat → ClassId} {H0 : Heap} {N T : Nat} (hN : fa_NM ≤ N) (hT : fa_TM ≤ T) (a1 : Int)  (w : fa_W) (r : Int) (hM : fm_Mod_bits a1 w = some r) : fa_MC l D b aC H0 N T y_Mod_bits prog_12_method_5_code 3 ((Option.some Jvm.ClassFile.FieldType.int)) (0) [.int (fa_I a1)] w (some (.int (fa_I r))) w := by
  refine fa_enter (lv := [(0, .int (fa_I a1))]) (by decide +kernel) (Nat.le_of_ble_eq_true rfl) rfl (fun hh hle hnm X => ?_)
  unfold fm_Mod_bits at hM
  refine g_iconst X d_Mod_bits_0 ?_
  refine g_istorec_n X [(1, .int (fa_I 0)), (0, .int (fa_I a1))] d_Mod_bits_1 (by decide) rfl ?_
  refine g_iload_n X 1 rfl d_Mod_bits_2 ?_
  refine g_istorec_n X [(2, .int (fa_I a1)), (1, .int (fa_I 0)), (0, .int (fa_I a1))] d_Mod_bits_3 (by decide) rfl ?_
  exact g_lv [1, 0] rfl (c_Mod_bits_l4 X hle hN hT a1 w  fa_FU _ _ hM)
theorem d_Mod_feed_0 : decode prog_12_method_6_code 0 = .ok (.aload_n 0, 1) := by decide +kernel
theorem d_Mod_feed_1 : decode prog_12_method_6_code 1 = .ok (.iconst 0, 1) := by decide +kernel
theorem d_Mod_feed_2 : decode prog_12_method_6_code 2 = .ok (.putfield 1, 3) := by decide +kernel
theorem d_Mod_feed_5 : decode prog_12_method_6_code 5 = .ok (.aload_n 0, 1) := by decide +kernel
theorem d_Mod_feed_6 : decode prog_12_method_6_code 6 = .ok (.getfield 7, 3) := by decide +kernel
theorem d_Mod_feed_9 : decode prog_12_method_6_code 9 = .ok (.bipush 20, 2) := by decide +kernel
theorem d_Mod_feed_11 : decode prog_12_method_6_code 11 = .ok (.iadd, 1) := by decide +kernel
theorem d_Mod_feed_12 : decode prog_12_method_6_code 12 = .ok (.sipush 400, 3) := by decide +kernel
theorem d_Mod_feed_15 : decode prog_12_method_6_code 15 = .ok (.if_icmp .le 5, 3) := by decide +kernel
theorem d_Mod_feed_18 : decode prog_12_method_6_code 18 = .ok (.iconst (-1), 1) := by decide +kernel
theorem d_Mod_feed_19 : decode prog_12_method_6_code 19 = .ok (.ireturn, 1) := by decide +kernel
theorem d_Mod_feed_20 : decode prog_12_method_6_code 20 = .ok (.aload_n 0, 1) := by decide +kernel
theorem d_Mod_feed_21 : decode prog_12_method_6_code 21 = .ok (.getfield 10, 3) := by decide +kernel
theorem d_Mod_feed_24 : decode prog_12_method_6_code 24 = .ok (.iconst 0, 1) := by decide +kernel
theorem d_Mod_feed_25 : decode prog_12_method_6_code 25 = .ok (.iload_n 1, 1) := by decide +kernel
theorem d_Mod_feed_26 : decode prog_12_method_6_code 26 = .ok (.iastore, 1) := by decide +kernel
theorem d_Mod_feed_27 : decode prog_12_method_6_code 27 = .ok (.aload_n 0, 1) := by decide +kernel
theorem d_Mod_feed_28 : decode prog_12_method_6_code 28 = .ok (.getfield 10, 3) := by decide +kernel
theorem d_Mod_feed_31 : decode prog_12_method_6_code 31 = .ok (.iconst 1, 1) := by decide +kernel
theorem d_Mod_feed_32 : decode prog_12_method_6_code 32 = .ok (.iload_n 2, 1) := by decide +kernel
theorem d_Mod_feed_33 : decode prog_12_method_6_code 33 = .ok (.iastore, 1) := by decide +kernel
theorem d_Mod_feed_34 : decode prog_12_method_6_code 34 = .ok (.aload_n 0, 1) := by decide +kernel
theorem d_Mod_feed_35 : decode prog_12_method_6_code 35 = .ok (.getfield 10, 3) := by decide +kernel
theorem d_Mod_feed_38 : decode prog_12_method_6_code 38 = .ok (.iconst 2, 1) := by decide +kernel
theorem d_Mod_feed_39 : decode prog_12_method_6_code 39 = .ok (.iload_n 3, 1) := by decide +kernel
theorem d_Mod_feed_40 : decode prog_12_method_6_code 40 = .ok (.iastore, 1) := by decide +kernel
theorem d_Mod_feed_41 : decode prog_12_method_6_code 41 = .ok (.aload_n 0, 1) := by decide +kernel
theorem d_Mod_feed_42 : decode prog_12_method_6_code 42 = .ok (.getfield 10, 3) := by decide +kernel
theorem d_Mod_feed_45 : decode prog_12_method_6_code 45 = .ok (.iconst 3, 1) := by decide +kernel
theorem d_Mod_feed_46 : decode prog_12_method_6_code 46 = .ok (.iload 4, 2) := by decide +kernel
theorem d_Mod_feed_48 : decode prog_12_method_6_code 48 = .ok (.iastore, 1) := by decide +kernel
theorem d_Mod_feed_49 : decode prog_12_method_6_code 49 = .ok (.aload_n 0, 1) := by decide +kernel
theorem d_Mod_feed_50 : decode prog_12_method_6_code 50 = .ok (.getfield 10, 3) := by decide +kernel
theorem d_Mod_feed_53 : decode prog_12_method_6_code 53 = .ok (.iconst 4, 1) := by decide +kernel
theorem d_Mod_feed_54 : decode prog_12_method_6_code 54 = .ok (.iload 5, 2) := by decide +kernel
theorem d_Mod_feed_56 : decode prog_12_method_6_code 56 = .ok (.iastore, 1) := by decide +kernel
theorem d_Mod_feed_57 : decode prog_12_method_6_code 57 = .ok (.iconst 0, 1) := by decide +kernel
theorem d_Mod_feed_58 : decode prog_12_method_6_code 58 = .ok (.istore 6, 2) := by decide +kernel
theorem d_Mod_feed_60 : decode prog_12_method_6_code 60 = .ok (.iload 6, 2) := by decide +kernel
theorem d_Mod_feed_62 : decode prog_12_method_6_code 62 = .ok (.bipush 20, 2) := by decide +kernel
theorem d_Mod_feed_64 : decode prog_12_method_6_code 64 = .ok (.if_icmp .ge 42, 3) := by decide +kernel
theorem d_Mod_feed_67 : decode prog_12_method_6_code 67 = .ok (.aload_n 0, 1) := by decide +kernel
theorem d_Mod_feed_68 : decode prog_12_method_6_code 68 = .ok (.getfield 14, 3) := by decide +kernel
theorem d_Mod_feed_71 : decode prog_12_method_6_code 71 = .ok (.aload_n 0, 1) := by decide +kernel
theorem d_Mod_feed_72 : decode prog_12_method_6_code 72 = .ok (.getfield 7, 3) := by decide +kernel
theorem d_Mod_feed_75 : decode prog_12_method_6_code 75 = .ok (.iload 6, 2) := by decide +kernel
theorem d_Mod_feed_77 : decode prog_12_method_6_code 77 = .ok (.iadd, 1) := by decide +kernel
theorem d_Mod_feed_78 : decode prog_12_method_6_code 78 = .ok (.aload_n 0, 1) := by decide +kernel
theorem d_Mod_feed_79 : decode prog_12_method_6_code 79 = .ok (.getfield 10, 3) := by decide +kernel
theorem d_Mod_feed_82 : decode prog_12_method_6_code 82 = .ok (.iload 6, 2) := by decide +kernel
theorem d_Mod_feed_84 : decode prog_12_method_6_code 84 = .ok (.iconst 4, 1) := by decide +kernel
theorem d_Mod_feed_85 : decode prog_12_method_6_code 85 = .ok (.idiv, 1) := by decide +kernel
theorem d_Mod_feed_86 : decode prog_12_method_6_code 86 = .ok (.iaload, 1) := by decide +kernel
theorem d_Mod_feed_87 : decode prog_12_method_6_code 87 = .ok (.bipush 24, 2) := by decide +kernel
theorem d_Mod_feed_89 : decode prog_12_method_6_code 89 = .ok (.bipush 8, 2) := by decide +kernel
theorem d_Mod_feed_91 : decode prog_12_method_6_code 91 = .ok (.iload 6, 2) := by decide +kernel
theorem d_Mod_feed_93 : decode prog_12_method_6_code 93 = .ok (.iconst 4, 1) := by decide +kernel
theorem d_Mod_feed_94 : decode prog_12_method_6_code 94 = .ok (.irem, 1) := by decide +kernel
theorem d_Mod_feed_95 : decode prog_12_method_6_code 95 = .ok (.imul, 1) := by decide +kernel
theorem d_Mod_feed_96 : decode prog_12_method_6_code 96 = .ok (.isub, 1) := by decide +kernel
theorem d_Mod_feed_97 : decode prog_12_method_6_code 97 = .ok (.ishr, 1) := by decide +kernel
theorem d_Mod_feed_98 : decode prog_12_method_6_code 98 = .ok (.i2b, 1) := by decide +kernel
theorem d_Mod_feed_99 : decode prog_12_method_6_code 99 = .ok (.bastore, 1) := by decide +kernel
theorem d_Mod_feed_100 : decode prog_12_method_6_code 100 = .ok (.iinc 6 1, 3) := by decide +kernel
theorem d_Mod_feed_103 : decode prog_12_method_6_code 103 = .ok (.goto (-43), 3) := by decide +kernel
theorem d_Mod_feed_106 : decode prog_12_method_6_code 106 = .ok (.aload_n 0, 1) := by decide +kernel
theorem d_Mod_feed_107 : decode prog_12_method_6_code 107 = .ok (.dup, 1) := by decide +kernel
theorem d_Mod_feed_108 : decode prog_12_method_6_code 108 = .ok (.getfield 7, 3) := by decide +kernel
theorem d_Mod_feed_111 : decode prog_12_method_6_code 111 = .ok (.bipush 20, 2) := by decide +kernel
theorem d_Mod_feed_113 : decode prog_12_method_6_code 113 = .ok (.iadd, 1) := by decide +kernel
theorem d_Mod_feed_114 : decode prog_12_method_6_code 114 = .ok (.putfield 7, 3) := by decide +kernel
theorem d_Mod_feed_117 : decode prog_12_method_6_code 117 = .ok (.aload_n 0, 1) := by decide +kernel
theorem d_Mod_feed_118 : decode prog_12_method_6_code 118 = .ok (.getfield 7, 3) := by decide +kernel
theorem d_Mod_feed_121 : decode prog_12_method_6_code 121 = .ok (.ireturn, 1) := by decide +kernel
def fm_Mod_feed_l60 (a1 : Int) (a2 : Int) (a3 : Int) (a4 : Int) (a5 : Int) : Nat → Int → fa_W → Option (Int × fa_W)
  | 0, _, _ => none
  | n + 1, x6, w => if 20 ≤ fa_wr x6 then
  (fa_let (fa_st w 181 2 ((w 181 2) + 20)) fun w14 =>
  some (w14 181 2, w14))
  else
  ((fa_ix (fa_idiv x6 4) 5).bind fun j15 =>
  (fa_ix ((w 181 2) + x6) 400).bind fun j16 =>
  fa_let (fa_st w 182 j16 (fa_i2b (fa_i2b (fa_ishr (w 183 j15) (24 - (8 * (fa_irem x6 4))))))) fun w17 =>
  fa_let (x6 + 1) fun x6_18 =>
  fm_Mod_feed_l60 a1 a2 a3 a4 a5 n x6_18 w17)
set_option maxHeartbeats 4000000 in
set_option maxRecDepth 100000 in
theorem c_Mod_feed_l60 {p : Program} {l : Launch} {e : Env} {s : State} {m : MethodId} {args : Array Value} {below : List Frame} {meth : Method} {c : Code} {hh : Nat} {D : va_G} {b : Nat} {aC : Nat → ClassId} {H0 : Heap} {N T : Nat} (X : fa_GX p s m args meth c prog_12_method_6_code 7 ((Option.some Jvm.ClassFile.FieldType.int)) y_Mod_feed.cls D b aC) (hle : 0 ≤ hh) (hN : fa_NM ≤ N) (hT : fa_TM ≤ T) (a1 : Int) (a2 : Int) (a3 : Int) (a4 : Int) (a5 : Int) {r : Int × fa_W}  : ∀ (n : Nat) (x6 : Int) (w : fa_W), fm_Mod_feed_l60 a1 a2 a3 a4 a5 n x6 w = some r → fa_GJ p l e (fa_rm hh) s m args below meth c 0 0 (MQ below (fa_Qc D b aC H0 N T (some (.int (fa_I r.1))) r.2) args s 0 0 (fun q => b ≤ q)) D b aC H0 N T 7 w 60 [(0, .ref (b + 181)), (6, .int (fa_I x6))] [] := by
  intro n
  induction n with
  | zero => intro x6 w hM; exact fa_no hM
  | succ n ih =>
    intro x6 w hM
    rw [fm_Mod_feed_l60] at hM
    refine g_iload X 1 rfl d_Mod_feed_60 ?_
    refine g_bipush X (by decide) d_Mod_feed_62 ?_
    refine g_icmp_ge X 106 d_Mod_feed_64 (by decide) (fun hc13 => ?_) (fun hc13 => ?_)
    · have hM := fa_if_t hM hc13
      refine g_aload_n X 0 rfl d_Mod_feed_106 ?_
      refine g_dup X rfl d_Mod_feed_107 ?_
      refine g_get X ck_10 fo_181 (fn_181 hN) 2 (by decide) wd_1744 rfl (fa_fvI rfl) d_Mod_feed_108 ?_
      refine g_bipush X (by decide) d_Mod_feed_111 ?_
      refine g_iadd X d_Mod_feed_113 ?_
      refine g_put X ck_10 fo_181 (fn_181 hN) 2 (z := ((w 181 2) + 20)) (by decide) wd_1744 rfl (fa_fvI' rfl) rfl rfl rfl d_Mod_feed_114 (fun w14 ew14 => ?_)
      have hM := fa_let_to hM ew14
      refine g_aload_n X 0 rfl d_Mod_feed_117 ?_
      refine g_get X ck_10 fo_181 (fn_181 hN) 2 (by decide) wd_1744 rfl (fa_fvI rfl) d_Mod_feed_118 ?_
      cases hM
      exact g_iret X d_Mod_feed_121
    · have hM := fa_if_f hM hc13
      refine g_aload_n X 0 rfl d_Mod_feed_67 ?_
      refine g_get X ck_10 fo_181 (fn_181 hN) 1 (by decide) wd_1743 rfl (fr_181_1 rfl hT) d_Mod_feed_68 ?_
      refine g_aload_n X 0 rfl d_Mod_feed_71 ?_
      refine g_get X ck_10 fo_181 (fn_181 hN) 2 (by decide) wd_1744 rfl (fa_fvI rfl) d_Mod_feed_72 ?_
      refine g_iload X 1 rfl d_Mod_feed_75 ?_
      refine g_iadd X d_Mod_feed_77 ?_
      refine g_aload_n X 0 rfl d_Mod_feed_78 ?_
      refine g_get X ck_10 fo_181 (fn_181 hN) 3 (by decide) wd_1745 rfl (fr_181_3 rfl hT) d_Mod_feed_79 ?_
      refine g_iload X 1 rfl d_Mod_feed_82 ?_
      refine g_iconst X d_Mod_feed_84 ?_
      refine g_idiv X (by decide) d_Mod_feed_85 ?_
      obtain ⟨j15, ej15, hM⟩ := fa_ob hM
      refine g_iald X fs_183 (fn_183 hN) ej15 d_Mod_feed_86 ?_
      refine g_bipush X (by decide) d_Mod_feed_87 ?_
      refine g_bipush X (by decide) d_Mod_feed_89 ?_
      refine g_iload X 1 rfl d_Mod_feed_91 ?_
      refine g_iconst X d_Mod_feed_93 ?_
      refine g_irem X (by decide) d_Mod_feed_94 ?_
      refine g_imul X d_Mod_feed_95 ?_
      refine g_isub X d_Mod_feed_96 ?_
      refine g_ishr X d_Mod_feed_97 ?_
      refine g_i2b X d_Mod_feed_98 ?_
      obtain ⟨j16, ej16, hM⟩ := fa_ob hM
      refine g_bast X fs_182 (fn_182 hN) ej16 d_Mod_feed_99 (fun w17 ew17 => ?_)
      have hM := fa_let_to hM ew17
      refine g_iinc X 1 (fun x6_18 => [(6, .int (fa_I x6_18)), (0, .ref (b + 181))]) d_Mod_feed_100 rfl (by decide) (fun _ => rfl) (fun x6_18 ex6_18 => ?_)
      have hM := fa_let_to hM ex6_18
      refine g_goto X 60 d_Mod_feed_103 (by decide) ?_
      exact g_lv [1, 0] rfl (ih _ _ hM)
def fm_Mod_feed (a1 : Int) (a2 : Int) (a3 : Int) (a4 : Int) (a5 : Int) (w : fa_W) : Option (Int × fa_W) :=
  fa_let (fa_st w 181 0 0) fun w1 =>
  if fa_wr ((w1 181 2) + 20) ≤ 400 then
  ((fa_ix 0 5).bind fun j3 =>
  fa_let (fa_st w1 183 j3 a1) fun w4 =>
  (fa_ix 1 5).bind fun j5 =>
  fa_let (fa_st w4 183 j5 a2) fun w6 =>
  (fa_ix 2 5).bind fun j7 =>
  fa_let (fa_st w6 183 j7 a3) fun w8 =>
  (fa_ix 3 5).bind fun j9 =>
  fa_let (fa_st w8 183 j9 a4) fun w10 =>
  (fa_ix 4 5).bind fun j11 =>
  fa_let (fa_st w10 183 j11 a5) fun w12 =>
  fm_Mod_feed_l60 a1 a2 a3 a4 a5 fa_FU 0 w12)
  else
  some ((-1), w1)
set_option maxHeartbeats 4000000 in
set_option maxRecDepth 100000 in
theorem c_Mod_feed {l : Launch} {D : va_G} {b : Nat} {aC : Nat → ClassId} {H0 : Heap} {N T : Nat} (hN : fa_NM ≤ N) (hT : fa_TM ≤ T) (a1 : Int) (a2 : Int) (a3 : Int) (a4 : Int) (a5 : Int)  (w : fa_W) (r : Int × fa_W) (hM : fm_Mod_feed a1 a2 a3 a4 a5 w = some r) : fa_MC l D b aC H0 N T y_Mod_feed prog_12_method_6_code 7 ((Option.some Jvm.ClassFile.FieldType.int)) (0) [.ref (b + 181), .int (fa_I a1), .int (fa_I a2), .int (fa_I a3), .int (fa_I a4), .int (fa_I a5)] w (some (.int (fa_I r.1))) r.2 := by
  refine fa_enter (lv := [(0, .ref (b + 181)), (1, .int (fa_I a1)), (2, .int (fa_I a2)), (3, .int (fa_I a3)), (4, .int (fa_I a4)), (5, .int (fa_I a5))]) (by decide +kernel) (Nat.le_of_ble_eq_true rfl) rfl (fun hh hle hnm X => ?_)
  unfold fm_Mod_feed at hM
  refine g_aload_n X 0 rfl d_Mod_feed_0 ?_
  refine g_iconst X d_Mod_feed_1 ?_
  refine g_put X ck_10 fo_181 (fn_181 hN) 0 (z := 0) (by decide) wd_1742 rfl (fa_fvI' rfl) rfl rfl rfl d_Mod_feed_2 (fun w1 ew1 => ?_)
  have hM := fa_let_to hM ew1
  refine g_aload_n X 0 rfl d_Mod_feed_5 ?_
  refine g_get X ck_10 fo_181 (fn_181 hN) 2 (by decide) wd_1744 rfl (fa_fvI rfl) d_Mod_feed_6 ?_
  refine g_bipush X (by decide) d_Mod_feed_9 ?_
  refine g_iadd X d_Mod_feed_11 ?_
  refine g_sipush X (by decide) d_Mod_feed_12 ?_
  refine g_icmp_le X 20 d_Mod_feed_15 (by decide) (fun hc2 => ?_) (fun hc2 => ?_)
  · have hM := fa_if_t hM hc2
    refine g_aload_n X 0 rfl d_Mod_feed_20 ?_
    refine g_get X ck_10 fo_181 (fn_181 hN) 3 (by decide) wd_1745 rfl (fr_181_3 rfl hT) d_Mod_feed_21 ?_
    refine g_iconst X d_Mod_feed_24 ?_
    refine g_iload_n X 1 rfl d_Mod_feed_25 ?_
    obtain ⟨j3, ej3, hM⟩ := fa_ob hM
    refine g_iast X fs_183 (fn_183 hN) ej3 d_Mod_feed_26 (fun w4 ew4 => ?_)
    have hM := fa_let_to hM ew4
    refine g_aload_n X 0 rfl d_Mod_feed_27 ?_
    refine g_get X ck_10 fo_181 (fn_181 hN) 3 (by decide) wd_1745 rfl (fr_181_3 rfl hT) d_Mod_feed_28 ?_
    refine g_iconst X d_Mod_feed_31 ?_
    refine g_iload_n X 2 rfl d_Mod_feed_32 ?_
    obtain ⟨j5, ej5, hM⟩ := fa_ob hM
    refine g_iast X fs_183 (fn_183 hN) ej5 d_Mod_feed_33 (fun w6 ew6 => ?_)
    have hM := fa_let_to hM ew6
    refine g_aload_n X 0 rfl d_Mod_feed_34 ?_
    refine g_get X ck_10 fo_181 (fn_181 hN) 3 (by decide) wd_1745 rfl (fr_181_3 rfl hT) d_Mod_feed_35 ?_
    refine g_iconst X d_Mod_feed_38 ?_
    refine g_iload_n X 3 rfl d_Mod_feed_39 ?_
    obtain ⟨j7, ej7, hM⟩ := fa_ob hM
    refine g_iast X fs_183 (fn_183 hN) ej7 d_Mod_feed_40 (fun w8 ew8 => ?_)
    have hM := fa_let_to hM ew8
    refine g_aload_n X 0 rfl d_Mod_feed_41 ?_
    refine g_get X ck_10 fo_181 (fn_181 hN) 3 (by decide) wd_1745 rfl (fr_181_3 rfl hT) d_Mod_feed_42 ?_
    refine g_iconst X d_Mod_feed_45 ?_
    refine g_iload X 4 rfl d_Mod_feed_46 ?_
    obtain ⟨j9, ej9, hM⟩ := fa_ob hM
    refine g_iast X fs_183 (fn_183 hN) ej9 d_Mod_feed_48 (fun w10 ew10 => ?_)
    have hM := fa_let_to hM ew10
    refine g_aload_n X 0 rfl d_Mod_feed_49 ?_
    refine g_get X ck_10 fo_181 (fn_181 hN) 3 (by decide) wd_1745 rfl (fr_181_3 rfl hT) d_Mod_feed_50 ?_
    refine g_iconst X d_Mod_feed_53 ?_
    refine g_iload X 5 rfl d_Mod_feed_54 ?_
    obtain ⟨j11, ej11, hM⟩ := fa_ob hM
    refine g_iast X fs_183 (fn_183 hN) ej11 d_Mod_feed_56 (fun w12 ew12 => ?_)
    have hM := fa_let_to hM ew12
    refine g_iconst X d_Mod_feed_57 ?_
    refine g_istorec X [(6, .int (fa_I 0)), (0, .ref (b + 181)), (1, .int (fa_I a1)), (2, .int (fa_I a2)), (3, .int (fa_I a3)), (4, .int (fa_I a4)), (5, .int (fa_I a5))] d_Mod_feed_58 (by decide) rfl ?_
    exact g_lv [1, 0] rfl (c_Mod_feed_l60 X hle hN hT a1 a2 a3 a4 a5   fa_FU _ _ hM)
  · have hM := fa_if_f hM hc2
    refine g_iconst X d_Mod_feed_18 ?_
    cases hM
    exact g_iret X d_Mod_feed_19
theorem d_Mod_end_0 : decode prog_12_method_7_code 0 = .ok (.aload_n 0, 1) := by decide +kernel
theorem d_Mod_end_1 : decode prog_12_method_7_code 1 = .ok (.iconst 0, 1) := by decide +kernel
theorem d_Mod_end_2 : decode prog_12_method_7_code 2 = .ok (.putfield 1, 3) := by decide +kernel
theorem d_Mod_end_5 : decode prog_12_method_7_code 5 = .ok (.iload_n 1, 1) := by decide +kernel
theorem d_Mod_end_6 : decode prog_12_method_7_code 6 = .ok (.ifCond .lt 11, 3) := by decide +kernel
theorem d_Mod_end_9 : decode prog_12_method_7_code 9 = .ok (.iload_n 1, 1) := by decide +kernel
theorem d_Mod_end_10 : decode prog_12_method_7_code 10 = .ok (.aload_n 0, 1) := by decide +kernel
theorem d_Mod_end_11 : decode prog_12_method_7_code 11 = .ok (.getfield 7, 3) := by decide +kernel
theorem d_Mod_end_14 : decode prog_12_method_7_code 14 = .ok (.if_icmp .le 5, 3) := by decide +kernel
theorem d_Mod_end_17 : decode prog_12_method_7_code 17 = .ok (.iconst 0, 1) := by decide +kernel
theorem d_Mod_end_18 : decode prog_12_method_7_code 18 = .ok (.ireturn, 1) := by decide +kernel
theorem d_Mod_end_19 : decode prog_12_method_7_code 19 = .ok (.aload_n 0, 1) := by decide +kernel
theorem d_Mod_end_20 : decode prog_12_method_7_code 20 = .ok (.iload_n 1, 1) := by decide +kernel
theorem d_Mod_end_21 : decode prog_12_method_7_code 21 = .ok (.putfield 7, 3) := by decide +kernel
theorem d_Mod_end_24 : decode prog_12_method_7_code 24 = .ok (.iconst 1, 1) := by decide +kernel
theorem d_Mod_end_25 : decode prog_12_method_7_code 25 = .ok (.ireturn, 1) := by decide +kernel
def fm_Mod_end (a1 : Int) (w : fa_W) : Bool × fa_W :=
  fa_let (fa_st w 181 0 0) fun w1 =>
  if fa_wr a1 < 0 then
  (false, w1)
  else
  (if fa_wr a1 ≤ fa_wr (w1 181 2) then
  (fa_let (fa_st w1 181 2 a1) fun w4 =>
  (true, w4))
  else
  (false, w1))
set_option maxHeartbeats 4000000 in
set_option maxRecDepth 100000 in
theorem c_Mod_end {l : Launch} {D : va_G} {b : Nat} {aC : Nat → ClassId} {H0 : Heap} {N T : Nat} (hN : fa_NM ≤ N) (hT : fa_TM ≤ T) (a1 : Int)  (w : fa_W) (r : Bool × fa_W) (hM : fm_Mod_end a1 w = r) : fa_MC l D b aC H0 N T y_Mod_end prog_12_method_7_code 2 ((Option.some Jvm.ClassFile.FieldType.boolean)) (0) [.ref (b + 181), .int (fa_I a1)] w (some (.int (fa_I (fa_bi r.1)))) r.2 := by
  refine fa_enter (lv := [(0, .ref (b + 181)), (1, .int (fa_I a1))]) (by decide +kernel) (Nat.le_of_ble_eq_true rfl) rfl (fun hh hle hnm X => ?_)
  unfold fm_Mod_end at hM
  refine g_aload_n X 0 rfl d_Mod_end_0 ?_
  refine g_iconst X d_Mod_end_1 ?_
  refine g_put X ck_10 fo_181 (fn_181 hN) 0 (z := 0) (by decide) wd_1742 rfl (fa_fvI' rfl) rfl rfl rfl d_Mod_end_2 (fun w1 ew1 => ?_)
  have hM := fa_let_to hM ew1
  refine g_iload_n X 1 rfl d_Mod_end_5 ?_
  refine g_if_lt X 17 d_Mod_end_6 (by decide) (fun hc2 => ?_) (fun hc2 => ?_)
  · have hM := fa_if_t hM hc2
    refine g_iconst X d_Mod_end_17 ?_
    subst hM
    exact g_zret X rfl d_Mod_end_18
  · have hM := fa_if_f hM hc2
    refine g_iload_n X 1 rfl d_Mod_end_9 ?_
    refine g_aload_n X 0 rfl d_Mod_end_10 ?_
    refine g_get X ck_10 fo_181 (fn_181 hN) 2 (by decide) wd_1744 rfl (fa_fvI rfl) d_Mod_end_11 ?_
    refine g_icmp_le X 19 d_Mod_end_14 (by decide) (fun hc3 => ?_) (fun hc3 => ?_)
    · have hM := fa_if_t hM hc3
      refine g_aload_n X 0 rfl d_Mod_end_19 ?_
      refine g_iload_n X 1 rfl d_Mod_end_20 ?_
      refine g_put X ck_10 fo_181 (fn_181 hN) 2 (z := a1) (by decide) wd_1744 rfl (fa_fvI' rfl) rfl rfl rfl d_Mod_end_21 (fun w4 ew4 => ?_)
      have hM := fa_let_to hM ew4
      refine g_iconst X d_Mod_end_24 ?_
      subst hM
      exact g_zret X rfl d_Mod_end_25
    · have hM := fa_if_f hM hc3
      refine g_iconst X d_Mod_end_17 ?_
      subst hM
      exact g_zret X rfl d_Mod_end_18
theorem d_Mod_isAt_0 : decode prog_12_method_8_code 0 = .ok (.aload_n 0, 1) := by decide +kernel
theorem d_Mod_isAt_1 : decode prog_12_method_8_code 1 = .ok (.getfield 18, 3) := by decide +kernel
theorem d_Mod_isAt_4 : decode prog_12_method_8_code 4 = .ok (.aload_n 0, 1) := by decide +kernel
theorem d_Mod_isAt_5 : decode prog_12_method_8_code 5 = .ok (.getfield 21, 3) := by decide +kernel
theorem d_Mod_isAt_8 : decode prog_12_method_8_code 8 = .ok (.if_icmp .ge 33, 3) := by decide +kernel
theorem d_Mod_isAt_11 : decode prog_12_method_8_code 11 = .ok (.aload_n 0, 1) := by decide +kernel
theorem d_Mod_isAt_12 : decode prog_12_method_8_code 12 = .ok (.getfield 24, 3) := by decide +kernel
theorem d_Mod_isAt_15 : decode prog_12_method_8_code 15 = .ok (.aload_n 0, 1) := by decide +kernel
theorem d_Mod_isAt_16 : decode prog_12_method_8_code 16 = .ok (.getfield 18, 3) := by decide +kernel
theorem d_Mod_isAt_19 : decode prog_12_method_8_code 19 = .ok (.baload, 1) := by decide +kernel
theorem d_Mod_isAt_20 : decode prog_12_method_8_code 20 = .ok (.iload_n 1, 1) := by decide +kernel
theorem d_Mod_isAt_21 : decode prog_12_method_8_code 21 = .ok (.if_icmp .lt 20, 3) := by decide +kernel
theorem d_Mod_isAt_24 : decode prog_12_method_8_code 24 = .ok (.aload_n 0, 1) := by decide +kernel
theorem d_Mod_isAt_25 : decode prog_12_method_8_code 25 = .ok (.getfield 24, 3) := by decide +kernel
theorem d_Mod_isAt_28 : decode prog_12_method_8_code 28 = .ok (.aload_n 0, 1) := by decide +kernel
theorem d_Mod_isAt_29 : decode prog_12_method_8_code 29 = .ok (.getfield 18, 3) := by decide +kernel
theorem d_Mod_isAt_32 : decode prog_12_method_8_code 32 = .ok (.baload, 1) := by decide +kernel
theorem d_Mod_isAt_33 : decode prog_12_method_8_code 33 = .ok (.iload_n 2, 1) := by decide +kernel
theorem d_Mod_isAt_34 : decode prog_12_method_8_code 34 = .ok (.if_icmp .gt 7, 3) := by decide +kernel
theorem d_Mod_isAt_37 : decode prog_12_method_8_code 37 = .ok (.iconst 1, 1) := by decide +kernel
theorem d_Mod_isAt_38 : decode prog_12_method_8_code 38 = .ok (.goto 4, 3) := by decide +kernel
theorem d_Mod_isAt_41 : decode prog_12_method_8_code 41 = .ok (.iconst 0, 1) := by decide +kernel
theorem d_Mod_isAt_42 : decode prog_12_method_8_code 42 = .ok (.ireturn, 1) := by decide +kernel
def fm_Mod_isAt (a1 : Int) (a2 : Int) (w : fa_W) : Option Bool :=
  if fa_wr (w 181 25) ≤ fa_wr (w 181 26) then
  some false
  else
  ((fa_ix (w 181 26) 40000).bind fun j2 =>
  if fa_wr (w 196 j2) < fa_wr a1 then
  some false
  else
  ((fa_ix (w 181 26) 40000).bind fun j4 =>
  if fa_wr a2 < fa_wr (w 196 j4) then
  some false
  else
  some true))
set_option maxHeartbeats 4000000 in
set_option maxRecDepth 100000 in
theorem c_Mod_isAt {l : Launch} {D : va_G} {b : Nat} {aC : Nat → ClassId} {H0 : Heap} {N T : Nat} (hN : fa_NM ≤ N) (hT : fa_TM ≤ T) (a1 : Int) (a2 : Int)  (w : fa_W) (r : Bool) (hM : fm_Mod_isAt a1 a2 w = some r) : fa_MC l D b aC H0 N T y_Mod_isAt prog_12_method_8_code 3 ((Option.some Jvm.ClassFile.FieldType.boolean)) (0) [.ref (b + 181), .int (fa_I a1), .int (fa_I a2)] w (some (.int (fa_I (fa_bi r)))) w := by
  refine fa_enter (lv := [(0, .ref (b + 181)), (1, .int (fa_I a1)), (2, .int (fa_I a2))]) (by decide +kernel) (Nat.le_of_ble_eq_true rfl) rfl (fun hh hle hnm X => ?_)
  unfold fm_Mod_isAt at hM
  refine g_aload_n X 0 rfl d_Mod_isAt_0 ?_
  refine g_get X ck_10 fo_181 (fn_181 hN) 26 (by decide) wd_1767 rfl (fa_fvI rfl) d_Mod_isAt_1 ?_
  refine g_aload_n X 0 rfl d_Mod_isAt_4 ?_
  refine g_get X ck_10 fo_181 (fn_181 hN) 25 (by decide) wd_1766 rfl (fa_fvI rfl) d_Mod_isAt_5 ?_
  refine g_icmp_ge X 41 d_Mod_isAt_8 (by decide) (fun hc1 => ?_) (fun hc1 => ?_)
  · have hM := fa_if_t hM hc1
    refine g_iconst X d_Mod_isAt_41 ?_
    cases hM
    exact g_zret X rfl d_Mod_isAt_42
  · have hM := fa_if_f hM hc1
    refine g_aload_n X 0 rfl d_Mod_isAt_11 ?_
    refine g_get X ck_10 fo_181 (fn_181 hN) 22 (by decide) wd_1764 rfl (fr_181_22 rfl hT) d_Mod_isAt_12 ?_
    refine g_aload_n X 0 rfl d_Mod_isAt_15 ?_
    refine g_get X ck_10 fo_181 (fn_181 hN) 26 (by decide) wd_1767 rfl (fa_fvI rfl) d_Mod_isAt_16 ?_
    obtain ⟨j2, ej2, hM⟩ := fa_ob hM
    refine g_bald X fs_196 (fn_196 hN) ej2 d_Mod_isAt_19 ?_
    refine g_iload_n X 1 rfl d_Mod_isAt_20 ?_
    refine g_icmp_lt X 41 d_Mod_isAt_21 (by decide) (fun hc3 => ?_) (fun hc3 => ?_)
    · have hM := fa_if_t hM hc3
      refine g_iconst X d_Mod_isAt_41 ?_
      cases hM
      exact g_zret X rfl d_Mod_isAt_42
    · have hM := fa_if_f hM hc3
      refine g_aload_n X 0 rfl d_Mod_isAt_24 ?_
      refine g_get X ck_10 fo_181 (fn_181 hN) 22 (by decide) wd_1764 rfl (fr_181_22 rfl hT) d_Mod_isAt_25 ?_
      refine g_aload_n X 0 rfl d_Mod_isAt_28 ?_
      refine g_get X ck_10 fo_181 (fn_181 hN) 26 (by decide) wd_1767 rfl (fa_fvI rfl) d_Mod_isAt_29 ?_
      obtain ⟨j4, ej4, hM⟩ := fa_ob hM
      refine g_bald X fs_196 (fn_196 hN) ej4 d_Mod_isAt_32 ?_
      refine g_iload_n X 2 rfl d_Mod_isAt_33 ?_
      refine g_icmp_gt X 41 d_Mod_isAt_34 (by decide) (fun hc5 => ?_) (fun hc5 => ?_)
      · have hM := fa_if_t hM hc5
        refine g_iconst X d_Mod_isAt_41 ?_
        cases hM
        exact g_zret X rfl d_Mod_isAt_42
      · have hM := fa_if_f hM hc5
        refine g_iconst X d_Mod_isAt_37 ?_
        refine g_goto X 42 d_Mod_isAt_38 (by decide) ?_
        cases hM
        exact g_zret X rfl d_Mod_isAt_42
theorem d_Mod_blanks_0 : decode prog_12_method_9_code 0 = .ok (.aload_n 0, 1) := by decide +kernel
theorem d_Mod_blanks_1 : decode prog_12_method_9_code 1 = .ok (.bipush 9, 2) := by decide +kernel
theorem d_Mod_blanks_3 : decode prog_12_method_9_code 3 = .ok (.bipush 10, 2) := by decide +kernel
theorem d_Mod_blanks_5 : decode prog_12_method_9_code 5 = .ok (.invokevirtual 27, 3) := by decide +kernel
theorem d_Mod_blanks_8 : decode prog_12_method_9_code 8 = .ok (.ifCond .ne 14, 3) := by decide +kernel
theorem d_Mod_blanks_11 : decode prog_12_method_9_code 11 = .ok (.aload_n 0, 1) := by decide +kernel
theorem d_Mod_blanks_12 : decode prog_12_method_9_code 12 = .ok (.bipush 32, 2) := by decide +kernel
theorem d_Mod_blanks_14 : decode prog_12_method_9_code 14 = .ok (.bipush 32, 2) := by decide +kernel
theorem d_Mod_blanks_16 : decode prog_12_method_9_code 16 = .ok (.invokevirtual 27, 3) := by decide +kernel
theorem d_Mod_blanks_19 : decode prog_12_method_9_code 19 = .ok (.ifCond .eq 16, 3) := by decide +kernel
theorem d_Mod_blanks_22 : decode prog_12_method_9_code 22 = .ok (.aload_n 0, 1) := by decide +kernel
theorem d_Mod_blanks_23 : decode prog_12_method_9_code 23 = .ok (.dup, 1) := by decide +kernel
theorem d_Mod_blanks_24 : decode prog_12_method_9_code 24 = .ok (.getfield 18, 3) := by decide +kernel
theorem d_Mod_blanks_27 : decode prog_12_method_9_code 27 = .ok (.iconst 1, 1) := by decide +kernel
theorem d_Mod_blanks_28 : decode prog_12_method_9_code 28 = .ok (.iadd, 1) := by decide +kernel
theorem d_Mod_blanks_29 : decode prog_12_method_9_code 29 = .ok (.putfield 18, 3) := by decide +kernel
theorem d_Mod_blanks_32 : decode prog_12_method_9_code 32 = .ok (.goto (-32), 3) := by decide +kernel
theorem d_Mod_blanks_35 : decode prog_12_method_9_code 35 = .ok (.aload_n 0, 1) := by decide +kernel
theorem d_Mod_blanks_36 : decode prog_12_method_9_code 36 = .ok (.aload_n 0, 1) := by decide +kernel
theorem d_Mod_blanks_37 : decode prog_12_method_9_code 37 = .ok (.getfield 18, 3) := by decide +kernel
theorem d_Mod_blanks_40 : decode prog_12_method_9_code 40 = .ok (.putfield 31, 3) := by decide +kernel
theorem d_Mod_blanks_43 : decode prog_12_method_9_code 43 = .ok (.return_, 1) := by decide +kernel
def fm_Mod_blanks_j22 (k0 : fa_W → Option fa_W) (w : fa_W) : Option fa_W :=
  fa_let (fa_st w 181 26 ((w 181 26) + 1)) fun w4 =>
  k0 w4
set_option maxHeartbeats 4000000 in
set_option maxRecDepth 100000 in
theorem c_Mod_blanks_j22 {p : Program} {l : Launch} {e : Env} {s : State} {m : MethodId} {args : Array Value} {below : List Frame} {meth : Method} {c : Code} {hh : Nat} {D : va_G} {b : Nat} {aC : Nat → ClassId} {H0 : Heap} {N T : Nat} (X : fa_GX p s m args meth c prog_12_method_9_code 1 ((Option.none : Option Jvm.ClassFile.FieldType)) y_Mod_blanks.cls D b aC) (hle : 1 ≤ hh) (hN : fa_NM ≤ N) (hT : fa_TM ≤ T) {r : fa_W} (k0 : fa_W → Option fa_W) (K0 : ∀ (w : fa_W), k0 w = some r → fa_GJ p l e (fa_rm hh) s m args below meth c 0 0 (MQ below (fa_Qc D b aC H0 N T (none) r) args s 0 0 (fun q => b ≤ q)) D b aC H0 N T 1 w 0 [(0, .ref (b + 181))] []) : ∀ (w : fa_W) (_ : fm_Mod_blanks_j22 k0 w = some r), fa_GJ p l e (fa_rm hh) s m args below meth c 0 0 (MQ below (fa_Qc D b aC H0 N T (none) r) args s 0 0 (fun q => b ≤ q)) D b aC H0 N T 1 w 22 [(0, .ref (b + 181))] [] := by
  intro w hM
  unfold fm_Mod_blanks_j22 at hM
  refine g_aload_n X 0 rfl d_Mod_blanks_22 ?_
  refine g_dup X rfl d_Mod_blanks_23 ?_
  refine g_get X ck_10 fo_181 (fn_181 hN) 26 (by decide) wd_1767 rfl (fa_fvI rfl) d_Mod_blanks_24 ?_
  refine g_iconst X d_Mod_blanks_27 ?_
  refine g_iadd X d_Mod_blanks_28 ?_
  refine g_put X ck_10 fo_181 (fn_181 hN) 26 (z := ((w 181 26) + 1)) (by decide) wd_1767 rfl (fa_fvI' rfl) rfl rfl rfl d_Mod_blanks_29 (fun w4 ew4 => ?_)
  have hM := fa_let_to hM ew4
  refine g_goto X 0 d_Mod_blanks_32 (by decide) ?_
  exact g_lv [0] rfl (K0 _ hM)
def fm_Mod_blanks_l0  : Nat → fa_W → Option fa_W
  | 0, _ => none
  | n + 1, w => (fm_Mod_isAt 9 10 w).bind fun v2 =>
  if v2 = true then
  fm_Mod_blanks_j22 (fun w9 => fm_Mod_blanks_l0 n w9) w
  else
  ((fm_Mod_isAt 32 32 w).bind fun v6 =>
  if v6 = true then
  fm_Mod_blanks_j22 (fun w9 => fm_Mod_blanks_l0 n w9) w
  else
  (fa_let (fa_st w 181 27 (w 181 26)) fun w8 =>
  some w8))
set_option maxHeartbeats 4000000 in
set_option maxRecDepth 100000 in
theorem c_Mod_blanks_l0 {p : Program} {l : Launch} {e : Env} {s : State} {m : MethodId} {args : Array Value} {below : List Frame} {meth : Method} {c : Code} {hh : Nat} {D : va_G} {b : Nat} {aC : Nat → ClassId} {H0 : Heap} {N T : Nat} (X : fa_GX p s m args meth c prog_12_method_9_code 1 ((Option.none : Option Jvm.ClassFile.FieldType)) y_Mod_blanks.cls D b aC) (hle : 1 ≤ hh) (hN : fa_NM ≤ N) (hT : fa_TM ≤ T) {r : fa_W}  : ∀ (n : Nat) (w : fa_W), fm_Mod_blanks_l0 n w = some r → fa_GJ p l e (fa_rm hh) s m args below meth c 0 0 (MQ below (fa_Qc D b aC H0 N T (none) r) args s 0 0 (fun q => b ≤ q)) D b aC H0 N T 1 w 0 [(0, .ref (b + 181))] [] := by
  intro n
  induction n with
  | zero => intro w hM; exact fa_no hM
  | succ n ih =>
    intro w hM
    rw [fm_Mod_blanks_l0] at hM
    refine g_aload_n X 0 rfl d_Mod_blanks_0 ?_
    refine g_bipush X (by decide) d_Mod_blanks_1 ?_
    refine g_bipush X (by decide) d_Mod_blanks_3 ?_
    obtain ⟨v2, e1, hM⟩ := fa_ob hM
    refine g_callV_i X ck_10 fo_181 (fn_181 hN) rfl mi_Mod_isAt (c_Mod_isAt hN hT 9 10 w _ e1) wd_1506 rfl (Nat.le_trans (Nat.le_of_ble_eq_true rfl) hle) (st := []) (Nat.le_of_ble_eq_true rfl) rfl d_Mod_blanks_5 ?_
    refine g_ifb_ne X 22 d_Mod_blanks_8 (by decide) (fun hc3 => ?_) (fun hc3 => ?_)
    · have hM := fa_ifb_t hM hc3
      exact g_lv [0] rfl (c_Mod_blanks_j22 X hle hN hT  (fun w9 => fm_Mod_blanks_l0 n w9) (fun _ h => ih _ h)  _ hM)
    · have hM := fa_ifb_f hM hc3
      refine g_aload_n X 0 rfl d_Mod_blanks_11 ?_
      refine g_bipush X (by decide) d_Mod_blanks_12 ?_
      refine g_bipush X (by decide) d_Mod_blanks_14 ?_
      obtain ⟨v6, e5, hM⟩ := fa_ob hM
      refine g_callV_i X ck_10 fo_181 (fn_181 hN) rfl mi_Mod_isAt (c_Mod_isAt hN hT 32 32 w _ e5) wd_1506 rfl (Nat.le_trans (Nat.le_of_ble_eq_true rfl) hle) (st := []) (Nat.le_of_ble_eq_true rfl) rfl d_Mod_blanks_16 ?_
      refine g_ifb_eq X 35 d_Mod_blanks_19 (by decide) (fun hc7 => ?_) (fun hc7 => ?_)
      · have hM := fa_ifb_f hM hc7
        refine g_aload_n X 0 rfl d_Mod_blanks_35 ?_
        refine g_aload_n X 0 rfl d_Mod_blanks_36 ?_
        refine g_get X ck_10 fo_181 (fn_181 hN) 26 (by decide) wd_1767 rfl (fa_fvI rfl) d_Mod_blanks_37 ?_
        refine g_put X ck_10 fo_181 (fn_181 hN) 27 (z := (w 181 26)) (by decide) wd_1768 rfl (fa_fvI' rfl) rfl rfl rfl d_Mod_blanks_40 (fun w8 ew8 => ?_)
        have hM := fa_let_to hM ew8
        cases hM
        exact g_vret X d_Mod_blanks_43
      · have hM := fa_ifb_t hM hc7
        exact g_lv [0] rfl (c_Mod_blanks_j22 X hle hN hT  (fun w9 => fm_Mod_blanks_l0 n w9) (fun _ h => ih _ h)  _ hM)
def fm_Mod_blanks (w : fa_W) : Option fa_W :=
  fm_Mod_blanks_l0 fa_FU w
set_option maxHeartbeats 4000000 in
set_option maxRecDepth 100000 in
theorem c_Mod_blanks {l : Launch} {D : va_G} {b : Nat} {aC : Nat → ClassId} {H0 : Heap} {N T : Nat} (hN : fa_NM ≤ N) (hT : fa_TM ≤ T)   (w : fa_W) (r : fa_W) (hM : fm_Mod_blanks w = some r) : fa_MC l D b aC H0 N T y_Mod_blanks prog_12_method_9_code 1 ((Option.none : Option Jvm.ClassFile.FieldType)) (1) [.ref (b + 181)] w (none) r := by
  refine fa_enter (lv := [(0, .ref (b + 181))]) (by decide +kernel) (Nat.le_of_ble_eq_true rfl) rfl (fun hh hle hnm X => ?_)
  unfold fm_Mod_blanks at hM
  exact g_lv [0] rfl (c_Mod_blanks_l0 X hle hN hT   fa_FU _ hM)
theorem d_Mod_fails_0 : decode prog_12_method_10_code 0 = .ok (.aload_n 0, 1) := by decide +kernel
theorem d_Mod_fails_1 : decode prog_12_method_10_code 1 = .ok (.getfield 34, 3) := by decide +kernel
theorem d_Mod_fails_4 : decode prog_12_method_10_code 4 = .ok (.iconst (-1), 1) := by decide +kernel
theorem d_Mod_fails_5 : decode prog_12_method_10_code 5 = .ok (.if_icmp .ne 8, 3) := by decide +kernel
theorem d_Mod_fails_8 : decode prog_12_method_10_code 8 = .ok (.aload_n 0, 1) := by decide +kernel
theorem d_Mod_fails_9 : decode prog_12_method_10_code 9 = .ok (.iload_n 1, 1) := by decide +kernel
theorem d_Mod_fails_10 : decode prog_12_method_10_code 10 = .ok (.putfield 34, 3) := by decide +kernel
theorem d_Mod_fails_13 : decode prog_12_method_10_code 13 = .ok (.iconst (-1), 1) := by decide +kernel
theorem d_Mod_fails_14 : decode prog_12_method_10_code 14 = .ok (.ireturn, 1) := by decide +kernel
def fm_Mod_fails (a1 : Int) (w : fa_W) : Int × fa_W :=
  if fa_wr (w 181 28) = (-1) then
  (fa_let (fa_st w 181 28 a1) fun w2 =>
  ((-1), w2))
  else
  ((-1), w)
set_option maxHeartbeats 4000000 in
set_option maxRecDepth 100000 in
theorem c_Mod_fails {l : Launch} {D : va_G} {b : Nat} {aC : Nat → ClassId} {H0 : Heap} {N T : Nat} (hN : fa_NM ≤ N) (hT : fa_TM ≤ T) (a1 : Int)  (w : fa_W) (r : Int × fa_W) (hM : fm_Mod_fails a1 w = r) : fa_MC l D b aC H0 N T y_Mod_fails prog_12_method_10_code 2 ((Option.some Jvm.ClassFile.FieldType.int)) (0) [.ref (b + 181), .int (fa_I a1)] w (some (.int (fa_I r.1))) r.2 := by
  refine fa_enter (lv := [(0, .ref (b + 181)), (1, .int (fa_I a1))]) (by decide +kernel) (Nat.le_of_ble_eq_true rfl) rfl (fun hh hle hnm X => ?_)
  unfold fm_Mod_fails at hM
  refine g_aload_n X 0 rfl d_Mod_fails_0 ?_
  refine g_get X ck_10 fo_181 (fn_181 hN) 28 (by decide) wd_1769 rfl (fa_fvI rfl) d_Mod_fails_1 ?_
  refine g_iconst X d_Mod_fails_4 ?_
  refine g_icmp_ne X 13 d_Mod_fails_5 (by decide) (fun hc1 => ?_) (fun hc1 => ?_)
  · have hM := fa_if_f hM hc1
    refine g_iconst X d_Mod_fails_13 ?_
    subst hM
    exact g_iret X d_Mod_fails_14
  · have hM := fa_if_t hM hc1
    refine g_aload_n X 0 rfl d_Mod_fails_8 ?_
    refine g_iload_n X 1 rfl d_Mod_fails_9 ?_
    refine g_put X ck_10 fo_181 (fn_181 hN) 28 (z := a1) (by decide) wd_1769 rfl (fa_fvI' rfl) rfl rfl rfl d_Mod_fails_10 (fun w2 ew2 => ?_)
    have hM := fa_let_to hM ew2
    refine g_iconst X d_Mod_fails_13 ?_
    subst hM
    exact g_iret X d_Mod_fails_14
theorem d_Mod_hasFailed_0 : decode prog_12_method_11_code 0 = .ok (.aload_n 0, 1) := by decide +kernel
theorem d_Mod_hasFailed_1 : decode prog_12_method_11_code 1 = .ok (.getfield 34, 3) := by decide +kernel
theorem d_Mod_hasFailed_4 : decode prog_12_method_11_code 4 = .ok (.iconst (-1), 1) := by decide +kernel
theorem d_Mod_hasFailed_5 : decode prog_12_method_11_code 5 = .ok (.if_icmp .eq 7, 3) := by decide +kernel
theorem d_Mod_hasFailed_8 : decode prog_12_method_11_code 8 = .ok (.iconst 1, 1) := by decide +kernel
theorem d_Mod_hasFailed_9 : decode prog_12_method_11_code 9 = .ok (.goto 4, 3) := by decide +kernel
theorem d_Mod_hasFailed_12 : decode prog_12_method_11_code 12 = .ok (.iconst 0, 1) := by decide +kernel
theorem d_Mod_hasFailed_13 : decode prog_12_method_11_code 13 = .ok (.ireturn, 1) := by decide +kernel
def fm_Mod_hasFailed (w : fa_W) : Bool :=
  if fa_wr (w 181 28) = (-1) then
  false
  else
  true
set_option maxHeartbeats 4000000 in
set_option maxRecDepth 100000 in
theorem c_Mod_hasFailed {l : Launch} {D : va_G} {b : Nat} {aC : Nat → ClassId} {H0 : Heap} {N T : Nat} (hN : fa_NM ≤ N) (hT : fa_TM ≤ T)   (w : fa_W) (r : Bool) (hM : fm_Mod_hasFailed w = r) : fa_MC l D b aC H0 N T y_Mod_hasFailed prog_12_method_11_code 1 ((Option.some Jvm.ClassFile.FieldType.boolean)) (0) [.ref (b + 181)] w (some (.int (fa_I (fa_bi r)))) w := by
  refine fa_enter (lv := [(0, .ref (b + 181))]) (by decide +kernel) (Nat.le_of_ble_eq_true rfl) rfl (fun hh hle hnm X => ?_)
  unfold fm_Mod_hasFailed at hM
  refine g_aload_n X 0 rfl d_Mod_hasFailed_0 ?_
  refine g_get X ck_10 fo_181 (fn_181 hN) 28 (by decide) wd_1769 rfl (fa_fvI rfl) d_Mod_hasFailed_1 ?_
  refine g_iconst X d_Mod_hasFailed_4 ?_
  refine g_icmp_eq X 12 d_Mod_hasFailed_5 (by decide) (fun hc1 => ?_) (fun hc1 => ?_)
  · have hM := fa_if_t hM hc1
    refine g_iconst X d_Mod_hasFailed_12 ?_
    subst hM
    exact g_zret X rfl d_Mod_hasFailed_13
  · have hM := fa_if_f hM hc1
    refine g_iconst X d_Mod_hasFailed_8 ?_
    refine g_goto X 13 d_Mod_hasFailed_9 (by decide) ?_
    subst hM
    exact g_zret X rfl d_Mod_hasFailed_13
theorem d_Mod_takes_0 : decode prog_12_method_12_code 0 = .ok (.aload_n 0, 1) := by decide +kernel
theorem d_Mod_takes_1 : decode prog_12_method_12_code 1 = .ok (.invokevirtual 37, 3) := by decide +kernel
theorem d_Mod_takes_4 : decode prog_12_method_12_code 4 = .ok (.aload_n 0, 1) := by decide +kernel
theorem d_Mod_takes_5 : decode prog_12_method_12_code 5 = .ok (.iload_n 1, 1) := by decide +kernel
theorem d_Mod_takes_6 : decode prog_12_method_12_code 6 = .ok (.iload_n 1, 1) := by decide +kernel
theorem d_Mod_takes_7 : decode prog_12_method_12_code 7 = .ok (.invokevirtual 27, 3) := by decide +kernel
theorem d_Mod_takes_10 : decode prog_12_method_12_code 10 = .ok (.ifCond .ne 5, 3) := by decide +kernel
theorem d_Mod_takes_13 : decode prog_12_method_12_code 13 = .ok (.iconst 0, 1) := by decide +kernel
theorem d_Mod_takes_14 : decode prog_12_method_12_code 14 = .ok (.ireturn, 1) := by decide +kernel
theorem d_Mod_takes_15 : decode prog_12_method_12_code 15 = .ok (.aload_n 0, 1) := by decide +kernel
theorem d_Mod_takes_16 : decode prog_12_method_12_code 16 = .ok (.dup, 1) := by decide +kernel
theorem d_Mod_takes_17 : decode prog_12_method_12_code 17 = .ok (.getfield 18, 3) := by decide +kernel
theorem d_Mod_takes_20 : decode prog_12_method_12_code 20 = .ok (.iconst 1, 1) := by decide +kernel
theorem d_Mod_takes_21 : decode prog_12_method_12_code 21 = .ok (.iadd, 1) := by decide +kernel
theorem d_Mod_takes_22 : decode prog_12_method_12_code 22 = .ok (.putfield 18, 3) := by decide +kernel
theorem d_Mod_takes_25 : decode prog_12_method_12_code 25 = .ok (.iconst 1, 1) := by decide +kernel
theorem d_Mod_takes_26 : decode prog_12_method_12_code 26 = .ok (.ireturn, 1) := by decide +kernel
def fm_Mod_takes (a1 : Int) (w : fa_W) : Option (Bool × fa_W) :=
  (fm_Mod_blanks w).bind fun w2 =>
  (fm_Mod_isAt a1 a1 w2).bind fun v4 =>
  if v4 = true then
  (fa_let (fa_st w2 181 26 ((w2 181 26) + 1)) fun w6 =>
  some (true, w6))
  else
  some (false, w2)
set_option maxHeartbeats 4000000 in
set_option maxRecDepth 100000 in
theorem c_Mod_takes {l : Launch} {D : va_G} {b : Nat} {aC : Nat → ClassId} {H0 : Heap} {N T : Nat} (hN : fa_NM ≤ N) (hT : fa_TM ≤ T) (a1 : Int)  (w : fa_W) (r : Bool × fa_W) (hM : fm_Mod_takes a1 w = some r) : fa_MC l D b aC H0 N T y_Mod_takes prog_12_method_12_code 2 ((Option.some Jvm.ClassFile.FieldType.boolean)) (2) [.ref (b + 181), .int (fa_I a1)] w (some (.int (fa_I (fa_bi r.1)))) r.2 := by
  refine fa_enter (lv := [(0, .ref (b + 181)), (1, .int (fa_I a1))]) (by decide +kernel) (Nat.le_of_ble_eq_true rfl) rfl (fun hh hle hnm X => ?_)
  unfold fm_Mod_takes at hM
  refine g_aload_n X 0 rfl d_Mod_takes_0 ?_
  obtain ⟨w2, e1, hM⟩ := fa_ob hM
  refine g_callV_v X ck_10 fo_181 (fn_181 hN) rfl mi_Mod_blanks (c_Mod_blanks hN hT w _ e1) wd_1502 rfl (Nat.le_trans (Nat.le_of_ble_eq_true rfl) hle) (st := []) (Nat.le_of_ble_eq_true rfl) rfl d_Mod_takes_1 ?_
  refine g_aload_n X 0 rfl d_Mod_takes_4 ?_
  refine g_iload_n X 1 rfl d_Mod_takes_5 ?_
  refine g_iload_n X 1 rfl d_Mod_takes_6 ?_
  obtain ⟨v4, e3, hM⟩ := fa_ob hM
  refine g_callV_i X ck_10 fo_181 (fn_181 hN) rfl mi_Mod_isAt (c_Mod_isAt hN hT a1 a1 w2 _ e3) wd_1506 rfl (Nat.le_trans (Nat.le_of_ble_eq_true rfl) hle) (st := []) (Nat.le_of_ble_eq_true rfl) rfl d_Mod_takes_7 ?_
  refine g_ifb_ne X 15 d_Mod_takes_10 (by decide) (fun hc5 => ?_) (fun hc5 => ?_)
  · have hM := fa_ifb_t hM hc5
    refine g_aload_n X 0 rfl d_Mod_takes_15 ?_
    refine g_dup X rfl d_Mod_takes_16 ?_
    refine g_get X ck_10 fo_181 (fn_181 hN) 26 (by decide) wd_1767 rfl (fa_fvI rfl) d_Mod_takes_17 ?_
    refine g_iconst X d_Mod_takes_20 ?_
    refine g_iadd X d_Mod_takes_21 ?_
    refine g_put X ck_10 fo_181 (fn_181 hN) 26 (z := ((w2 181 26) + 1)) (by decide) wd_1767 rfl (fa_fvI' rfl) rfl rfl rfl d_Mod_takes_22 (fun w6 ew6 => ?_)
    have hM := fa_let_to hM ew6
    refine g_iconst X d_Mod_takes_25 ?_
    cases hM
    exact g_zret X rfl d_Mod_takes_26
  · have hM := fa_ifb_f hM hc5
    refine g_iconst X d_Mod_takes_13 ?_
    cases hM
    exact g_zret X rfl d_Mod_takes_14
theorem d_Mod_asks_0 : decode prog_12_method_13_code 0 = .ok (.aload_n 0, 1) := by decide +kernel
theorem d_Mod_asks_1 : decode prog_12_method_13_code 1 = .ok (.invokevirtual 41, 3) := by decide +kernel
theorem d_Mod_asks_4 : decode prog_12_method_13_code 4 = .ok (.ifCond .ne 11, 3) := by decide +kernel
theorem d_Mod_asks_7 : decode prog_12_method_13_code 7 = .ok (.aload_n 0, 1) := by decide +kernel
theorem d_Mod_asks_8 : decode prog_12_method_13_code 8 = .ok (.iload_n 1, 1) := by decide +kernel
theorem d_Mod_asks_9 : decode prog_12_method_13_code 9 = .ok (.invokevirtual 45, 3) := by decide +kernel
theorem d_Mod_asks_12 : decode prog_12_method_13_code 12 = .ok (.ifCond .eq 4, 3) := by decide +kernel
theorem d_Mod_asks_15 : decode prog_12_method_13_code 15 = .ok (.return_, 1) := by decide +kernel
theorem d_Mod_asks_16 : decode prog_12_method_13_code 16 = .ok (.aload_n 0, 1) := by decide +kernel
theorem d_Mod_asks_17 : decode prog_12_method_13_code 17 = .ok (.aload_n 0, 1) := by decide +kernel
theorem d_Mod_asks_18 : decode prog_12_method_13_code 18 = .ok (.getfield 31, 3) := by decide +kernel
theorem d_Mod_asks_21 : decode prog_12_method_13_code 21 = .ok (.invokevirtual 49, 3) := by decide +kernel
theorem d_Mod_asks_24 : decode prog_12_method_13_code 24 = .ok (.istore_n 2, 1) := by decide +kernel
theorem d_Mod_asks_25 : decode prog_12_method_13_code 25 = .ok (.return_, 1) := by decide +kernel
def fm_Mod_asks (a1 : Int) (w : fa_W) : Option fa_W :=
  if fm_Mod_hasFailed w = true then
  some w
  else
  (fa_bd (fm_Mod_takes a1 w) fun v4 w5 =>
  if v4 = true then
  some w5
  else
  (fa_l2 (fm_Mod_fails (w5 181 27) w5) fun v8 w9 =>
  some w9))
set_option maxHeartbeats 4000000 in
set_option maxRecDepth 100000 in
theorem c_Mod_asks {l : Launch} {D : va_G} {b : Nat} {aC : Nat → ClassId} {H0 : Heap} {N T : Nat} (hN : fa_NM ≤ N) (hT : fa_TM ≤ T) (a1 : Int)  (w : fa_W) (r : fa_W) (hM : fm_Mod_asks a1 w = some r) : fa_MC l D b aC H0 N T y_Mod_asks prog_12_method_13_code 3 ((Option.none : Option Jvm.ClassFile.FieldType)) (3) [.ref (b + 181), .int (fa_I a1)] w (none) r := by
  refine fa_enter (lv := [(0, .ref (b + 181)), (1, .int (fa_I a1))]) (by decide +kernel) (Nat.le_of_ble_eq_true rfl) rfl (fun hh hle hnm X => ?_)
  unfold fm_Mod_asks at hM
  refine g_aload_n X 0 rfl d_Mod_asks_0 ?_
  refine g_callV_i X ck_10 fo_181 (fn_181 hN) rfl mi_Mod_hasFailed (c_Mod_hasFailed hN hT w _ rfl) wd_1494 rfl (Nat.le_trans (Nat.le_of_ble_eq_true rfl) hle) (st := []) (Nat.le_of_ble_eq_true rfl) rfl d_Mod_asks_1 ?_
  refine g_ifb_ne X 15 d_Mod_asks_4 (by decide) (fun hc2 => ?_) (fun hc2 => ?_)
  · have hM := fa_ifb_t hM hc2
    cases hM
    exact g_vret X d_Mod_asks_15
  · have hM := fa_ifb_f hM hc2
    refine g_aload_n X 0 rfl d_Mod_asks_7 ?_
    refine g_iload_n X 1 rfl d_Mod_asks_8 ?_
    obtain ⟨v4, w5, e3, hM⟩ := fa_obd hM
    refine g_callV_i X ck_10 fo_181 (fn_181 hN) rfl mi_Mod_takes (c_Mod_takes hN hT a1 w _ e3) wd_1552 rfl (Nat.le_trans (Nat.le_of_ble_eq_true rfl) hle) (st := []) (Nat.le_of_ble_eq_true rfl) rfl d_Mod_asks_9 ?_
    refine g_ifb_eq X 16 d_Mod_asks_12 (by decide) (fun hc6 => ?_) (fun hc6 => ?_)
    · have hM := fa_ifb_f hM hc6
      refine g_aload_n X 0 rfl d_Mod_asks_16 ?_
      refine g_aload_n X 0 rfl d_Mod_asks_17 ?_
      refine g_get X ck_10 fo_181 (fn_181 hN) 27 (by decide) wd_1768 rfl (fa_fvI rfl) d_Mod_asks_18 ?_
      obtain ⟨⟨v8, w9⟩, e7⟩ : ∃ q, fm_Mod_fails (w5 181 27) w5 = q := ⟨_, rfl⟩
      have hM := fa_l2_e hM e7
      refine g_callV_i X ck_10 fo_181 (fn_181 hN) rfl mi_Mod_fails (c_Mod_fails hN hT (w5 181 27) w5 _ e7) wd_1517 rfl (Nat.le_trans (Nat.le_of_ble_eq_true rfl) hle) (st := []) (Nat.le_of_ble_eq_true rfl) rfl d_Mod_asks_21 ?_
      refine g_istorec_n X [(2, .int (fa_I v8)), (0, .ref (b + 181)), (1, .int (fa_I a1))] d_Mod_asks_24 (by decide) rfl ?_
      cases hM
      exact g_vret X d_Mod_asks_25
    · have hM := fa_ifb_t hM hc6
      cases hM
      exact g_vret X d_Mod_asks_15
theorem d_Mod_wordAhead_0 : decode prog_12_method_14_code 0 = .ok (.aload_n 0, 1) := by decide +kernel
theorem d_Mod_wordAhead_1 : decode prog_12_method_14_code 1 = .ok (.invokevirtual 37, 3) := by decide +kernel
theorem d_Mod_wordAhead_4 : decode prog_12_method_14_code 4 = .ok (.aload_n 0, 1) := by decide +kernel
theorem d_Mod_wordAhead_5 : decode prog_12_method_14_code 5 = .ok (.getfield 18, 3) := by decide +kernel
theorem d_Mod_wordAhead_8 : decode prog_12_method_14_code 8 = .ok (.istore_n 1, 1) := by decide +kernel
theorem d_Mod_wordAhead_9 : decode prog_12_method_14_code 9 = .ok (.iconst 0, 1) := by decide +kernel
theorem d_Mod_wordAhead_10 : decode prog_12_method_14_code 10 = .ok (.istore_n 2, 1) := by decide +kernel
theorem d_Mod_wordAhead_11 : decode prog_12_method_14_code 11 = .ok (.iload_n 1, 1) := by decide +kernel
theorem d_Mod_wordAhead_12 : decode prog_12_method_14_code 12 = .ok (.aload_n 0, 1) := by decide +kernel
theorem d_Mod_wordAhead_13 : decode prog_12_method_14_code 13 = .ok (.getfield 21, 3) := by decide +kernel
theorem d_Mod_wordAhead_16 : decode prog_12_method_14_code 16 = .ok (.if_icmp .ge 58, 3) := by decide +kernel
theorem d_Mod_wordAhead_19 : decode prog_12_method_14_code 19 = .ok (.aload_n 0, 1) := by decide +kernel
theorem d_Mod_wordAhead_20 : decode prog_12_method_14_code 20 = .ok (.getfield 24, 3) := by decide +kernel
theorem d_Mod_wordAhead_23 : decode prog_12_method_14_code 23 = .ok (.iload_n 1, 1) := by decide +kernel
theorem d_Mod_wordAhead_24 : decode prog_12_method_14_code 24 = .ok (.baload, 1) := by decide +kernel
theorem d_Mod_wordAhead_25 : decode prog_12_method_14_code 25 = .ok (.bipush 97, 2) := by decide +kernel
theorem d_Mod_wordAhead_27 : decode prog_12_method_14_code 27 = .ok (.if_icmp .lt 47, 3) := by decide +kernel
theorem d_Mod_wordAhead_30 : decode prog_12_method_14_code 30 = .ok (.aload_n 0, 1) := by decide +kernel
theorem d_Mod_wordAhead_31 : decode prog_12_method_14_code 31 = .ok (.getfield 24, 3) := by decide +kernel
theorem d_Mod_wordAhead_34 : decode prog_12_method_14_code 34 = .ok (.iload_n 1, 1) := by decide +kernel
theorem d_Mod_wordAhead_35 : decode prog_12_method_14_code 35 = .ok (.baload, 1) := by decide +kernel
theorem d_Mod_wordAhead_36 : decode prog_12_method_14_code 36 = .ok (.bipush 122, 2) := by decide +kernel
theorem d_Mod_wordAhead_38 : decode prog_12_method_14_code 38 = .ok (.if_icmp .gt 36, 3) := by decide +kernel
theorem d_Mod_wordAhead_41 : decode prog_12_method_14_code 41 = .ok (.iload_n 1, 1) := by decide +kernel
theorem d_Mod_wordAhead_42 : decode prog_12_method_14_code 42 = .ok (.aload_n 0, 1) := by decide +kernel
theorem d_Mod_wordAhead_43 : decode prog_12_method_14_code 43 = .ok (.getfield 18, 3) := by decide +kernel
theorem d_Mod_wordAhead_46 : decode prog_12_method_14_code 46 = .ok (.isub, 1) := by decide +kernel
theorem d_Mod_wordAhead_47 : decode prog_12_method_14_code 47 = .ok (.iconst 4, 1) := by decide +kernel
theorem d_Mod_wordAhead_48 : decode prog_12_method_14_code 48 = .ok (.if_icmp .ge 20, 3) := by decide +kernel
theorem d_Mod_wordAhead_51 : decode prog_12_method_14_code 51 = .ok (.bipush 27, 2) := by decide +kernel
theorem d_Mod_wordAhead_53 : decode prog_12_method_14_code 53 = .ok (.iload_n 2, 1) := by decide +kernel
theorem d_Mod_wordAhead_54 : decode prog_12_method_14_code 54 = .ok (.imul, 1) := by decide +kernel
theorem d_Mod_wordAhead_55 : decode prog_12_method_14_code 55 = .ok (.aload_n 0, 1) := by decide +kernel
theorem d_Mod_wordAhead_56 : decode prog_12_method_14_code 56 = .ok (.getfield 24, 3) := by decide +kernel
theorem d_Mod_wordAhead_59 : decode prog_12_method_14_code 59 = .ok (.iload_n 1, 1) := by decide +kernel
theorem d_Mod_wordAhead_60 : decode prog_12_method_14_code 60 = .ok (.baload, 1) := by decide +kernel
theorem d_Mod_wordAhead_61 : decode prog_12_method_14_code 61 = .ok (.iadd, 1) := by decide +kernel
theorem d_Mod_wordAhead_62 : decode prog_12_method_14_code 62 = .ok (.bipush 97, 2) := by decide +kernel
theorem d_Mod_wordAhead_64 : decode prog_12_method_14_code 64 = .ok (.isub, 1) := by decide +kernel
theorem d_Mod_wordAhead_65 : decode prog_12_method_14_code 65 = .ok (.iconst 1, 1) := by decide +kernel
theorem d_Mod_wordAhead_66 : decode prog_12_method_14_code 66 = .ok (.iadd, 1) := by decide +kernel
theorem d_Mod_wordAhead_67 : decode prog_12_method_14_code 67 = .ok (.istore_n 2, 1) := by decide +kernel
theorem d_Mod_wordAhead_68 : decode prog_12_method_14_code 68 = .ok (.iinc 1 1, 3) := by decide +kernel
theorem d_Mod_wordAhead_71 : decode prog_12_method_14_code 71 = .ok (.goto (-60), 3) := by decide +kernel
theorem d_Mod_wordAhead_74 : decode prog_12_method_14_code 74 = .ok (.aload_n 0, 1) := by decide +kernel
theorem d_Mod_wordAhead_75 : decode prog_12_method_14_code 75 = .ok (.iload_n 1, 1) := by decide +kernel
theorem d_Mod_wordAhead_76 : decode prog_12_method_14_code 76 = .ok (.aload_n 0, 1) := by decide +kernel
theorem d_Mod_wordAhead_77 : decode prog_12_method_14_code 77 = .ok (.getfield 18, 3) := by decide +kernel
theorem d_Mod_wordAhead_80 : decode prog_12_method_14_code 80 = .ok (.isub, 1) := by decide +kernel
theorem d_Mod_wordAhead_81 : decode prog_12_method_14_code 81 = .ok (.putfield 53, 3) := by decide +kernel
theorem d_Mod_wordAhead_84 : decode prog_12_method_14_code 84 = .ok (.aload_n 0, 1) := by decide +kernel
theorem d_Mod_wordAhead_85 : decode prog_12_method_14_code 85 = .ok (.getfield 53, 3) := by decide +kernel
theorem d_Mod_wordAhead_88 : decode prog_12_method_14_code 88 = .ok (.iconst 4, 1) := by decide +kernel
theorem d_Mod_wordAhead_89 : decode prog_12_method_14_code 89 = .ok (.if_icmp .le 13, 3) := by decide +kernel
theorem d_Mod_wordAhead_92 : decode prog_12_method_14_code 92 = .ok (.ldc 56, 2) := by decide +kernel
theorem d_Mod_wordAhead_94 : decode prog_12_method_14_code 94 = .ok (.aload_n 0, 1) := by decide +kernel
theorem d_Mod_wordAhead_95 : decode prog_12_method_14_code 95 = .ok (.getfield 53, 3) := by decide +kernel
theorem d_Mod_wordAhead_98 : decode prog_12_method_14_code 98 = .ok (.iadd, 1) := by decide +kernel
theorem d_Mod_wordAhead_99 : decode prog_12_method_14_code 99 = .ok (.goto 4, 3) := by decide +kernel
theorem d_Mod_wordAhead_102 : decode prog_12_method_14_code 102 = .ok (.iload_n 2, 1) := by decide +kernel
theorem d_Mod_wordAhead_103 : decode prog_12_method_14_code 103 = .ok (.ireturn, 1) := by decide +kernel
def fm_Mod_wordAhead_j74 (x1 : Int) (x2 : Int) (w : fa_W) : Option (Int × fa_W) :=
  fa_let (fa_st w 181 34 (x1 - (w 181 26))) fun w5 =>
  if fa_wr (w5 181 34) ≤ 4 then
  some (x2, w5)
  else
  some (1048576 + (w5 181 34), w5)
set_option maxHeartbeats 4000000 in
set_option maxRecDepth 100000 in
theorem c_Mod_wordAhead_j74 {p : Program} {l : Launch} {e : Env} {s : State} {m : MethodId} {args : Array Value} {below : List Frame} {meth : Method} {c : Code} {hh : Nat} {D : va_G} {b : Nat} {aC : Nat → ClassId} {H0 : Heap} {N T : Nat} (X : fa_GX p s m args meth c prog_12_method_14_code 3 ((Option.some Jvm.ClassFile.FieldType.int)) y_Mod_wordAhead.cls D b aC) (hle : 2 ≤ hh) (hN : fa_NM ≤ N) (hT : fa_TM ≤ T) {r : Int × fa_W}  : ∀ (x1 : Int) (x2 : Int) (w : fa_W) (_ : fm_Mod_wordAhead_j74 x1 x2 w = some r), fa_GJ p l e (fa_rm hh) s m args below meth c 0 0 (MQ below (fa_Qc D b aC H0 N T (some (.int (fa_I r.1))) r.2) args s 0 0 (fun q => b ≤ q)) D b aC H0 N T 3 w 74 [(0, .ref (b + 181)), (1, .int (fa_I x1)), (2, .int (fa_I x2))] [] := by
  intro x1 x2 w hM
  unfold fm_Mod_wordAhead_j74 at hM
  refine g_aload_n X 0 rfl d_Mod_wordAhead_74 ?_
  refine g_iload_n X 1 rfl d_Mod_wordAhead_75 ?_
  refine g_aload_n X 0 rfl d_Mod_wordAhead_76 ?_
  refine g_get X ck_10 fo_181 (fn_181 hN) 26 (by decide) wd_1767 rfl (fa_fvI rfl) d_Mod_wordAhead_77 ?_
  refine g_isub X d_Mod_wordAhead_80 ?_
  refine g_put X ck_10 fo_181 (fn_181 hN) 34 (z := (x1 - (w 181 26))) (by decide) wd_1775 rfl (fa_fvI' rfl) rfl rfl rfl d_Mod_wordAhead_81 (fun w5 ew5 => ?_)
  have hM := fa_let_to hM ew5
  refine g_aload_n X 0 rfl d_Mod_wordAhead_84 ?_
  refine g_get X ck_10 fo_181 (fn_181 hN) 34 (by decide) wd_1775 rfl (fa_fvI rfl) d_Mod_wordAhead_85 ?_
  refine g_iconst X d_Mod_wordAhead_88 ?_
  refine g_icmp_le X 102 d_Mod_wordAhead_89 (by decide) (fun hc6 => ?_) (fun hc6 => ?_)
  · have hM := fa_if_t hM hc6
    refine g_iload_n X 2 rfl d_Mod_wordAhead_102 ?_
    cases hM
    exact g_iret X d_Mod_wordAhead_103
  · have hM := fa_if_f hM hc6
    refine g_ldc X (n := 1048576) wd_1510 (by decide) d_Mod_wordAhead_92 ?_
    refine g_aload_n X 0 rfl d_Mod_wordAhead_94 ?_
    refine g_get X ck_10 fo_181 (fn_181 hN) 34 (by decide) wd_1775 rfl (fa_fvI rfl) d_Mod_wordAhead_95 ?_
    refine g_iadd X d_Mod_wordAhead_98 ?_
    refine g_goto X 103 d_Mod_wordAhead_99 (by decide) ?_
    cases hM
    exact g_iret X d_Mod_wordAhead_103
def fm_Mod_wordAhead_l11  : Nat → Int → Int → fa_W → Option (Int × fa_W)
  | 0, _, _, _ => none
  | n + 1, x1, x2, w => if fa_wr (w 181 25) ≤ fa_wr x1 then
  fm_Mod_wordAhead_j74 x1 x2 w
  else
  ((fa_ix x1 40000).bind fun j7 =>
  if fa_wr (w 196 j7) < 97 then
  fm_Mod_wordAhead_j74 x1 x2 w
  else
  ((fa_ix x1 40000).bind fun j9 =>
  if 122 < fa_wr (w 196 j9) then
  fm_Mod_wordAhead_j74 x1 x2 w
  else
  (if 4 ≤ fa_wr (x1 - (w 181 26)) then
  (fa_let (x1 + 1) fun x1_12 =>
  fm_Mod_wordAhead_l11 n x1_12 x2 w)
  else
  ((fa_ix x1 40000).bind fun j13 =>
  fa_let ((((27 * x2) + (w 196 j13)) - 97) + 1) fun x2_14 =>
  fa_let (x1 + 1) fun x1_15 =>
  fm_Mod_wordAhead_l11 n x1_15 x2_14 w))))
set_option maxHeartbeats 4000000 in
set_option maxRecDepth 100000 in
theorem c_Mod_wordAhead_l11 {p : Program} {l : Launch} {e : Env} {s : State} {m : MethodId} {args : Array Value} {below : List Frame} {meth : Method} {c : Code} {hh : Nat} {D : va_G} {b : Nat} {aC : Nat → ClassId} {H0 : Heap} {N T : Nat} (X : fa_GX p s m args meth c prog_12_method_14_code 3 ((Option.some Jvm.ClassFile.FieldType.int)) y_Mod_wordAhead.cls D b aC) (hle : 2 ≤ hh) (hN : fa_NM ≤ N) (hT : fa_TM ≤ T) {r : Int × fa_W}  : ∀ (n : Nat) (x1 : Int) (x2 : Int) (w : fa_W), fm_Mod_wordAhead_l11 n x1 x2 w = some r → fa_GJ p l e (fa_rm hh) s m args below meth c 0 0 (MQ below (fa_Qc D b aC H0 N T (some (.int (fa_I r.1))) r.2) args s 0 0 (fun q => b ≤ q)) D b aC H0 N T 3 w 11 [(0, .ref (b + 181)), (1, .int (fa_I x1)), (2, .int (fa_I x2))] [] := by
  intro n
  induction n with
  | zero => intro x1 x2 w hM; exact fa_no hM
  | succ n ih =>
    intro x1 x2 w hM
    rw [fm_Mod_wordAhead_l11] at hM
    refine g_iload_n X 1 rfl d_Mod_wordAhead_11 ?_
    refine g_aload_n X 0 rfl d_Mod_wordAhead_12 ?_
    refine g_get X ck_10 fo_181 (fn_181 hN) 25 (by decide) wd_1766 rfl (fa_fvI rfl) d_Mod_wordAhead_13 ?_
    refine g_icmp_ge X 74 d_Mod_wordAhead_16 (by decide) (fun hc4 => ?_) (fun hc4 => ?_)
    · have hM := fa_if_t hM hc4
      exact g_lv [0, 1, 2] rfl (c_Mod_wordAhead_j74 X hle hN hT    _ _ _ hM)
    · have hM := fa_if_f hM hc4
      refine g_aload_n X 0 rfl d_Mod_wordAhead_19 ?_
      refine g_get X ck_10 fo_181 (fn_181 hN) 22 (by decide) wd_1764 rfl (fr_181_22 rfl hT) d_Mod_wordAhead_20 ?_
      refine g_iload_n X 1 rfl d_Mod_wordAhead_23 ?_
      obtain ⟨j7, ej7, hM⟩ := fa_ob hM
      refine g_bald X fs_196 (fn_196 hN) ej7 d_Mod_wordAhead_24 ?_
      refine g_bipush X (by decide) d_Mod_wordAhead_25 ?_
      refine g_icmp_lt X 74 d_Mod_wordAhead_27 (by decide) (fun hc8 => ?_) (fun hc8 => ?_)
      · have hM := fa_if_t hM hc8
        exact g_lv [0, 1, 2] rfl (c_Mod_wordAhead_j74 X hle hN hT    _ _ _ hM)
      · have hM := fa_if_f hM hc8
        refine g_aload_n X 0 rfl d_Mod_wordAhead_30 ?_
        refine g_get X ck_10 fo_181 (fn_181 hN) 22 (by decide) wd_1764 rfl (fr_181_22 rfl hT) d_Mod_wordAhead_31 ?_
        refine g_iload_n X 1 rfl d_Mod_wordAhead_34 ?_
        obtain ⟨j9, ej9, hM⟩ := fa_ob hM
        refine g_bald X fs_196 (fn_196 hN) ej9 d_Mod_wordAhead_35 ?_
        refine g_bipush X (by decide) d_Mod_wordAhead_36 ?_
        refine g_icmp_gt X 74 d_Mod_wordAhead_38 (by decide) (fun hc10 => ?_) (fun hc10 => ?_)
        · have hM := fa_if_t hM hc10
          exact g_lv [0, 1, 2] rfl (c_Mod_wordAhead_j74 X hle hN hT    _ _ _ hM)
        · have hM := fa_if_f hM hc10
          refine g_iload_n X 1 rfl d_Mod_wordAhead_41 ?_
          refine g_aload_n X 0 rfl d_Mod_wordAhead_42 ?_
          refine g_get X ck_10 fo_181 (fn_181 hN) 26 (by decide) wd_1767 rfl (fa_fvI rfl) d_Mod_wordAhead_43 ?_
          refine g_isub X d_Mod_wordAhead_46 ?_
          refine g_iconst X d_Mod_wordAhead_47 ?_
          refine g_icmp_ge X 68 d_Mod_wordAhead_48 (by decide) (fun hc11 => ?_) (fun hc11 => ?_)
          · have hM := fa_if_t hM hc11
            refine g_iinc X 1 (fun x1_12 => [(1, .int (fa_I x1_12)), (0, .ref (b + 181)), (2, .int (fa_I x2))]) d_Mod_wordAhead_68 rfl (by decide) (fun _ => rfl) (fun x1_12 ex1_12 => ?_)
            have hM := fa_let_to hM ex1_12
            refine g_goto X 11 d_Mod_wordAhead_71 (by decide) ?_
            exact g_lv [1, 0, 2] rfl (ih _ _ _ hM)
          · have hM := fa_if_f hM hc11
            refine g_bipush X (by decide) d_Mod_wordAhead_51 ?_
            refine g_iload_n X 2 rfl d_Mod_wordAhead_53 ?_
            refine g_imul X d_Mod_wordAhead_54 ?_
            refine g_aload_n X 0 rfl d_Mod_wordAhead_55 ?_
            refine g_get X ck_10 fo_181 (fn_181 hN) 22 (by decide) wd_1764 rfl (fr_181_22 rfl hT) d_Mod_wordAhead_56 ?_
            refine g_iload_n X 1 rfl d_Mod_wordAhead_59 ?_
            obtain ⟨j13, ej13, hM⟩ := fa_ob hM
            refine g_bald X fs_196 (fn_196 hN) ej13 d_Mod_wordAhead_60 ?_
            refine g_iadd X d_Mod_wordAhead_61 ?_
            refine g_bipush X (by decide) d_Mod_wordAhead_62 ?_
            refine g_isub X d_Mod_wordAhead_64 ?_
            refine g_iconst X d_Mod_wordAhead_65 ?_
            refine g_iadd X d_Mod_wordAhead_66 ?_
            refine g_istore_n X (fun x2_14 => [(2, .int (fa_I x2_14)), (0, .ref (b + 181)), (1, .int (fa_I x1))]) d_Mod_wordAhead_67 (by decide) (fun _ => rfl) (fun x2_14 ex2_14 => ?_)
            have hM := fa_let_to hM ex2_14
            refine g_iinc X 2 (fun x1_15 => [(1, .int (fa_I x1_15)), (2, .int (fa_I x2_14)), (0, .ref (b + 181))]) d_Mod_wordAhead_68 rfl (by decide) (fun _ => rfl) (fun x1_15 ex1_15 => ?_)
            have hM := fa_let_to hM ex1_15
            refine g_goto X 11 d_Mod_wordAhead_71 (by decide) ?_
            exact g_lv [2, 0, 1] rfl (ih _ _ _ hM)
def fm_Mod_wordAhead (w : fa_W) : Option (Int × fa_W) :=
  (fm_Mod_blanks w).bind fun w2 =>
  fa_let (w2 181 26) fun x1_3 =>
  fm_Mod_wordAhead_l11 fa_FU x1_3 0 w2
set_option maxHeartbeats 4000000 in
set_option maxRecDepth 100000 in
theorem c_Mod_wordAhead {l : Launch} {D : va_G} {b : Nat} {aC : Nat → ClassId} {H0 : Heap} {N T : Nat} (hN : fa_NM ≤ N) (hT : fa_TM ≤ T)   (w : fa_W) (r : Int × fa_W) (hM : fm_Mod_wordAhead w = some r) : fa_MC l D b aC H0 N T y_Mod_wordAhead prog_12_method_14_code 3 ((Option.some Jvm.ClassFile.FieldType.int)) (2) [.ref (b + 181)] w (some (.int (fa_I r.1))) r.2 := by
  refine fa_enter (lv := [(0, .ref (b + 181))]) (by decide +kernel) (Nat.le_of_ble_eq_true rfl) rfl (fun hh hle hnm X => ?_)
  unfold fm_Mod_wordAhead at hM
  refine g_aload_n X 0 rfl d_Mod_wordAhead_0 ?_
  obtain ⟨w2, e1, hM⟩ := fa_ob hM
  refine g_callV_v X ck_10 fo_181 (fn_181 hN) rfl mi_Mod_blanks (c_Mod_blanks hN hT w _ e1) wd_1502 rfl (Nat.le_trans (Nat.le_of_ble_eq_true rfl) hle) (st := []) (Nat.le_of_ble_eq_true rfl) rfl d_Mod_wordAhead_1 ?_
  refine g_aload_n X 0 rfl d_Mod_wordAhead_4 ?_
  refine g_get X ck_10 fo_181 (fn_181 hN) 26 (by decide) wd_1767 rfl (fa_fvI rfl) d_Mod_wordAhead_5 ?_
  refine g_istore_n X (fun x1_3 => [(1, .int (fa_I x1_3)), (0, .ref (b + 181))]) d_Mod_wordAhead_8 (by decide) (fun _ => rfl) (fun x1_3 ex1_3 => ?_)
  have hM := fa_let_to hM ex1_3
  refine g_iconst X d_Mod_wordAhead_9 ?_
  refine g_istorec_n X [(2, .int (fa_I 0)), (1, .int (fa_I x1_3)), (0, .ref (b + 181))] d_Mod_wordAhead_10 (by decide) rfl ?_
  exact g_lv [2, 1, 0] rfl (c_Mod_wordAhead_l11 X hle hN hT   fa_FU _ _ _ hM)
theorem d_Mod_isOwn_0 : decode prog_12_method_16_code 0 = .ok (.iload_n 0, 1) := by decide +kernel
theorem d_Mod_isOwn_1 : decode prog_12_method_16_code 1 = .ok (.getstatic 57, 3) := by decide +kernel
theorem d_Mod_isOwn_4 : decode prog_12_method_16_code 4 = .ok (.if_icmp .eq 45, 3) := by decide +kernel
theorem d_Mod_isOwn_7 : decode prog_12_method_16_code 7 = .ok (.iload_n 0, 1) := by decide +kernel
theorem d_Mod_isOwn_8 : decode prog_12_method_16_code 8 = .ok (.getstatic 60, 3) := by decide +kernel
theorem d_Mod_isOwn_11 : decode prog_12_method_16_code 11 = .ok (.if_icmp .eq 38, 3) := by decide +kernel
theorem d_Mod_isOwn_14 : decode prog_12_method_16_code 14 = .ok (.iload_n 0, 1) := by decide +kernel
theorem d_Mod_isOwn_15 : decode prog_12_method_16_code 15 = .ok (.getstatic 63, 3) := by decide +kernel
theorem d_Mod_isOwn_18 : decode prog_12_method_16_code 18 = .ok (.if_icmp .eq 31, 3) := by decide +kernel
theorem d_Mod_isOwn_21 : decode prog_12_method_16_code 21 = .ok (.iload_n 0, 1) := by decide +kernel
theorem d_Mod_isOwn_22 : decode prog_12_method_16_code 22 = .ok (.getstatic 66, 3) := by decide +kernel
theorem d_Mod_isOwn_25 : decode prog_12_method_16_code 25 = .ok (.if_icmp .eq 24, 3) := by decide +kernel
theorem d_Mod_isOwn_28 : decode prog_12_method_16_code 28 = .ok (.iload_n 0, 1) := by decide +kernel
theorem d_Mod_isOwn_29 : decode prog_12_method_16_code 29 = .ok (.getstatic 69, 3) := by decide +kernel
theorem d_Mod_isOwn_32 : decode prog_12_method_16_code 32 = .ok (.if_icmp .eq 17, 3) := by decide +kernel
theorem d_Mod_isOwn_35 : decode prog_12_method_16_code 35 = .ok (.iload_n 0, 1) := by decide +kernel
theorem d_Mod_isOwn_36 : decode prog_12_method_16_code 36 = .ok (.getstatic 72, 3) := by decide +kernel
theorem d_Mod_isOwn_39 : decode prog_12_method_16_code 39 = .ok (.if_icmp .eq 10, 3) := by decide +kernel
theorem d_Mod_isOwn_42 : decode prog_12_method_16_code 42 = .ok (.iload_n 0, 1) := by decide +kernel
theorem d_Mod_isOwn_43 : decode prog_12_method_16_code 43 = .ok (.getstatic 75, 3) := by decide +kernel
theorem d_Mod_isOwn_46 : decode prog_12_method_16_code 46 = .ok (.if_icmp .ne 7, 3) := by decide +kernel
theorem d_Mod_isOwn_49 : decode prog_12_method_16_code 49 = .ok (.iconst 1, 1) := by decide +kernel
theorem d_Mod_isOwn_50 : decode prog_12_method_16_code 50 = .ok (.goto 4, 3) := by decide +kernel
theorem d_Mod_isOwn_53 : decode prog_12_method_16_code 53 = .ok (.iconst 0, 1) := by decide +kernel
theorem d_Mod_isOwn_54 : decode prog_12_method_16_code 54 = .ok (.ireturn, 1) := by decide +kernel
def fm_Mod_isOwn (a1 : Int) (w : fa_W) : Bool :=
  if fa_wr a1 = 4955 then
  true
  else
  (if fa_wr a1 = 249 then
  true
  else
  (if fa_wr a1 = 399641 then
  true
  else
  (if fa_wr a1 = 107681 then
  true
  else
  (if fa_wr a1 = 257 then
  true
  else
  (if fa_wr a1 = 8903 then
  true
  else
  (if fa_wr a1 = 82408 then
  true
  else
  false))))))
set_option maxHeartbeats 4000000 in
set_option maxRecDepth 100000 in
theorem c_Mod_isOwn {l : Launch} {D : va_G} {b : Nat} {aC : Nat → ClassId} {H0 : Heap} {N T : Nat} (hN : fa_NM ≤ N) (hT : fa_TM ≤ T) (a1 : Int)  (w : fa_W) (r : Bool) (hM : fm_Mod_isOwn a1 w = r) : fa_MC l D b aC H0 N T y_Mod_isOwn prog_12_method_16_code 1 ((Option.some Jvm.ClassFile.FieldType.boolean)) (0) [.int (fa_I a1)] w (some (.int (fa_I (fa_bi r)))) w := by
  refine fa_enter (lv := [(0, .int (fa_I a1))]) (by decide +kernel) (Nat.le_of_ble_eq_true rfl) rfl (fun hh hle hnm X => ?_)
  unfold fm_Mod_isOwn at hM
  refine g_iload_n X 0 rfl d_Mod_isOwn_0 ?_
  refine g_gets X (n := "FUN") (v := 4955) (z := 4955) (by decide) wd_1511 rfl d_Mod_isOwn_1 ?_
  refine g_icmp_eq X 49 d_Mod_isOwn_4 (by decide) (fun hc1 => ?_) (fun hc1 => ?_)
  · have hM := fa_if_t hM hc1
    refine g_iconst X d_Mod_isOwn_49 ?_
    refine g_goto X 54 d_Mod_isOwn_50 (by decide) ?_
    subst hM
    exact g_zret X rfl d_Mod_isOwn_54
  · have hM := fa_if_f hM hc1
    refine g_iload_n X 0 rfl d_Mod_isOwn_7 ?_
    refine g_gets X (n := "IFS") (v := 249) (z := 249) (by decide) wd_1536 rfl d_Mod_isOwn_8 ?_
    refine g_icmp_eq X 49 d_Mod_isOwn_11 (by decide) (fun hc2 => ?_) (fun hc2 => ?_)
    · have hM := fa_if_t hM hc2
      refine g_iconst X d_Mod_isOwn_49 ?_
      refine g_goto X 54 d_Mod_isOwn_50 (by decide) ?_
      subst hM
      exact g_zret X rfl d_Mod_isOwn_54
    · have hM := fa_if_f hM hc2
      refine g_iload_n X 0 rfl d_Mod_isOwn_14 ?_
      refine g_gets X (n := "THEN") (v := 399641) (z := 399641) (by decide) wd_1538 rfl d_Mod_isOwn_15 ?_
      refine g_icmp_eq X 49 d_Mod_isOwn_18 (by decide) (fun hc3 => ?_) (fun hc3 => ?_)
      · have hM := fa_if_t hM hc3
        refine g_iconst X d_Mod_isOwn_49 ?_
        refine g_goto X 54 d_Mod_isOwn_50 (by decide) ?_
        subst hM
        exact g_zret X rfl d_Mod_isOwn_54
      · have hM := fa_if_f hM hc3
        refine g_iload_n X 0 rfl d_Mod_isOwn_21 ?_
        refine g_gets X (n := "ELSE") (v := 107681) (z := 107681) (by decide) wd_1540 rfl d_Mod_isOwn_22 ?_
        refine g_icmp_eq X 49 d_Mod_isOwn_25 (by decide) (fun hc4 => ?_) (fun hc4 => ?_)
        · have hM := fa_if_t hM hc4
          refine g_iconst X d_Mod_isOwn_49 ?_
          refine g_goto X 54 d_Mod_isOwn_50 (by decide) ?_
          subst hM
          exact g_zret X rfl d_Mod_isOwn_54
        · have hM := fa_if_f hM hc4
          refine g_iload_n X 0 rfl d_Mod_isOwn_28 ?_
          refine g_gets X (n := "LETS_IN") (v := 257) (z := 257) (by decide) wd_1542 rfl d_Mod_isOwn_29 ?_
          refine g_icmp_eq X 49 d_Mod_isOwn_32 (by decide) (fun hc5 => ?_) (fun hc5 => ?_)
          · have hM := fa_if_t hM hc5
            refine g_iconst X d_Mod_isOwn_49 ?_
            refine g_goto X 54 d_Mod_isOwn_50 (by decide) ?_
            subst hM
            exact g_zret X rfl d_Mod_isOwn_54
          · have hM := fa_if_f hM hc5
            refine g_iload_n X 0 rfl d_Mod_isOwn_35 ?_
            refine g_gets X (n := "LET_WORD") (v := 8903) (z := 8903) (by decide) wd_1544 rfl d_Mod_isOwn_36 ?_
            refine g_icmp_eq X 49 d_Mod_isOwn_39 (by decide) (fun hc6 => ?_) (fun hc6 => ?_)
            · have hM := fa_if_t hM hc6
              refine g_iconst X d_Mod_isOwn_49 ?_
              refine g_goto X 54 d_Mod_isOwn_50 (by decide) ?_
              subst hM
              exact g_zret X rfl d_Mod_isOwn_54
            · have hM := fa_if_f hM hc6
              refine g_iload_n X 0 rfl d_Mod_isOwn_42 ?_
              refine g_gets X (n := "DEADS") (v := 82408) (z := 82408) (by decide) wd_1546 rfl d_Mod_isOwn_43 ?_
              refine g_icmp_ne X 53 d_Mod_isOwn_46 (by decide) (fun hc7 => ?_) (fun hc7 => ?_)
              · have hM := fa_if_f hM hc7
                refine g_iconst X d_Mod_isOwn_53 ?_
                subst hM
                exact g_zret X rfl d_Mod_isOwn_54
              · have hM := fa_if_t hM hc7
                refine g_iconst X d_Mod_isOwn_49 ?_
                refine g_goto X 54 d_Mod_isOwn_50 (by decide) ?_
                subst hM
                exact g_zret X rfl d_Mod_isOwn_54
theorem d_Mod_takesWord_0 : decode prog_12_method_17_code 0 = .ok (.aload_n 0, 1) := by decide +kernel
theorem d_Mod_takesWord_1 : decode prog_12_method_17_code 1 = .ok (.invokevirtual 78, 3) := by decide +kernel
theorem d_Mod_takesWord_4 : decode prog_12_method_17_code 4 = .ok (.iload_n 1, 1) := by decide +kernel
theorem d_Mod_takesWord_5 : decode prog_12_method_17_code 5 = .ok (.if_icmp .eq 5, 3) := by decide +kernel
theorem d_Mod_takesWord_8 : decode prog_12_method_17_code 8 = .ok (.iconst 0, 1) := by decide +kernel
theorem d_Mod_takesWord_9 : decode prog_12_method_17_code 9 = .ok (.ireturn, 1) := by decide +kernel
theorem d_Mod_takesWord_10 : decode prog_12_method_17_code 10 = .ok (.aload_n 0, 1) := by decide +kernel
theorem d_Mod_takesWord_11 : decode prog_12_method_17_code 11 = .ok (.dup, 1) := by decide +kernel
theorem d_Mod_takesWord_12 : decode prog_12_method_17_code 12 = .ok (.getfield 18, 3) := by decide +kernel
theorem d_Mod_takesWord_15 : decode prog_12_method_17_code 15 = .ok (.aload_n 0, 1) := by decide +kernel
theorem d_Mod_takesWord_16 : decode prog_12_method_17_code 16 = .ok (.getfield 53, 3) := by decide +kernel
theorem d_Mod_takesWord_19 : decode prog_12_method_17_code 19 = .ok (.iadd, 1) := by decide +kernel
theorem d_Mod_takesWord_20 : decode prog_12_method_17_code 20 = .ok (.putfield 18, 3) := by decide +kernel
theorem d_Mod_takesWord_23 : decode prog_12_method_17_code 23 = .ok (.iconst 1, 1) := by decide +kernel
theorem d_Mod_takesWord_24 : decode prog_12_method_17_code 24 = .ok (.ireturn, 1) := by decide +kernel
def fm_Mod_takesWord (a1 : Int) (w : fa_W) : Option (Bool × fa_W) :=
  fa_bd (fm_Mod_wordAhead w) fun v2 w3 =>
  if fa_wr v2 = fa_wr a1 then
  (fa_let (fa_st w3 181 26 ((w3 181 26) + (w3 181 34))) fun w5 =>
  some (true, w5))
  else
  some (false, w3)
set_option maxHeartbeats 4000000 in
set_option maxRecDepth 100000 in
theorem c_Mod_takesWord {l : Launch} {D : va_G} {b : Nat} {aC : Nat → ClassId} {H0 : Heap} {N T : Nat} (hN : fa_NM ≤ N) (hT : fa_TM ≤ T) (a1 : Int)  (w : fa_W) (r : Bool × fa_W) (hM : fm_Mod_takesWord a1 w = some r) : fa_MC l D b aC H0 N T y_Mod_takesWord prog_12_method_17_code 2 ((Option.some Jvm.ClassFile.FieldType.boolean)) (3) [.ref (b + 181), .int (fa_I a1)] w (some (.int (fa_I (fa_bi r.1)))) r.2 := by
  refine fa_enter (lv := [(0, .ref (b + 181)), (1, .int (fa_I a1))]) (by decide +kernel) (Nat.le_of_ble_eq_true rfl) rfl (fun hh hle hnm X => ?_)
  unfold fm_Mod_takesWord at hM
  refine g_aload_n X 0 rfl d_Mod_takesWord_0 ?_
  obtain ⟨v2, w3, e1, hM⟩ := fa_obd hM
  refine g_callV_i X ck_10 fo_181 (fn_181 hN) rfl mi_Mod_wordAhead (c_Mod_wordAhead hN hT w _ e1) wd_1498 rfl (Nat.le_trans (Nat.le_of_ble_eq_true rfl) hle) (st := []) (Nat.le_of_ble_eq_true rfl) rfl d_Mod_takesWord_1 ?_
  refine g_iload_n X 1 rfl d_Mod_takesWord_4 ?_
  refine g_icmp_eq X 10 d_Mod_takesWord_5 (by decide) (fun hc4 => ?_) (fun hc4 => ?_)
  · have hM := fa_if_t hM hc4
    refine g_aload_n X 0 rfl d_Mod_takesWord_10 ?_
    refine g_dup X rfl d_Mod_takesWord_11 ?_
    refine g_get X ck_10 fo_181 (fn_181 hN) 26 (by decide) wd_1767 rfl (fa_fvI rfl) d_Mod_takesWord_12 ?_
    refine g_aload_n X 0 rfl d_Mod_takesWord_15 ?_
    refine g_get X ck_10 fo_181 (fn_181 hN) 34 (by decide) wd_1775 rfl (fa_fvI rfl) d_Mod_takesWord_16 ?_
    refine g_iadd X d_Mod_takesWord_19 ?_
    refine g_put X ck_10 fo_181 (fn_181 hN) 26 (z := ((w3 181 26) + (w3 181 34))) (by decide) wd_1767 rfl (fa_fvI' rfl) rfl rfl rfl d_Mod_takesWord_20 (fun w5 ew5 => ?_)
    have hM := fa_let_to hM ew5
    refine g_iconst X d_Mod_takesWord_23 ?_
    cases hM
    exact g_zret X rfl d_Mod_takesWord_24
  · have hM := fa_if_f hM hc4
    refine g_iconst X d_Mod_takesWord_8 ?_
    cases hM
    exact g_zret X rfl d_Mod_takesWord_9
theorem d_Mod_asksWord_0 : decode prog_12_method_18_code 0 = .ok (.aload_n 0, 1) := by decide +kernel
theorem d_Mod_asksWord_1 : decode prog_12_method_18_code 1 = .ok (.invokevirtual 41, 3) := by decide +kernel
theorem d_Mod_asksWord_4 : decode prog_12_method_18_code 4 = .ok (.ifCond .ne 11, 3) := by decide +kernel
theorem d_Mod_asksWord_7 : decode prog_12_method_18_code 7 = .ok (.aload_n 0, 1) := by decide +kernel
theorem d_Mod_asksWord_8 : decode prog_12_method_18_code 8 = .ok (.iload_n 1, 1) := by decide +kernel
theorem d_Mod_asksWord_9 : decode prog_12_method_18_code 9 = .ok (.invokevirtual 82, 3) := by decide +kernel
theorem d_Mod_asksWord_12 : decode prog_12_method_18_code 12 = .ok (.ifCond .eq 4, 3) := by decide +kernel
theorem d_Mod_asksWord_15 : decode prog_12_method_18_code 15 = .ok (.return_, 1) := by decide +kernel
theorem d_Mod_asksWord_16 : decode prog_12_method_18_code 16 = .ok (.aload_n 0, 1) := by decide +kernel
theorem d_Mod_asksWord_17 : decode prog_12_method_18_code 17 = .ok (.aload_n 0, 1) := by decide +kernel
theorem d_Mod_asksWord_18 : decode prog_12_method_18_code 18 = .ok (.getfield 31, 3) := by decide +kernel
theorem d_Mod_asksWord_21 : decode prog_12_method_18_code 21 = .ok (.invokevirtual 49, 3) := by decide +kernel
theorem d_Mod_asksWord_24 : decode prog_12_method_18_code 24 = .ok (.istore_n 2, 1) := by decide +kernel
theorem d_Mod_asksWord_25 : decode prog_12_method_18_code 25 = .ok (.return_, 1) := by decide +kernel
def fm_Mod_asksWord (a1 : Int) (w : fa_W) : Option fa_W :=
  if fm_Mod_hasFailed w = true then
  some w
  else
  (fa_bd (fm_Mod_takesWord a1 w) fun v4 w5 =>
  if v4 = true then
  some w5
  else
  (fa_l2 (fm_Mod_fails (w5 181 27) w5) fun v8 w9 =>
  some w9))
set_option maxHeartbeats 4000000 in
set_option maxRecDepth 100000 in
theorem c_Mod_asksWord {l : Launch} {D : va_G} {b : Nat} {aC : Nat → ClassId} {H0 : Heap} {N T : Nat} (hN : fa_NM ≤ N) (hT : fa_TM ≤ T) (a1 : Int)  (w : fa_W) (r : fa_W) (hM : fm_Mod_asksWord a1 w = some r) : fa_MC l D b aC H0 N T y_Mod_asksWord prog_12_method_18_code 3 ((Option.none : Option Jvm.ClassFile.FieldType)) (4) [.ref (b + 181), .int (fa_I a1)] w (none) r := by
  refine fa_enter (lv := [(0, .ref (b + 181)), (1, .int (fa_I a1))]) (by decide +kernel) (Nat.le_of_ble_eq_true rfl) rfl (fun hh hle hnm X => ?_)
  unfold fm_Mod_asksWord at hM
  refine g_aload_n X 0 rfl d_Mod_asksWord_0 ?_
  refine g_callV_i X ck_10 fo_181 (fn_181 hN) rfl mi_Mod_hasFailed (c_Mod_hasFailed hN hT w _ rfl) wd_1494 rfl (Nat.le_trans (Nat.le_of_ble_eq_true rfl) hle) (st := []) (Nat.le_of_ble_eq_true rfl) rfl d_Mod_asksWord_1 ?_
  refine g_ifb_ne X 15 d_Mod_asksWord_4 (by decide) (fun hc2 => ?_) (fun hc2 => ?_)
  · have hM := fa_ifb_t hM hc2
    cases hM
    exact g_vret X d_Mod_asksWord_15
  · have hM := fa_ifb_f hM hc2
    refine g_aload_n X 0 rfl d_Mod_asksWord_7 ?_
    refine g_iload_n X 1 rfl d_Mod_asksWord_8 ?_
    obtain ⟨v4, w5, e3, hM⟩ := fa_obd hM
    refine g_callV_i X ck_10 fo_181 (fn_181 hN) rfl mi_Mod_takesWord (c_Mod_takesWord hN hT a1 w _ e3) wd_1525 rfl (Nat.le_trans (Nat.le_of_ble_eq_true rfl) hle) (st := []) (Nat.le_of_ble_eq_true rfl) rfl d_Mod_asksWord_9 ?_
    refine g_ifb_eq X 16 d_Mod_asksWord_12 (by decide) (fun hc6 => ?_) (fun hc6 => ?_)
    · have hM := fa_ifb_f hM hc6
      refine g_aload_n X 0 rfl d_Mod_asksWord_16 ?_
      refine g_aload_n X 0 rfl d_Mod_asksWord_17 ?_
      refine g_get X ck_10 fo_181 (fn_181 hN) 27 (by decide) wd_1768 rfl (fa_fvI rfl) d_Mod_asksWord_18 ?_
      obtain ⟨⟨v8, w9⟩, e7⟩ : ∃ q, fm_Mod_fails (w5 181 27) w5 = q := ⟨_, rfl⟩
      have hM := fa_l2_e hM e7
      refine g_callV_i X ck_10 fo_181 (fn_181 hN) rfl mi_Mod_fails (c_Mod_fails hN hT (w5 181 27) w5 _ e7) wd_1517 rfl (Nat.le_trans (Nat.le_of_ble_eq_true rfl) hle) (st := []) (Nat.le_of_ble_eq_true rfl) rfl d_Mod_asksWord_21 ?_
      refine g_istorec_n X [(2, .int (fa_I v8)), (0, .ref (b + 181)), (1, .int (fa_I a1))] d_Mod_asksWord_24 (by decide) rfl ?_
      cases hM
      exact g_vret X d_Mod_asksWord_25
    · have hM := fa_ifb_t hM hc6
      cases hM
      exact g_vret X d_Mod_asksWord_15
theorem d_Mod_gives_0 : decode prog_12_method_19_code 0 = .ok (.aload_n 0, 1) := by decide +kernel
theorem d_Mod_gives_1 : decode prog_12_method_19_code 1 = .ok (.invokevirtual 41, 3) := by decide +kernel
theorem d_Mod_gives_4 : decode prog_12_method_19_code 4 = .ok (.ifCond .eq 5, 3) := by decide +kernel
theorem d_Mod_gives_7 : decode prog_12_method_19_code 7 = .ok (.iconst 0, 1) := by decide +kernel
theorem d_Mod_gives_8 : decode prog_12_method_19_code 8 = .ok (.ireturn, 1) := by decide +kernel
theorem d_Mod_gives_9 : decode prog_12_method_19_code 9 = .ok (.aload_n 0, 1) := by decide +kernel
theorem d_Mod_gives_10 : decode prog_12_method_19_code 10 = .ok (.invokevirtual 78, 3) := by decide +kernel
theorem d_Mod_gives_13 : decode prog_12_method_19_code 13 = .ok (.istore_n 1, 1) := by decide +kernel
theorem d_Mod_gives_14 : decode prog_12_method_19_code 14 = .ok (.iload_n 1, 1) := by decide +kernel
theorem d_Mod_gives_15 : decode prog_12_method_19_code 15 = .ok (.ifCond .eq 16, 3) := by decide +kernel
theorem d_Mod_gives_18 : decode prog_12_method_19_code 18 = .ok (.iload_n 1, 1) := by decide +kernel
theorem d_Mod_gives_19 : decode prog_12_method_19_code 19 = .ok (.ldc 56, 2) := by decide +kernel
theorem d_Mod_gives_21 : decode prog_12_method_19_code 21 = .ok (.if_icmp .gt 10, 3) := by decide +kernel
theorem d_Mod_gives_24 : decode prog_12_method_19_code 24 = .ok (.iload_n 1, 1) := by decide +kernel
theorem d_Mod_gives_25 : decode prog_12_method_19_code 25 = .ok (.invokestatic 85, 3) := by decide +kernel
theorem d_Mod_gives_28 : decode prog_12_method_19_code 28 = .ok (.ifCond .eq 14, 3) := by decide +kernel
theorem d_Mod_gives_31 : decode prog_12_method_19_code 31 = .ok (.aload_n 0, 1) := by decide +kernel
theorem d_Mod_gives_32 : decode prog_12_method_19_code 32 = .ok (.aload_n 0, 1) := by decide +kernel
theorem d_Mod_gives_33 : decode prog_12_method_19_code 33 = .ok (.getfield 31, 3) := by decide +kernel
theorem d_Mod_gives_36 : decode prog_12_method_19_code 36 = .ok (.invokevirtual 49, 3) := by decide +kernel
theorem d_Mod_gives_39 : decode prog_12_method_19_code 39 = .ok (.istore_n 2, 1) := by decide +kernel
theorem d_Mod_gives_40 : decode prog_12_method_19_code 40 = .ok (.iconst 0, 1) := by decide +kernel
theorem d_Mod_gives_41 : decode prog_12_method_19_code 41 = .ok (.ireturn, 1) := by decide +kernel
theorem d_Mod_gives_42 : decode prog_12_method_19_code 42 = .ok (.aload_n 0, 1) := by decide +kernel
theorem d_Mod_gives_43 : decode prog_12_method_19_code 43 = .ok (.dup, 1) := by decide +kernel
theorem d_Mod_gives_44 : decode prog_12_method_19_code 44 = .ok (.getfield 18, 3) := by decide +kernel
theorem d_Mod_gives_47 : decode prog_12_method_19_code 47 = .ok (.aload_n 0, 1) := by decide +kernel
theorem d_Mod_gives_48 : decode prog_12_method_19_code 48 = .ok (.getfield 53, 3) := by decide +kernel
theorem d_Mod_gives_51 : decode prog_12_method_19_code 51 = .ok (.iadd, 1) := by decide +kernel
theorem d_Mod_gives_52 : decode prog_12_method_19_code 52 = .ok (.putfield 18, 3) := by decide +kernel
theorem d_Mod_gives_55 : decode prog_12_method_19_code 55 = .ok (.iload_n 1, 1) := by decide +kernel
theorem d_Mod_gives_56 : decode prog_12_method_19_code 56 = .ok (.ireturn, 1) := by decide +kernel
def fm_Mod_gives_j31 (w : fa_W) : Option (Int × fa_W) :=
  fa_l2 (fm_Mod_fails (w 181 27) w) fun v8 w9 =>
  some (0, w9)
set_option maxHeartbeats 4000000 in
set_option maxRecDepth 100000 in
theorem c_Mod_gives_j31 {p : Program} {l : Launch} {e : Env} {s : State} {m : MethodId} {args : Array Value} {below : List Frame} {meth : Method} {c : Code} {hh : Nat} {D : va_G} {b : Nat} {aC : Nat → ClassId} {H0 : Heap} {N T : Nat} (X : fa_GX p s m args meth c prog_12_method_19_code 3 ((Option.some Jvm.ClassFile.FieldType.int)) y_Mod_gives.cls D b aC) (hle : 3 ≤ hh) (hN : fa_NM ≤ N) (hT : fa_TM ≤ T) {r : Int × fa_W}  : ∀ (w : fa_W) (_ : fm_Mod_gives_j31 w = some r), fa_GJ p l e (fa_rm hh) s m args below meth c 0 0 (MQ below (fa_Qc D b aC H0 N T (some (.int (fa_I r.1))) r.2) args s 0 0 (fun q => b ≤ q)) D b aC H0 N T 3 w 31 [(0, .ref (b + 181))] [] := by
  intro w hM
  unfold fm_Mod_gives_j31 at hM
  refine g_aload_n X 0 rfl d_Mod_gives_31 ?_
  refine g_aload_n X 0 rfl d_Mod_gives_32 ?_
  refine g_get X ck_10 fo_181 (fn_181 hN) 27 (by decide) wd_1768 rfl (fa_fvI rfl) d_Mod_gives_33 ?_
  obtain ⟨⟨v8, w9⟩, e7⟩ : ∃ q, fm_Mod_fails (w 181 27) w = q := ⟨_, rfl⟩
  have hM := fa_l2_e hM e7
  refine g_callV_i X ck_10 fo_181 (fn_181 hN) rfl mi_Mod_fails (c_Mod_fails hN hT (w 181 27) w _ e7) wd_1517 rfl (Nat.le_trans (Nat.le_of_ble_eq_true rfl) hle) (st := []) (Nat.le_of_ble_eq_true rfl) rfl d_Mod_gives_36 ?_
  refine g_istorec_n X [(2, .int (fa_I v8)), (0, .ref (b + 181))] d_Mod_gives_39 (by decide) rfl ?_
  refine g_iconst X d_Mod_gives_40 ?_
  cases hM
  exact g_iret X d_Mod_gives_41
def fm_Mod_gives (w : fa_W) : Option (Int × fa_W) :=
  if fm_Mod_hasFailed w = true then
  some (0, w)
  else
  (fa_bd (fm_Mod_wordAhead w) fun v4 w5 =>
  if fa_wr v4 = 0 then
  fm_Mod_gives_j31 w5
  else
  (if 1048576 < fa_wr v4 then
  fm_Mod_gives_j31 w5
  else
  (if fm_Mod_isOwn v4 w5 = true then
  fm_Mod_gives_j31 w5
  else
  (fa_let (fa_st w5 181 26 ((w5 181 26) + (w5 181 34))) fun w13 =>
  some (v4, w13)))))
set_option maxHeartbeats 4000000 in
set_option maxRecDepth 100000 in
theorem c_Mod_gives {l : Launch} {D : va_G} {b : Nat} {aC : Nat → ClassId} {H0 : Heap} {N T : Nat} (hN : fa_NM ≤ N) (hT : fa_TM ≤ T)   (w : fa_W) (r : Int × fa_W) (hM : fm_Mod_gives w = some r) : fa_MC l D b aC H0 N T y_Mod_gives prog_12_method_19_code 3 ((Option.some Jvm.ClassFile.FieldType.int)) (3) [.ref (b + 181)] w (some (.int (fa_I r.1))) r.2 := by
  refine fa_enter (lv := [(0, .ref (b + 181))]) (by decide +kernel) (Nat.le_of_ble_eq_true rfl) rfl (fun hh hle hnm X => ?_)
  unfold fm_Mod_gives at hM
  refine g_aload_n X 0 rfl d_Mod_gives_0 ?_
  refine g_callV_i X ck_10 fo_181 (fn_181 hN) rfl mi_Mod_hasFailed (c_Mod_hasFailed hN hT w _ rfl) wd_1494 rfl (Nat.le_trans (Nat.le_of_ble_eq_true rfl) hle) (st := []) (Nat.le_of_ble_eq_true rfl) rfl d_Mod_gives_1 ?_
  refine g_ifb_eq X 9 d_Mod_gives_4 (by decide) (fun hc2 => ?_) (fun hc2 => ?_)
  · have hM := fa_ifb_f hM hc2
    refine g_aload_n X 0 rfl d_Mod_gives_9 ?_
    obtain ⟨v4, w5, e3, hM⟩ := fa_obd hM
    refine g_callV_i X ck_10 fo_181 (fn_181 hN) rfl mi_Mod_wordAhead (c_Mod_wordAhead hN hT w _ e3) wd_1498 rfl (Nat.le_trans (Nat.le_of_ble_eq_true rfl) hle) (st := []) (Nat.le_of_ble_eq_true rfl) rfl d_Mod_gives_10 ?_
    refine g_istorec_n X [(1, .int (fa_I v4)), (0, .ref (b + 181))] d_Mod_gives_13 (by decide) rfl ?_
    refine g_iload_n X 0 rfl d_Mod_gives_14 ?_
    refine g_if_eq X 31 d_Mod_gives_15 (by decide) (fun hc6 => ?_) (fun hc6 => ?_)
    · have hM := fa_if_t hM hc6
      exact g_lv [1] rfl (c_Mod_gives_j31 X hle hN hT    _ hM)
    · have hM := fa_if_f hM hc6
      refine g_iload_n X 0 rfl d_Mod_gives_18 ?_
      refine g_ldc X (n := 1048576) wd_1510 (by decide) d_Mod_gives_19 ?_
      refine g_icmp_gt X 31 d_Mod_gives_21 (by decide) (fun hc10 => ?_) (fun hc10 => ?_)
      · have hM := fa_if_t hM hc10
        exact g_lv [1] rfl (c_Mod_gives_j31 X hle hN hT    _ hM)
      · have hM := fa_if_f hM hc10
        refine g_iload_n X 0 rfl d_Mod_gives_24 ?_
        refine g_callS_i X mi_Mod_isOwn (c_Mod_isOwn hN hT v4 w5 _ rfl) wd_1533 rfl (Nat.le_trans (Nat.le_of_ble_eq_true rfl) hle) (st := []) (Nat.le_of_ble_eq_true rfl) rfl d_Mod_gives_25 ?_
        refine g_ifb_eq X 42 d_Mod_gives_28 (by decide) (fun hc12 => ?_) (fun hc12 => ?_)
        · have hM := fa_ifb_f hM hc12
          refine g_aload_n X 1 rfl d_Mod_gives_42 ?_
          refine g_dup X rfl d_Mod_gives_43 ?_
          refine g_get X ck_10 fo_181 (fn_181 hN) 26 (by decide) wd_1767 rfl (fa_fvI rfl) d_Mod_gives_44 ?_
          refine g_aload_n X 1 rfl d_Mod_gives_47 ?_
          refine g_get X ck_10 fo_181 (fn_181 hN) 34 (by decide) wd_1775 rfl (fa_fvI rfl) d_Mod_gives_48 ?_
          refine g_iadd X d_Mod_gives_51 ?_
          refine g_put X ck_10 fo_181 (fn_181 hN) 26 (z := ((w5 181 26) + (w5 181 34))) (by decide) wd_1767 rfl (fa_fvI' rfl) rfl rfl rfl d_Mod_gives_52 (fun w13 ew13 => ?_)
          have hM := fa_let_to hM ew13
          refine g_iload_n X 0 rfl d_Mod_gives_55 ?_
          cases hM
          exact g_iret X d_Mod_gives_56
        · have hM := fa_ifb_t hM hc12
          exact g_lv [1] rfl (c_Mod_gives_j31 X hle hN hT    _ hM)
  · have hM := fa_ifb_t hM hc2
    refine g_iconst X d_Mod_gives_7 ?_
    cases hM
    exact g_iret X d_Mod_gives_8
theorem d_Mod_node_0 : decode prog_12_method_20_code 0 = .ok (.aload_n 0, 1) := by decide +kernel
theorem d_Mod_node_1 : decode prog_12_method_20_code 1 = .ok (.invokevirtual 41, 3) := by decide +kernel
theorem d_Mod_node_4 : decode prog_12_method_20_code 4 = .ok (.ifCond .eq 5, 3) := by decide +kernel
theorem d_Mod_node_7 : decode prog_12_method_20_code 7 = .ok (.iconst (-1), 1) := by decide +kernel
theorem d_Mod_node_8 : decode prog_12_method_20_code 8 = .ok (.ireturn, 1) := by decide +kernel
theorem d_Mod_node_9 : decode prog_12_method_20_code 9 = .ok (.aload_n 0, 1) := by decide +kernel
theorem d_Mod_node_10 : decode prog_12_method_20_code 10 = .ok (.getfield 88, 3) := by decide +kernel
theorem d_Mod_node_13 : decode prog_12_method_20_code 13 = .ok (.aload_n 0, 1) := by decide +kernel
theorem d_Mod_node_14 : decode prog_12_method_20_code 14 = .ok (.getfield 91, 3) := by decide +kernel
theorem d_Mod_node_17 : decode prog_12_method_20_code 17 = .ok (.iload_n 1, 1) := by decide +kernel
theorem d_Mod_node_18 : decode prog_12_method_20_code 18 = .ok (.iastore, 1) := by decide +kernel
theorem d_Mod_node_19 : decode prog_12_method_20_code 19 = .ok (.aload_n 0, 1) := by decide +kernel
theorem d_Mod_node_20 : decode prog_12_method_20_code 20 = .ok (.getfield 94, 3) := by decide +kernel
theorem d_Mod_node_23 : decode prog_12_method_20_code 23 = .ok (.aload_n 0, 1) := by decide +kernel
theorem d_Mod_node_24 : decode prog_12_method_20_code 24 = .ok (.getfield 91, 3) := by decide +kernel
theorem d_Mod_node_27 : decode prog_12_method_20_code 27 = .ok (.iload_n 2, 1) := by decide +kernel
theorem d_Mod_node_28 : decode prog_12_method_20_code 28 = .ok (.iastore, 1) := by decide +kernel
theorem d_Mod_node_29 : decode prog_12_method_20_code 29 = .ok (.aload_n 0, 1) := by decide +kernel
theorem d_Mod_node_30 : decode prog_12_method_20_code 30 = .ok (.getfield 97, 3) := by decide +kernel
theorem d_Mod_node_33 : decode prog_12_method_20_code 33 = .ok (.aload_n 0, 1) := by decide +kernel
theorem d_Mod_node_34 : decode prog_12_method_20_code 34 = .ok (.getfield 91, 3) := by decide +kernel
theorem d_Mod_node_37 : decode prog_12_method_20_code 37 = .ok (.iload_n 3, 1) := by decide +kernel
theorem d_Mod_node_38 : decode prog_12_method_20_code 38 = .ok (.iastore, 1) := by decide +kernel
theorem d_Mod_node_39 : decode prog_12_method_20_code 39 = .ok (.aload_n 0, 1) := by decide +kernel
theorem d_Mod_node_40 : decode prog_12_method_20_code 40 = .ok (.getfield 100, 3) := by decide +kernel
theorem d_Mod_node_43 : decode prog_12_method_20_code 43 = .ok (.aload_n 0, 1) := by decide +kernel
theorem d_Mod_node_44 : decode prog_12_method_20_code 44 = .ok (.getfield 91, 3) := by decide +kernel
theorem d_Mod_node_47 : decode prog_12_method_20_code 47 = .ok (.iload 4, 2) := by decide +kernel
theorem d_Mod_node_49 : decode prog_12_method_20_code 49 = .ok (.iastore, 1) := by decide +kernel
theorem d_Mod_node_50 : decode prog_12_method_20_code 50 = .ok (.aload_n 0, 1) := by decide +kernel
theorem d_Mod_node_51 : decode prog_12_method_20_code 51 = .ok (.getfield 103, 3) := by decide +kernel
theorem d_Mod_node_54 : decode prog_12_method_20_code 54 = .ok (.aload_n 0, 1) := by decide +kernel
theorem d_Mod_node_55 : decode prog_12_method_20_code 55 = .ok (.getfield 91, 3) := by decide +kernel
theorem d_Mod_node_58 : decode prog_12_method_20_code 58 = .ok (.iload 5, 2) := by decide +kernel
theorem d_Mod_node_60 : decode prog_12_method_20_code 60 = .ok (.iastore, 1) := by decide +kernel
theorem d_Mod_node_61 : decode prog_12_method_20_code 61 = .ok (.aload_n 0, 1) := by decide +kernel
theorem d_Mod_node_62 : decode prog_12_method_20_code 62 = .ok (.dup, 1) := by decide +kernel
theorem d_Mod_node_63 : decode prog_12_method_20_code 63 = .ok (.getfield 91, 3) := by decide +kernel
theorem d_Mod_node_66 : decode prog_12_method_20_code 66 = .ok (.iconst 1, 1) := by decide +kernel
theorem d_Mod_node_67 : decode prog_12_method_20_code 67 = .ok (.iadd, 1) := by decide +kernel
theorem d_Mod_node_68 : decode prog_12_method_20_code 68 = .ok (.putfield 91, 3) := by decide +kernel
theorem d_Mod_node_71 : decode prog_12_method_20_code 71 = .ok (.aload_n 0, 1) := by decide +kernel
theorem d_Mod_node_72 : decode prog_12_method_20_code 72 = .ok (.getfield 91, 3) := by decide +kernel
theorem d_Mod_node_75 : decode prog_12_method_20_code 75 = .ok (.iconst 1, 1) := by decide +kernel
theorem d_Mod_node_76 : decode prog_12_method_20_code 76 = .ok (.isub, 1) := by decide +kernel
theorem d_Mod_node_77 : decode prog_12_method_20_code 77 = .ok (.ireturn, 1) := by decide +kernel
def fm_Mod_node (a1 : Int) (a2 : Int) (a3 : Int) (a4 : Int) (a5 : Int) (w : fa_W) : Option (Int × fa_W) :=
  if fm_Mod_hasFailed w = true then
  some ((-1), w)
  else
  ((fa_ix (w 181 16) 101).bind fun j3 =>
  fa_let (fa_st w 184 j3 a1) fun w4 =>
  (fa_ix (w4 181 16) 101).bind fun j5 =>
  fa_let (fa_st w4 185 j5 a2) fun w6 =>
  (fa_ix (w6 181 16) 101).bind fun j7 =>
  fa_let (fa_st w6 186 j7 a3) fun w8 =>
  (fa_ix (w8 181 16) 101).bind fun j9 =>
  fa_let (fa_st w8 187 j9 a4) fun w10 =>
  (fa_ix (w10 181 16) 101).bind fun j11 =>
  fa_let (fa_st w10 188 j11 a5) fun w12 =>
  fa_let (fa_st w12 181 16 ((w12 181 16) + 1)) fun w13 =>
  some ((w13 181 16) - 1, w13))
set_option maxHeartbeats 4000000 in
set_option maxRecDepth 100000 in
theorem c_Mod_node {l : Launch} {D : va_G} {b : Nat} {aC : Nat → ClassId} {H0 : Heap} {N T : Nat} (hN : fa_NM ≤ N) (hT : fa_TM ≤ T) (a1 : Int) (a2 : Int) (a3 : Int) (a4 : Int) (a5 : Int)  (w : fa_W) (r : Int × fa_W) (hM : fm_Mod_node a1 a2 a3 a4 a5 w = some r) : fa_MC l D b aC H0 N T y_Mod_node prog_12_method_20_code 6 ((Option.some Jvm.ClassFile.FieldType.int)) (1) [.ref (b + 181), .int (fa_I a1), .int (fa_I a2), .int (fa_I a3), .int (fa_I a4), .int (fa_I a5)] w (some (.int (fa_I r.1))) r.2 := by
  refine fa_enter (lv := [(0, .ref (b + 181)), (1, .int (fa_I a1)), (2, .int (fa_I a2)), (3, .int (fa_I a3)), (4, .int (fa_I a4)), (5, .int (fa_I a5))]) (by decide +kernel) (Nat.le_of_ble_eq_true rfl) rfl (fun hh hle hnm X => ?_)
  unfold fm_Mod_node at hM
  refine g_aload_n X 0 rfl d_Mod_node_0 ?_
  refine g_callV_i X ck_10 fo_181 (fn_181 hN) rfl mi_Mod_hasFailed (c_Mod_hasFailed hN hT w _ rfl) wd_1494 rfl (Nat.le_trans (Nat.le_of_ble_eq_true rfl) hle) (st := []) (Nat.le_of_ble_eq_true rfl) rfl d_Mod_node_1 ?_
  refine g_ifb_eq X 9 d_Mod_node_4 (by decide) (fun hc2 => ?_) (fun hc2 => ?_)
  · have hM := fa_ifb_f hM hc2
    refine g_aload_n X 0 rfl d_Mod_node_9 ?_
    refine g_get X ck_10 fo_181 (fn_181 hN) 4 (by decide) wd_1746 rfl (fr_181_4 rfl hT) d_Mod_node_10 ?_
    refine g_aload_n X 0 rfl d_Mod_node_13 ?_
    refine g_get X ck_10 fo_181 (fn_181 hN) 16 (by decide) wd_1758 rfl (fa_fvI rfl) d_Mod_node_14 ?_
    refine g_iload_n X 1 rfl d_Mod_node_17 ?_
    obtain ⟨j3, ej3, hM⟩ := fa_ob hM
    refine g_iast X fs_184 (fn_184 hN) ej3 d_Mod_node_18 (fun w4 ew4 => ?_)
    have hM := fa_let_to hM ew4
    refine g_aload_n X 0 rfl d_Mod_node_19 ?_
    refine g_get X ck_10 fo_181 (fn_181 hN) 5 (by decide) wd_1747 rfl (fr_181_5 rfl hT) d_Mod_node_20 ?_
    refine g_aload_n X 0 rfl d_Mod_node_23 ?_
    refine g_get X ck_10 fo_181 (fn_181 hN) 16 (by decide) wd_1758 rfl (fa_fvI rfl) d_Mod_node_24 ?_
    refine g_iload_n X 2 rfl d_Mod_node_27 ?_
    obtain ⟨j5, ej5, hM⟩ := fa_ob hM
    refine g_iast X fs_185 (fn_185 hN) ej5 d_Mod_node_28 (fun w6 ew6 => ?_)
    have hM := fa_let_to hM ew6
    refine g_aload_n X 0 rfl d_Mod_node_29 ?_
    refine g_get X ck_10 fo_181 (fn_181 hN) 6 (by decide) wd_1748 rfl (fr_181_6 rfl hT) d_Mod_node_30 ?_
    refine g_aload_n X 0 rfl d_Mod_node_33 ?_
    refine g_get X ck_10 fo_181 (fn_181 hN) 16 (by decide) wd_1758 rfl (fa_fvI rfl) d_Mod_node_34 ?_
    refine g_iload_n X 3 rfl d_Mod_node_37 ?_
    obtain ⟨j7, ej7, hM⟩ := fa_ob hM
    refine g_iast X fs_186 (fn_186 hN) ej7 d_Mod_node_38 (fun w8 ew8 => ?_)
    have hM := fa_let_to hM ew8
    refine g_aload_n X 0 rfl d_Mod_node_39 ?_
    refine g_get X ck_10 fo_181 (fn_181 hN) 7 (by decide) wd_1749 rfl (fr_181_7 rfl hT) d_Mod_node_40 ?_
    refine g_aload_n X 0 rfl d_Mod_node_43 ?_
    refine g_get X ck_10 fo_181 (fn_181 hN) 16 (by decide) wd_1758 rfl (fa_fvI rfl) d_Mod_node_44 ?_
    refine g_iload X 4 rfl d_Mod_node_47 ?_
    obtain ⟨j9, ej9, hM⟩ := fa_ob hM
    refine g_iast X fs_187 (fn_187 hN) ej9 d_Mod_node_49 (fun w10 ew10 => ?_)
    have hM := fa_let_to hM ew10
    refine g_aload_n X 0 rfl d_Mod_node_50 ?_
    refine g_get X ck_10 fo_181 (fn_181 hN) 8 (by decide) wd_1750 rfl (fr_181_8 rfl hT) d_Mod_node_51 ?_
    refine g_aload_n X 0 rfl d_Mod_node_54 ?_
    refine g_get X ck_10 fo_181 (fn_181 hN) 16 (by decide) wd_1758 rfl (fa_fvI rfl) d_Mod_node_55 ?_
    refine g_iload X 5 rfl d_Mod_node_58 ?_
    obtain ⟨j11, ej11, hM⟩ := fa_ob hM
    refine g_iast X fs_188 (fn_188 hN) ej11 d_Mod_node_60 (fun w12 ew12 => ?_)
    have hM := fa_let_to hM ew12
    refine g_aload_n X 0 rfl d_Mod_node_61 ?_
    refine g_dup X rfl d_Mod_node_62 ?_
    refine g_get X ck_10 fo_181 (fn_181 hN) 16 (by decide) wd_1758 rfl (fa_fvI rfl) d_Mod_node_63 ?_
    refine g_iconst X d_Mod_node_66 ?_
    refine g_iadd X d_Mod_node_67 ?_
    refine g_put X ck_10 fo_181 (fn_181 hN) 16 (z := ((w12 181 16) + 1)) (by decide) wd_1758 rfl (fa_fvI' rfl) rfl rfl rfl d_Mod_node_68 (fun w13 ew13 => ?_)
    have hM := fa_let_to hM ew13
    refine g_aload_n X 0 rfl d_Mod_node_71 ?_
    refine g_get X ck_10 fo_181 (fn_181 hN) 16 (by decide) wd_1758 rfl (fa_fvI rfl) d_Mod_node_72 ?_
    refine g_iconst X d_Mod_node_75 ?_
    refine g_isub X d_Mod_node_76 ?_
    cases hM
    exact g_iret X d_Mod_node_77
  · have hM := fa_ifb_t hM hc2
    refine g_iconst X d_Mod_node_7 ?_
    cases hM
    exact g_iret X d_Mod_node_8
theorem d_Mod_begins_0 : decode prog_12_method_21_code 0 = .ok (.aload_n 0, 1) := by decide +kernel
theorem d_Mod_begins_1 : decode prog_12_method_21_code 1 = .ok (.invokevirtual 41, 3) := by decide +kernel
theorem d_Mod_begins_4 : decode prog_12_method_21_code 4 = .ok (.ifCond .eq 5, 3) := by decide +kernel
theorem d_Mod_begins_7 : decode prog_12_method_21_code 7 = .ok (.iconst 0, 1) := by decide +kernel
theorem d_Mod_begins_8 : decode prog_12_method_21_code 8 = .ok (.ireturn, 1) := by decide +kernel
theorem d_Mod_begins_9 : decode prog_12_method_21_code 9 = .ok (.aload_n 0, 1) := by decide +kernel
theorem d_Mod_begins_10 : decode prog_12_method_21_code 10 = .ok (.getfield 106, 3) := by decide +kernel
theorem d_Mod_begins_13 : decode prog_12_method_21_code 13 = .ok (.bipush 100, 2) := by decide +kernel
theorem d_Mod_begins_15 : decode prog_12_method_21_code 15 = .ok (.if_icmp .ne 11, 3) := by decide +kernel
theorem d_Mod_begins_18 : decode prog_12_method_21_code 18 = .ok (.aload_n 0, 1) := by decide +kernel
theorem d_Mod_begins_19 : decode prog_12_method_21_code 19 = .ok (.iload_n 1, 1) := by decide +kernel
theorem d_Mod_begins_20 : decode prog_12_method_21_code 20 = .ok (.invokevirtual 49, 3) := by decide +kernel
theorem d_Mod_begins_23 : decode prog_12_method_21_code 23 = .ok (.istore_n 2, 1) := by decide +kernel
theorem d_Mod_begins_24 : decode prog_12_method_21_code 24 = .ok (.iconst 0, 1) := by decide +kernel
theorem d_Mod_begins_25 : decode prog_12_method_21_code 25 = .ok (.ireturn, 1) := by decide +kernel
theorem d_Mod_begins_26 : decode prog_12_method_21_code 26 = .ok (.aload_n 0, 1) := by decide +kernel
theorem d_Mod_begins_27 : decode prog_12_method_21_code 27 = .ok (.dup, 1) := by decide +kernel
theorem d_Mod_begins_28 : decode prog_12_method_21_code 28 = .ok (.getfield 106, 3) := by decide +kernel
theorem d_Mod_begins_31 : decode prog_12_method_21_code 31 = .ok (.iconst 1, 1) := by decide +kernel
theorem d_Mod_begins_32 : decode prog_12_method_21_code 32 = .ok (.iadd, 1) := by decide +kernel
theorem d_Mod_begins_33 : decode prog_12_method_21_code 33 = .ok (.putfield 106, 3) := by decide +kernel
theorem d_Mod_begins_36 : decode prog_12_method_21_code 36 = .ok (.iconst 1, 1) := by decide +kernel
theorem d_Mod_begins_37 : decode prog_12_method_21_code 37 = .ok (.ireturn, 1) := by decide +kernel
def fm_Mod_begins (a1 : Int) (w : fa_W) : Bool × fa_W :=
  if fm_Mod_hasFailed w = true then
  (false, w)
  else
  (if fa_wr (w 181 35) = 100 then
  (fa_l2 (fm_Mod_fails a1 w) fun v6 w7 =>
  (false, w7))
  else
  (fa_let (fa_st w 181 35 ((w 181 35) + 1)) fun w4 =>
  (true, w4)))
set_option maxHeartbeats 4000000 in
set_option maxRecDepth 100000 in
theorem c_Mod_begins {l : Launch} {D : va_G} {b : Nat} {aC : Nat → ClassId} {H0 : Heap} {N T : Nat} (hN : fa_NM ≤ N) (hT : fa_TM ≤ T) (a1 : Int)  (w : fa_W) (r : Bool × fa_W) (hM : fm_Mod_begins a1 w = r) : fa_MC l D b aC H0 N T y_Mod_begins prog_12_method_21_code 3 ((Option.some Jvm.ClassFile.FieldType.boolean)) (1) [.ref (b + 181), .int (fa_I a1)] w (some (.int (fa_I (fa_bi r.1)))) r.2 := by
  refine fa_enter (lv := [(0, .ref (b + 181)), (1, .int (fa_I a1))]) (by decide +kernel) (Nat.le_of_ble_eq_true rfl) rfl (fun hh hle hnm X => ?_)
  unfold fm_Mod_begins at hM
  refine g_aload_n X 0 rfl d_Mod_begins_0 ?_
  refine g_callV_i X ck_10 fo_181 (fn_181 hN) rfl mi_Mod_hasFailed (c_Mod_hasFailed hN hT w _ rfl) wd_1494 rfl (Nat.le_trans (Nat.le_of_ble_eq_true rfl) hle) (st := []) (Nat.le_of_ble_eq_true rfl) rfl d_Mod_begins_1 ?_
  refine g_ifb_eq X 9 d_Mod_begins_4 (by decide) (fun hc2 => ?_) (fun hc2 => ?_)
  · have hM := fa_ifb_f hM hc2
    refine g_aload_n X 0 rfl d_Mod_begins_9 ?_
    refine g_get X ck_10 fo_181 (fn_181 hN) 35 (by decide) wd_1776 rfl (fa_fvI rfl) d_Mod_begins_10 ?_
    refine g_bipush X (by decide) d_Mod_begins_13 ?_
    refine g_icmp_ne X 26 d_Mod_begins_15 (by decide) (fun hc3 => ?_) (fun hc3 => ?_)
    · have hM := fa_if_f hM hc3
      refine g_aload_n X 0 rfl d_Mod_begins_26 ?_
      refine g_dup X rfl d_Mod_begins_27 ?_
      refine g_get X ck_10 fo_181 (fn_181 hN) 35 (by decide) wd_1776 rfl (fa_fvI rfl) d_Mod_begins_28 ?_
      refine g_iconst X d_Mod_begins_31 ?_
      refine g_iadd X d_Mod_begins_32 ?_
      refine g_put X ck_10 fo_181 (fn_181 hN) 35 (z := ((w 181 35) + 1)) (by decide) wd_1776 rfl (fa_fvI' rfl) rfl rfl rfl d_Mod_begins_33 (fun w4 ew4 => ?_)
      have hM := fa_let_to hM ew4
      refine g_iconst X d_Mod_begins_36 ?_
      subst hM
      exact g_zret X rfl d_Mod_begins_37
    · have hM := fa_if_t hM hc3
      refine g_aload_n X 0 rfl d_Mod_begins_18 ?_
      refine g_iload_n X 1 rfl d_Mod_begins_19 ?_
      obtain ⟨⟨v6, w7⟩, e5⟩ : ∃ q, fm_Mod_fails a1 w = q := ⟨_, rfl⟩
      have hM := fa_l2_e hM e5
      refine g_callV_i X ck_10 fo_181 (fn_181 hN) rfl mi_Mod_fails (c_Mod_fails hN hT a1 w _ e5) wd_1517 rfl (Nat.le_trans (Nat.le_of_ble_eq_true rfl) hle) (st := []) (Nat.le_of_ble_eq_true rfl) rfl d_Mod_begins_20 ?_
      refine g_istorec_n X [(2, .int (fa_I v6)), (0, .ref (b + 181)), (1, .int (fa_I a1))] d_Mod_begins_23 (by decide) rfl ?_
      refine g_iconst X d_Mod_begins_24 ?_
      subst hM
      exact g_zret X rfl d_Mod_begins_25
  · have hM := fa_ifb_t hM hc2
    refine g_iconst X d_Mod_begins_7 ?_
    subst hM
    exact g_zret X rfl d_Mod_begins_8
theorem d_Mod_opens_0 : decode prog_12_method_22_code 0 = .ok (.aload_n 0, 1) := by decide +kernel
theorem d_Mod_opens_1 : decode prog_12_method_22_code 1 = .ok (.invokevirtual 41, 3) := by decide +kernel
theorem d_Mod_opens_4 : decode prog_12_method_22_code 4 = .ok (.ifCond .eq 5, 3) := by decide +kernel
theorem d_Mod_opens_7 : decode prog_12_method_22_code 7 = .ok (.iconst 0, 1) := by decide +kernel
theorem d_Mod_opens_8 : decode prog_12_method_22_code 8 = .ok (.ireturn, 1) := by decide +kernel
theorem d_Mod_opens_9 : decode prog_12_method_22_code 9 = .ok (.aload_n 0, 1) := by decide +kernel
theorem d_Mod_opens_10 : decode prog_12_method_22_code 10 = .ok (.getfield 109, 3) := by decide +kernel
theorem d_Mod_opens_13 : decode prog_12_method_22_code 13 = .ok (.bipush 20, 2) := by decide +kernel
theorem d_Mod_opens_15 : decode prog_12_method_22_code 15 = .ok (.if_icmp .ne 18, 3) := by decide +kernel
theorem d_Mod_opens_18 : decode prog_12_method_22_code 18 = .ok (.aload_n 0, 1) := by decide +kernel
theorem d_Mod_opens_19 : decode prog_12_method_22_code 19 = .ok (.getfield 112, 3) := by decide +kernel
theorem d_Mod_opens_22 : decode prog_12_method_22_code 22 = .ok (.ifCond .ne 11, 3) := by decide +kernel
theorem d_Mod_opens_25 : decode prog_12_method_22_code 25 = .ok (.aload_n 0, 1) := by decide +kernel
theorem d_Mod_opens_26 : decode prog_12_method_22_code 26 = .ok (.iload_n 1, 1) := by decide +kernel
theorem d_Mod_opens_27 : decode prog_12_method_22_code 27 = .ok (.invokevirtual 49, 3) := by decide +kernel
theorem d_Mod_opens_30 : decode prog_12_method_22_code 30 = .ok (.istore_n 2, 1) := by decide +kernel
theorem d_Mod_opens_31 : decode prog_12_method_22_code 31 = .ok (.iconst 0, 1) := by decide +kernel
theorem d_Mod_opens_32 : decode prog_12_method_22_code 32 = .ok (.ireturn, 1) := by decide +kernel
theorem d_Mod_opens_33 : decode prog_12_method_22_code 33 = .ok (.aload_n 0, 1) := by decide +kernel
theorem d_Mod_opens_34 : decode prog_12_method_22_code 34 = .ok (.dup, 1) := by decide +kernel
theorem d_Mod_opens_35 : decode prog_12_method_22_code 35 = .ok (.getfield 109, 3) := by decide +kernel
theorem d_Mod_opens_38 : decode prog_12_method_22_code 38 = .ok (.iconst 1, 1) := by decide +kernel
theorem d_Mod_opens_39 : decode prog_12_method_22_code 39 = .ok (.iadd, 1) := by decide +kernel
theorem d_Mod_opens_40 : decode prog_12_method_22_code 40 = .ok (.putfield 109, 3) := by decide +kernel
theorem d_Mod_opens_43 : decode prog_12_method_22_code 43 = .ok (.iconst 1, 1) := by decide +kernel
theorem d_Mod_opens_44 : decode prog_12_method_22_code 44 = .ok (.ireturn, 1) := by decide +kernel
def fm_Mod_opens_j33 (a1 : Int) (w : fa_W) : Bool × fa_W :=
  fa_let (fa_st w 181 29 ((w 181 29) + 1)) fun w4 =>
  (true, w4)
set_option maxHeartbeats 4000000 in
set_option maxRecDepth 100000 in
theorem c_Mod_opens_j33 {p : Program} {l : Launch} {e : Env} {s : State} {m : MethodId} {args : Array Value} {below : List Frame} {meth : Method} {c : Code} {hh : Nat} {D : va_G} {b : Nat} {aC : Nat → ClassId} {H0 : Heap} {N T : Nat} (X : fa_GX p s m args meth c prog_12_method_22_code 3 ((Option.some Jvm.ClassFile.FieldType.boolean)) y_Mod_opens.cls D b aC) (hle : 1 ≤ hh) (hN : fa_NM ≤ N) (hT : fa_TM ≤ T) (a1 : Int) {r : Bool × fa_W}  : ∀ (w : fa_W) (_ : fm_Mod_opens_j33 a1 w = r), fa_GJ p l e (fa_rm hh) s m args below meth c 0 0 (MQ below (fa_Qc D b aC H0 N T (some (.int (fa_I (fa_bi r.1)))) r.2) args s 0 0 (fun q => b ≤ q)) D b aC H0 N T 3 w 33 [(0, .ref (b + 181))] [] := by
  intro w hM
  unfold fm_Mod_opens_j33 at hM
  refine g_aload_n X 0 rfl d_Mod_opens_33 ?_
  refine g_dup X rfl d_Mod_opens_34 ?_
  refine g_get X ck_10 fo_181 (fn_181 hN) 29 (by decide) wd_1770 rfl (fa_fvI rfl) d_Mod_opens_35 ?_
  refine g_iconst X d_Mod_opens_38 ?_
  refine g_iadd X d_Mod_opens_39 ?_
  refine g_put X ck_10 fo_181 (fn_181 hN) 29 (z := ((w 181 29) + 1)) (by decide) wd_1770 rfl (fa_fvI' rfl) rfl rfl rfl d_Mod_opens_40 (fun w4 ew4 => ?_)
  have hM := fa_let_to hM ew4
  refine g_iconst X d_Mod_opens_43 ?_
  subst hM
  exact g_zret X rfl d_Mod_opens_44
def fm_Mod_opens (a1 : Int) (w : fa_W) : Bool × fa_W :=
  if fm_Mod_hasFailed w = true then
  (false, w)
  else
  (if fa_wr (w 181 29) = 20 then
  (if decide (w 181 31 ≠ 0) = true then
  fm_Mod_opens_j33 a1 w
  else
  (fa_l2 (fm_Mod_fails a1 w) fun v7 w8 =>
  (false, w8)))
  else
  fm_Mod_opens_j33 a1 w)
set_option maxHeartbeats 4000000 in
set_option maxRecDepth 100000 in
theorem c_Mod_opens {l : Launch} {D : va_G} {b : Nat} {aC : Nat → ClassId} {H0 : Heap} {N T : Nat} (hN : fa_NM ≤ N) (hT : fa_TM ≤ T) (a1 : Int)  (w : fa_W) (r : Bool × fa_W) (hM : fm_Mod_opens a1 w = r) : fa_MC l D b aC H0 N T y_Mod_opens prog_12_method_22_code 3 ((Option.some Jvm.ClassFile.FieldType.boolean)) (1) [.ref (b + 181), .int (fa_I a1)] w (some (.int (fa_I (fa_bi r.1)))) r.2 := by
  refine fa_enter (lv := [(0, .ref (b + 181)), (1, .int (fa_I a1))]) (by decide +kernel) (Nat.le_of_ble_eq_true rfl) rfl (fun hh hle hnm X => ?_)
  unfold fm_Mod_opens at hM
  refine g_aload_n X 0 rfl d_Mod_opens_0 ?_
  refine g_callV_i X ck_10 fo_181 (fn_181 hN) rfl mi_Mod_hasFailed (c_Mod_hasFailed hN hT w _ rfl) wd_1494 rfl (Nat.le_trans (Nat.le_of_ble_eq_true rfl) hle) (st := []) (Nat.le_of_ble_eq_true rfl) rfl d_Mod_opens_1 ?_
  refine g_ifb_eq X 9 d_Mod_opens_4 (by decide) (fun hc2 => ?_) (fun hc2 => ?_)
  · have hM := fa_ifb_f hM hc2
    refine g_aload_n X 0 rfl d_Mod_opens_9 ?_
    refine g_get X ck_10 fo_181 (fn_181 hN) 29 (by decide) wd_1770 rfl (fa_fvI rfl) d_Mod_opens_10 ?_
    refine g_bipush X (by decide) d_Mod_opens_13 ?_
    refine g_icmp_ne X 33 d_Mod_opens_15 (by decide) (fun hc3 => ?_) (fun hc3 => ?_)
    · have hM := fa_if_f hM hc3
      exact g_lv [0] rfl (c_Mod_opens_j33 X hle hN hT a1    _ hM)
    · have hM := fa_if_t hM hc3
      refine g_aload_n X 0 rfl d_Mod_opens_18 ?_
      refine g_get X ck_10 fo_181 (fn_181 hN) 31 (by decide) wd_1772 rfl (fa_fvB rfl) d_Mod_opens_19 ?_
      refine g_ifb_ne X 33 d_Mod_opens_22 (by decide) (fun hc5 => ?_) (fun hc5 => ?_)
      · have hM := fa_ifb_t hM hc5
        exact g_lv [0] rfl (c_Mod_opens_j33 X hle hN hT a1    _ hM)
      · have hM := fa_ifb_f hM hc5
        refine g_aload_n X 0 rfl d_Mod_opens_25 ?_
        refine g_iload_n X 1 rfl d_Mod_opens_26 ?_
        obtain ⟨⟨v7, w8⟩, e6⟩ : ∃ q, fm_Mod_fails a1 w = q := ⟨_, rfl⟩
        have hM := fa_l2_e hM e6
        refine g_callV_i X ck_10 fo_181 (fn_181 hN) rfl mi_Mod_fails (c_Mod_fails hN hT a1 w _ e6) wd_1517 rfl (Nat.le_trans (Nat.le_of_ble_eq_true rfl) hle) (st := []) (Nat.le_of_ble_eq_true rfl) rfl d_Mod_opens_27 ?_
        refine g_istorec_n X [(2, .int (fa_I v7)), (0, .ref (b + 181)), (1, .int (fa_I a1))] d_Mod_opens_30 (by decide) rfl ?_
        refine g_iconst X d_Mod_opens_31 ?_
        subst hM
        exact g_zret X rfl d_Mod_opens_32
  · have hM := fa_ifb_t hM hc2
    refine g_iconst X d_Mod_opens_7 ?_
    subst hM
    exact g_zret X rfl d_Mod_opens_8
theorem d_Mod_sees_0 : decode prog_12_method_23_code 0 = .ok (.aload_n 0, 1) := by decide +kernel
theorem d_Mod_sees_1 : decode prog_12_method_23_code 1 = .ok (.getfield 116, 3) := by decide +kernel
theorem d_Mod_sees_4 : decode prog_12_method_23_code 4 = .ok (.iload_n 1, 1) := by decide +kernel
theorem d_Mod_sees_5 : decode prog_12_method_23_code 5 = .ok (.iload_n 2, 1) := by decide +kernel
theorem d_Mod_sees_6 : decode prog_12_method_23_code 6 = .ok (.iastore, 1) := by decide +kernel
theorem d_Mod_sees_7 : decode prog_12_method_23_code 7 = .ok (.aload_n 0, 1) := by decide +kernel
theorem d_Mod_sees_8 : decode prog_12_method_23_code 8 = .ok (.getfield 119, 3) := by decide +kernel
theorem d_Mod_sees_11 : decode prog_12_method_23_code 11 = .ok (.iload_n 1, 1) := by decide +kernel
theorem d_Mod_sees_12 : decode prog_12_method_23_code 12 = .ok (.iload_n 3, 1) := by decide +kernel
theorem d_Mod_sees_13 : decode prog_12_method_23_code 13 = .ok (.iastore, 1) := by decide +kernel
theorem d_Mod_sees_14 : decode prog_12_method_23_code 14 = .ok (.aload_n 0, 1) := by decide +kernel
theorem d_Mod_sees_15 : decode prog_12_method_23_code 15 = .ok (.getfield 122, 3) := by decide +kernel
theorem d_Mod_sees_18 : decode prog_12_method_23_code 18 = .ok (.aload_n 0, 1) := by decide +kernel
theorem d_Mod_sees_19 : decode prog_12_method_23_code 19 = .ok (.getfield 125, 3) := by decide +kernel
theorem d_Mod_sees_22 : decode prog_12_method_23_code 22 = .ok (.iload_n 1, 1) := by decide +kernel
theorem d_Mod_sees_23 : decode prog_12_method_23_code 23 = .ok (.iastore, 1) := by decide +kernel
theorem d_Mod_sees_24 : decode prog_12_method_23_code 24 = .ok (.aload_n 0, 1) := by decide +kernel
theorem d_Mod_sees_25 : decode prog_12_method_23_code 25 = .ok (.dup, 1) := by decide +kernel
theorem d_Mod_sees_26 : decode prog_12_method_23_code 26 = .ok (.getfield 125, 3) := by decide +kernel
theorem d_Mod_sees_29 : decode prog_12_method_23_code 29 = .ok (.iconst 1, 1) := by decide +kernel
theorem d_Mod_sees_30 : decode prog_12_method_23_code 30 = .ok (.iadd, 1) := by decide +kernel
theorem d_Mod_sees_31 : decode prog_12_method_23_code 31 = .ok (.putfield 125, 3) := by decide +kernel
theorem d_Mod_sees_34 : decode prog_12_method_23_code 34 = .ok (.iload_n 1, 1) := by decide +kernel
theorem d_Mod_sees_35 : decode prog_12_method_23_code 35 = .ok (.ireturn, 1) := by decide +kernel
def fm_Mod_sees (a1 : Int) (a2 : Int) (a3 : Int) (w : fa_W) : Option (Int × fa_W) :=
  (fa_ix a1 124).bind fun j1 =>
  fa_let (fa_st w 192 j1 a2) fun w2 =>
  (fa_ix a1 124).bind fun j3 =>
  fa_let (fa_st w2 193 j3 a3) fun w4 =>
  (fa_ix (w4 181 33) 124).bind fun j5 =>
  fa_let (fa_st w4 198 j5 a1) fun w6 =>
  fa_let (fa_st w6 181 33 ((w6 181 33) + 1)) fun w7 =>
  some (a1, w7)
set_option maxHeartbeats 4000000 in
set_option maxRecDepth 100000 in
theorem c_Mod_sees {l : Launch} {D : va_G} {b : Nat} {aC : Nat → ClassId} {H0 : Heap} {N T : Nat} (hN : fa_NM ≤ N) (hT : fa_TM ≤ T) (a1 : Int) (a2 : Int) (a3 : Int)  (w : fa_W) (r : Int × fa_W) (hM : fm_Mod_sees a1 a2 a3 w = some r) : fa_MC l D b aC H0 N T y_Mod_sees prog_12_method_23_code 4 ((Option.some Jvm.ClassFile.FieldType.int)) (0) [.ref (b + 181), .int (fa_I a1), .int (fa_I a2), .int (fa_I a3)] w (some (.int (fa_I r.1))) r.2 := by
  refine fa_enter (lv := [(0, .ref (b + 181)), (1, .int (fa_I a1)), (2, .int (fa_I a2)), (3, .int (fa_I a3))]) (by decide +kernel) (Nat.le_of_ble_eq_true rfl) rfl (fun hh hle hnm X => ?_)
  unfold fm_Mod_sees at hM
  refine g_aload_n X 0 rfl d_Mod_sees_0 ?_
  refine g_get X ck_10 fo_181 (fn_181 hN) 12 (by decide) wd_1754 rfl (fr_181_12 rfl hT) d_Mod_sees_1 ?_
  refine g_iload_n X 1 rfl d_Mod_sees_4 ?_
  refine g_iload_n X 2 rfl d_Mod_sees_5 ?_
  obtain ⟨j1, ej1, hM⟩ := fa_ob hM
  refine g_iast X fs_192 (fn_192 hN) ej1 d_Mod_sees_6 (fun w2 ew2 => ?_)
  have hM := fa_let_to hM ew2
  refine g_aload_n X 0 rfl d_Mod_sees_7 ?_
  refine g_get X ck_10 fo_181 (fn_181 hN) 13 (by decide) wd_1755 rfl (fr_181_13 rfl hT) d_Mod_sees_8 ?_
  refine g_iload_n X 1 rfl d_Mod_sees_11 ?_
  refine g_iload_n X 3 rfl d_Mod_sees_12 ?_
  obtain ⟨j3, ej3, hM⟩ := fa_ob hM
  refine g_iast X fs_193 (fn_193 hN) ej3 d_Mod_sees_13 (fun w4 ew4 => ?_)
  have hM := fa_let_to hM ew4
  refine g_aload_n X 0 rfl d_Mod_sees_14 ?_
  refine g_get X ck_10 fo_181 (fn_181 hN) 32 (by decide) wd_1773 rfl (fr_181_32 rfl hT) d_Mod_sees_15 ?_
  refine g_aload_n X 0 rfl d_Mod_sees_18 ?_
  refine g_get X ck_10 fo_181 (fn_181 hN) 33 (by decide) wd_1774 rfl (fa_fvI rfl) d_Mod_sees_19 ?_
  refine g_iload_n X 1 rfl d_Mod_sees_22 ?_
  obtain ⟨j5, ej5, hM⟩ := fa_ob hM
  refine g_iast X fs_198 (fn_198 hN) ej5 d_Mod_sees_23 (fun w6 ew6 => ?_)
  have hM := fa_let_to hM ew6
  refine g_aload_n X 0 rfl d_Mod_sees_24 ?_
  refine g_dup X rfl d_Mod_sees_25 ?_
  refine g_get X ck_10 fo_181 (fn_181 hN) 33 (by decide) wd_1774 rfl (fa_fvI rfl) d_Mod_sees_26 ?_
  refine g_iconst X d_Mod_sees_29 ?_
  refine g_iadd X d_Mod_sees_30 ?_
  refine g_put X ck_10 fo_181 (fn_181 hN) 33 (z := ((w6 181 33) + 1)) (by decide) wd_1774 rfl (fa_fvI' rfl) rfl rfl rfl d_Mod_sees_31 (fun w7 ew7 => ?_)
  have hM := fa_let_to hM ew7
  refine g_iload_n X 1 rfl d_Mod_sees_34 ?_
  cases hM
  exact g_iret X d_Mod_sees_35
theorem d_Mod_isAtomAhead_0 : decode prog_12_method_31_code 0 = .ok (.aload_n 0, 1) := by decide +kernel
theorem d_Mod_isAtomAhead_1 : decode prog_12_method_31_code 1 = .ok (.invokevirtual 78, 3) := by decide +kernel
theorem d_Mod_isAtomAhead_4 : decode prog_12_method_31_code 4 = .ok (.istore_n 1, 1) := by decide +kernel
theorem d_Mod_isAtomAhead_5 : decode prog_12_method_31_code 5 = .ok (.iload_n 1, 1) := by decide +kernel
theorem d_Mod_isAtomAhead_6 : decode prog_12_method_31_code 6 = .ok (.getstatic 75, 3) := by decide +kernel
theorem d_Mod_isAtomAhead_9 : decode prog_12_method_31_code 9 = .ok (.if_icmp .eq 36, 3) := by decide +kernel
theorem d_Mod_isAtomAhead_12 : decode prog_12_method_31_code 12 = .ok (.iload_n 1, 1) := by decide +kernel
theorem d_Mod_isAtomAhead_13 : decode prog_12_method_31_code 13 = .ok (.ifCond .eq 10, 3) := by decide +kernel
theorem d_Mod_isAtomAhead_16 : decode prog_12_method_31_code 16 = .ok (.iload_n 1, 1) := by decide +kernel
theorem d_Mod_isAtomAhead_17 : decode prog_12_method_31_code 17 = .ok (.invokestatic 85, 3) := by decide +kernel
theorem d_Mod_isAtomAhead_20 : decode prog_12_method_31_code 20 = .ok (.ifCond .eq 25, 3) := by decide +kernel
theorem d_Mod_isAtomAhead_23 : decode prog_12_method_31_code 23 = .ok (.aload_n 0, 1) := by decide +kernel
theorem d_Mod_isAtomAhead_24 : decode prog_12_method_31_code 24 = .ok (.bipush 40, 2) := by decide +kernel
theorem d_Mod_isAtomAhead_26 : decode prog_12_method_31_code 26 = .ok (.bipush 40, 2) := by decide +kernel
theorem d_Mod_isAtomAhead_28 : decode prog_12_method_31_code 28 = .ok (.invokevirtual 27, 3) := by decide +kernel
theorem d_Mod_isAtomAhead_31 : decode prog_12_method_31_code 31 = .ok (.ifCond .ne 14, 3) := by decide +kernel
theorem d_Mod_isAtomAhead_34 : decode prog_12_method_31_code 34 = .ok (.aload_n 0, 1) := by decide +kernel
theorem d_Mod_isAtomAhead_35 : decode prog_12_method_31_code 35 = .ok (.bipush 48, 2) := by decide +kernel
theorem d_Mod_isAtomAhead_37 : decode prog_12_method_31_code 37 = .ok (.bipush 57, 2) := by decide +kernel
theorem d_Mod_isAtomAhead_39 : decode prog_12_method_31_code 39 = .ok (.invokevirtual 27, 3) := by decide +kernel
theorem d_Mod_isAtomAhead_42 : decode prog_12_method_31_code 42 = .ok (.ifCond .eq 7, 3) := by decide +kernel
theorem d_Mod_isAtomAhead_45 : decode prog_12_method_31_code 45 = .ok (.iconst 1, 1) := by decide +kernel
theorem d_Mod_isAtomAhead_46 : decode prog_12_method_31_code 46 = .ok (.goto 4, 3) := by decide +kernel
theorem d_Mod_isAtomAhead_49 : decode prog_12_method_31_code 49 = .ok (.iconst 0, 1) := by decide +kernel
theorem d_Mod_isAtomAhead_50 : decode prog_12_method_31_code 50 = .ok (.ireturn, 1) := by decide +kernel
def fm_Mod_isAtomAhead_j23 (w : fa_W) : Option (Bool × fa_W) :=
  (fm_Mod_isAt 40 40 w).bind fun v7 =>
  if v7 = true then
  some (true, w)
  else
  ((fm_Mod_isAt 48 57 w).bind fun v10 =>
  if v10 = true then
  some (true, w)
  else
  some (false, w))
set_option maxHeartbeats 4000000 in
set_option maxRecDepth 100000 in
theorem c_Mod_isAtomAhead_j23 {p : Program} {l : Launch} {e : Env} {s : State} {m : MethodId} {args : Array Value} {below : List Frame} {meth : Method} {c : Code} {hh : Nat} {D : va_G} {b : Nat} {aC : Nat → ClassId} {H0 : Heap} {N T : Nat} (X : fa_GX p s m args meth c prog_12_method_31_code 2 ((Option.some Jvm.ClassFile.FieldType.boolean)) y_Mod_isAtomAhead.cls D b aC) (hle : 3 ≤ hh) (hN : fa_NM ≤ N) (hT : fa_TM ≤ T) {r : Bool × fa_W}  : ∀ (w : fa_W) (_ : fm_Mod_isAtomAhead_j23 w = some r), fa_GJ p l e (fa_rm hh) s m args below meth c 0 0 (MQ below (fa_Qc D b aC H0 N T (some (.int (fa_I (fa_bi r.1)))) r.2) args s 0 0 (fun q => b ≤ q)) D b aC H0 N T 2 w 23 [(0, .ref (b + 181))] [] := by
  intro w hM
  unfold fm_Mod_isAtomAhead_j23 at hM
  refine g_aload_n X 0 rfl d_Mod_isAtomAhead_23 ?_
  refine g_bipush X (by decide) d_Mod_isAtomAhead_24 ?_
  refine g_bipush X (by decide) d_Mod_isAtomAhead_26 ?_
  obtain ⟨v7, e6, hM⟩ := fa_ob hM
  refine g_callV_i X ck_10 fo_181 (fn_181 hN) rfl mi_Mod_isAt (c_Mod_isAt hN hT 40 40 w _ e6) wd_1506 rfl (Nat.le_trans (Nat.le_of_ble_eq_true rfl) hle) (st := []) (Nat.le_of_ble_eq_true rfl) rfl d_Mod_isAtomAhead_28 ?_
  refine g_ifb_ne X 45 d_Mod_isAtomAhead_31 (by decide) (fun hc8 => ?_) (fun hc8 => ?_)
  · have hM := fa_ifb_t hM hc8
    refine g_iconst X d_Mod_isAtomAhead_45 ?_
    refine g_goto X 50 d_Mod_isAtomAhead_46 (by decide) ?_
    cases hM
    exact g_zret X rfl d_Mod_isAtomAhead_50
  · have hM := fa_ifb_f hM hc8
    refine g_aload_n X 0 rfl d_Mod_isAtomAhead_34 ?_
    refine g_bipush X (by decide) d_Mod_isAtomAhead_35 ?_
    refine g_bipush X (by decide) d_Mod_isAtomAhead_37 ?_
    obtain ⟨v10, e9, hM⟩ := fa_ob hM
    refine g_callV_i X ck_10 fo_181 (fn_181 hN) rfl mi_Mod_isAt (c_Mod_isAt hN hT 48 57 w _ e9) wd_1506 rfl (Nat.le_trans (Nat.le_of_ble_eq_true rfl) hle) (st := []) (Nat.le_of_ble_eq_true rfl) rfl d_Mod_isAtomAhead_39 ?_
    refine g_ifb_eq X 49 d_Mod_isAtomAhead_42 (by decide) (fun hc11 => ?_) (fun hc11 => ?_)
    · have hM := fa_ifb_f hM hc11
      refine g_iconst X d_Mod_isAtomAhead_49 ?_
      cases hM
      exact g_zret X rfl d_Mod_isAtomAhead_50
    · have hM := fa_ifb_t hM hc11
      refine g_iconst X d_Mod_isAtomAhead_45 ?_
      refine g_goto X 50 d_Mod_isAtomAhead_46 (by decide) ?_
      cases hM
      exact g_zret X rfl d_Mod_isAtomAhead_50
def fm_Mod_isAtomAhead (w : fa_W) : Option (Bool × fa_W) :=
  fa_bd (fm_Mod_wordAhead w) fun v2 w3 =>
  if fa_wr v2 = 82408 then
  some (true, w3)
  else
  (if fa_wr v2 = 0 then
  fm_Mod_isAtomAhead_j23 w3
  else
  (if fm_Mod_isOwn v2 w3 = true then
  fm_Mod_isAtomAhead_j23 w3
  else
  some (true, w3)))
set_option maxHeartbeats 4000000 in
set_option maxRecDepth 100000 in
theorem c_Mod_isAtomAhead {l : Launch} {D : va_G} {b : Nat} {aC : Nat → ClassId} {H0 : Heap} {N T : Nat} (hN : fa_NM ≤ N) (hT : fa_TM ≤ T)   (w : fa_W) (r : Bool × fa_W) (hM : fm_Mod_isAtomAhead w = some r) : fa_MC l D b aC H0 N T y_Mod_isAtomAhead prog_12_method_31_code 2 ((Option.some Jvm.ClassFile.FieldType.boolean)) (3) [.ref (b + 181)] w (some (.int (fa_I (fa_bi r.1)))) r.2 := by
  refine fa_enter (lv := [(0, .ref (b + 181))]) (by decide +kernel) (Nat.le_of_ble_eq_true rfl) rfl (fun hh hle hnm X => ?_)
  unfold fm_Mod_isAtomAhead at hM
  refine g_aload_n X 0 rfl d_Mod_isAtomAhead_0 ?_
  obtain ⟨v2, w3, e1, hM⟩ := fa_obd hM
  refine g_callV_i X ck_10 fo_181 (fn_181 hN) rfl mi_Mod_wordAhead (c_Mod_wordAhead hN hT w _ e1) wd_1498 rfl (Nat.le_trans (Nat.le_of_ble_eq_true rfl) hle) (st := []) (Nat.le_of_ble_eq_true rfl) rfl d_Mod_isAtomAhead_1 ?_
  refine g_istorec_n X [(1, .int (fa_I v2)), (0, .ref (b + 181))] d_Mod_isAtomAhead_4 (by decide) rfl ?_
  refine g_iload_n X 0 rfl d_Mod_isAtomAhead_5 ?_
  refine g_gets X (n := "DEADS") (v := 82408) (z := 82408) (by decide) wd_1546 rfl d_Mod_isAtomAhead_6 ?_
  refine g_icmp_eq X 45 d_Mod_isAtomAhead_9 (by decide) (fun hc4 => ?_) (fun hc4 => ?_)
  · have hM := fa_if_t hM hc4
    refine g_iconst X d_Mod_isAtomAhead_45 ?_
    refine g_goto X 50 d_Mod_isAtomAhead_46 (by decide) ?_
    cases hM
    exact g_zret X rfl d_Mod_isAtomAhead_50
  · have hM := fa_if_f hM hc4
    refine g_iload_n X 0 rfl d_Mod_isAtomAhead_12 ?_
    refine g_if_eq X 23 d_Mod_isAtomAhead_13 (by decide) (fun hc5 => ?_) (fun hc5 => ?_)
    · have hM := fa_if_t hM hc5
      exact g_lv [1] rfl (c_Mod_isAtomAhead_j23 X hle hN hT    _ hM)
    · have hM := fa_if_f hM hc5
      refine g_iload_n X 0 rfl d_Mod_isAtomAhead_16 ?_
      refine g_callS_i X mi_Mod_isOwn (c_Mod_isOwn hN hT v2 w3 _ rfl) wd_1533 rfl (Nat.le_trans (Nat.le_of_ble_eq_true rfl) hle) (st := []) (Nat.le_of_ble_eq_true rfl) rfl d_Mod_isAtomAhead_17 ?_
      refine g_ifb_eq X 45 d_Mod_isAtomAhead_20 (by decide) (fun hc13 => ?_) (fun hc13 => ?_)
      · have hM := fa_ifb_f hM hc13
        refine g_iconst X d_Mod_isAtomAhead_45 ?_
        refine g_goto X 50 d_Mod_isAtomAhead_46 (by decide) ?_
        cases hM
        exact g_zret X rfl d_Mod_isAtomAhead_50
      · have hM := fa_ifb_t hM hc13
        exact g_lv [1] rfl (c_Mod_isAtomAhead_j23 X hle hN hT    _ hM)
theorem d_Mod_number_0 : decode prog_12_method_34_code 0 = .ok (.aload_n 0, 1) := by decide +kernel
theorem d_Mod_number_1 : decode prog_12_method_34_code 1 = .ok (.getfield 18, 3) := by decide +kernel
theorem d_Mod_number_4 : decode prog_12_method_34_code 4 = .ok (.istore_n 1, 1) := by decide +kernel
theorem d_Mod_number_5 : decode prog_12_method_34_code 5 = .ok (.iconst 0, 1) := by decide +kernel
theorem d_Mod_number_6 : decode prog_12_method_34_code 6 = .ok (.istore_n 2, 1) := by decide +kernel
theorem d_Mod_number_7 : decode prog_12_method_34_code 7 = .ok (.aload_n 0, 1) := by decide +kernel
theorem d_Mod_number_8 : decode prog_12_method_34_code 8 = .ok (.bipush 48, 2) := by decide +kernel
theorem d_Mod_number_10 : decode prog_12_method_34_code 10 = .ok (.bipush 57, 2) := by decide +kernel
theorem d_Mod_number_12 : decode prog_12_method_34_code 12 = .ok (.invokevirtual 27, 3) := by decide +kernel
theorem d_Mod_number_15 : decode prog_12_method_34_code 15 = .ok (.ifCond .eq 44, 3) := by decide +kernel
theorem d_Mod_number_18 : decode prog_12_method_34_code 18 = .ok (.aload_n 0, 1) := by decide +kernel
theorem d_Mod_number_19 : decode prog_12_method_34_code 19 = .ok (.getfield 18, 3) := by decide +kernel
theorem d_Mod_number_22 : decode prog_12_method_34_code 22 = .ok (.iload_n 1, 1) := by decide +kernel
theorem d_Mod_number_23 : decode prog_12_method_34_code 23 = .ok (.isub, 1) := by decide +kernel
theorem d_Mod_number_24 : decode prog_12_method_34_code 24 = .ok (.iconst 4, 1) := by decide +kernel
theorem d_Mod_number_25 : decode prog_12_method_34_code 25 = .ok (.if_icmp .ge 21, 3) := by decide +kernel
theorem d_Mod_number_28 : decode prog_12_method_34_code 28 = .ok (.bipush 10, 2) := by decide +kernel
theorem d_Mod_number_30 : decode prog_12_method_34_code 30 = .ok (.iload_n 2, 1) := by decide +kernel
theorem d_Mod_number_31 : decode prog_12_method_34_code 31 = .ok (.imul, 1) := by decide +kernel
theorem d_Mod_number_32 : decode prog_12_method_34_code 32 = .ok (.aload_n 0, 1) := by decide +kernel
theorem d_Mod_number_33 : decode prog_12_method_34_code 33 = .ok (.getfield 24, 3) := by decide +kernel
theorem d_Mod_number_36 : decode prog_12_method_34_code 36 = .ok (.aload_n 0, 1) := by decide +kernel
theorem d_Mod_number_37 : decode prog_12_method_34_code 37 = .ok (.getfield 18, 3) := by decide +kernel
theorem d_Mod_number_40 : decode prog_12_method_34_code 40 = .ok (.baload, 1) := by decide +kernel
theorem d_Mod_number_41 : decode prog_12_method_34_code 41 = .ok (.iadd, 1) := by decide +kernel
theorem d_Mod_number_42 : decode prog_12_method_34_code 42 = .ok (.bipush 48, 2) := by decide +kernel
theorem d_Mod_number_44 : decode prog_12_method_34_code 44 = .ok (.isub, 1) := by decide +kernel
theorem d_Mod_number_45 : decode prog_12_method_34_code 45 = .ok (.istore_n 2, 1) := by decide +kernel
theorem d_Mod_number_46 : decode prog_12_method_34_code 46 = .ok (.aload_n 0, 1) := by decide +kernel
theorem d_Mod_number_47 : decode prog_12_method_34_code 47 = .ok (.dup, 1) := by decide +kernel
theorem d_Mod_number_48 : decode prog_12_method_34_code 48 = .ok (.getfield 18, 3) := by decide +kernel
theorem d_Mod_number_51 : decode prog_12_method_34_code 51 = .ok (.iconst 1, 1) := by decide +kernel
theorem d_Mod_number_52 : decode prog_12_method_34_code 52 = .ok (.iadd, 1) := by decide +kernel
theorem d_Mod_number_53 : decode prog_12_method_34_code 53 = .ok (.putfield 18, 3) := by decide +kernel
theorem d_Mod_number_56 : decode prog_12_method_34_code 56 = .ok (.goto (-49), 3) := by decide +kernel
theorem d_Mod_number_59 : decode prog_12_method_34_code 59 = .ok (.aload_n 0, 1) := by decide +kernel
theorem d_Mod_number_60 : decode prog_12_method_34_code 60 = .ok (.getfield 18, 3) := by decide +kernel
theorem d_Mod_number_63 : decode prog_12_method_34_code 63 = .ok (.iload_n 1, 1) := by decide +kernel
theorem d_Mod_number_64 : decode prog_12_method_34_code 64 = .ok (.isub, 1) := by decide +kernel
theorem d_Mod_number_65 : decode prog_12_method_34_code 65 = .ok (.iconst 4, 1) := by decide +kernel
theorem d_Mod_number_66 : decode prog_12_method_34_code 66 = .ok (.if_icmp .le 9, 3) := by decide +kernel
theorem d_Mod_number_69 : decode prog_12_method_34_code 69 = .ok (.aload_n 0, 1) := by decide +kernel
theorem d_Mod_number_70 : decode prog_12_method_34_code 70 = .ok (.iload_n 1, 1) := by decide +kernel
theorem d_Mod_number_71 : decode prog_12_method_34_code 71 = .ok (.invokevirtual 49, 3) := by decide +kernel
theorem d_Mod_number_74 : decode prog_12_method_34_code 74 = .ok (.ireturn, 1) := by decide +kernel
theorem d_Mod_number_75 : decode prog_12_method_34_code 75 = .ok (.aload_n 0, 1) := by decide +kernel
theorem d_Mod_number_76 : decode prog_12_method_34_code 76 = .ok (.iload_n 1, 1) := by decide +kernel
theorem d_Mod_number_77 : decode prog_12_method_34_code 77 = .ok (.invokevirtual 143, 3) := by decide +kernel
theorem d_Mod_number_80 : decode prog_12_method_34_code 80 = .ok (.ifCond .eq 15, 3) := by decide +kernel
theorem d_Mod_number_83 : decode prog_12_method_34_code 83 = .ok (.aload_n 0, 1) := by decide +kernel
theorem d_Mod_number_84 : decode prog_12_method_34_code 84 = .ok (.iconst 0, 1) := by decide +kernel
theorem d_Mod_number_85 : decode prog_12_method_34_code 85 = .ok (.iconst (-1), 1) := by decide +kernel
theorem d_Mod_number_86 : decode prog_12_method_34_code 86 = .ok (.iconst (-1), 1) := by decide +kernel
theorem d_Mod_number_87 : decode prog_12_method_34_code 87 = .ok (.iconst (-1), 1) := by decide +kernel
theorem d_Mod_number_88 : decode prog_12_method_34_code 88 = .ok (.iload_n 2, 1) := by decide +kernel
theorem d_Mod_number_89 : decode prog_12_method_34_code 89 = .ok (.invokevirtual 172, 3) := by decide +kernel
theorem d_Mod_number_92 : decode prog_12_method_34_code 92 = .ok (.goto 4, 3) := by decide +kernel
theorem d_Mod_number_95 : decode prog_12_method_34_code 95 = .ok (.iconst (-1), 1) := by decide +kernel
theorem d_Mod_number_96 : decode prog_12_method_34_code 96 = .ok (.ireturn, 1) := by decide +kernel
def fm_Mod_number_j46 (k7 : Int → Int → fa_W → Option (Int × fa_W)) (x1 : Int) (x2 : Int) (w : fa_W) : Option (Int × fa_W) :=
  fa_let (fa_st w 181 26 ((w 181 26) + 1)) fun w17 =>
  k7 x1 x2 w17
set_option maxHeartbeats 4000000 in
set_option maxRecDepth 100000 in
theorem c_Mod_number_j46 {p : Program} {l : Launch} {e : Env} {s : State} {m : MethodId} {args : Array Value} {below : List Frame} {meth : Method} {c : Code} {hh : Nat} {D : va_G} {b : Nat} {aC : Nat → ClassId} {H0 : Heap} {N T : Nat} (X : fa_GX p s m args meth c prog_12_method_34_code 3 ((Option.some Jvm.ClassFile.FieldType.int)) y_Mod_number.cls D b aC) (hle : 2 ≤ hh) (hN : fa_NM ≤ N) (hT : fa_TM ≤ T) {r : Int × fa_W} (k7 : Int → Int → fa_W → Option (Int × fa_W)) (K7 : ∀ (x1 : Int) (x2 : Int) (w : fa_W), k7 x1 x2 w = some r → fa_GJ p l e (fa_rm hh) s m args below meth c 0 0 (MQ below (fa_Qc D b aC H0 N T (some (.int (fa_I r.1))) r.2) args s 0 0 (fun q => b ≤ q)) D b aC H0 N T 3 w 7 [(0, .ref (b + 181)), (1, .int (fa_I x1)), (2, .int (fa_I x2))] []) : ∀ (x1 : Int) (x2 : Int) (w : fa_W) (_ : fm_Mod_number_j46 k7 x1 x2 w = some r), fa_GJ p l e (fa_rm hh) s m args below meth c 0 0 (MQ below (fa_Qc D b aC H0 N T (some (.int (fa_I r.1))) r.2) args s 0 0 (fun q => b ≤ q)) D b aC H0 N T 3 w 46 [(0, .ref (b + 181)), (1, .int (fa_I x1)), (2, .int (fa_I x2))] [] := by
  intro x1 x2 w hM
  unfold fm_Mod_number_j46 at hM
  refine g_aload_n X 0 rfl d_Mod_number_46 ?_
  refine g_dup X rfl d_Mod_number_47 ?_
  refine g_get X ck_10 fo_181 (fn_181 hN) 26 (by decide) wd_1767 rfl (fa_fvI rfl) d_Mod_number_48 ?_
  refine g_iconst X d_Mod_number_51 ?_
  refine g_iadd X d_Mod_number_52 ?_
  refine g_put X ck_10 fo_181 (fn_181 hN) 26 (z := ((w 181 26) + 1)) (by decide) wd_1767 rfl (fa_fvI' rfl) rfl rfl rfl d_Mod_number_53 (fun w17 ew17 => ?_)
  have hM := fa_let_to hM ew17
  refine g_goto X 7 d_Mod_number_56 (by decide) ?_
  exact g_lv [0, 1, 2] rfl (K7 _ _ _ hM)
def fm_Mod_number_l7  : Nat → Int → Int → fa_W → Option (Int × fa_W)
  | 0, _, _, _ => none
  | n + 1, x1, x2, w => (fm_Mod_isAt 48 57 w).bind fun v3 =>
  if v3 = true then
  (if 4 ≤ fa_wr ((w 181 26) - x1) then
  fm_Mod_number_j46 (fun x1 x2 w9 => fm_Mod_number_l7 n x1 x2 w9) x1 x2 w
  else
  ((fa_ix (w 181 26) 40000).bind fun j18 =>
  fa_let (((10 * x2) + (w 196 j18)) - 48) fun x2_19 =>
  fm_Mod_number_j46 (fun x1 x2 w9 => fm_Mod_number_l7 n x1 x2 w9) x1 x2_19 w))
  else
  (if fa_wr ((w 181 26) - x1) ≤ 4 then
  (fa_l2 (fm_Mod_begins x1 w) fun v7 w8 =>
  if v7 = true then
  (fa_bd (fm_Mod_node 0 (-1) (-1) (-1) x2 w8) fun v11 w12 =>
  some (v11, w12))
  else
  some ((-1), w8))
  else
  (fa_l2 (fm_Mod_fails x1 w) fun v14 w15 =>
  some (v14, w15)))
set_option maxHeartbeats 4000000 in
set_option maxRecDepth 100000 in
theorem c_Mod_number_l7 {p : Program} {l : Launch} {e : Env} {s : State} {m : MethodId} {args : Array Value} {below : List Frame} {meth : Method} {c : Code} {hh : Nat} {D : va_G} {b : Nat} {aC : Nat → ClassId} {H0 : Heap} {N T : Nat} (X : fa_GX p s m args meth c prog_12_method_34_code 3 ((Option.some Jvm.ClassFile.FieldType.int)) y_Mod_number.cls D b aC) (hle : 2 ≤ hh) (hN : fa_NM ≤ N) (hT : fa_TM ≤ T) {r : Int × fa_W}  : ∀ (n : Nat) (x1 : Int) (x2 : Int) (w : fa_W), fm_Mod_number_l7 n x1 x2 w = some r → fa_GJ p l e (fa_rm hh) s m args below meth c 0 0 (MQ below (fa_Qc D b aC H0 N T (some (.int (fa_I r.1))) r.2) args s 0 0 (fun q => b ≤ q)) D b aC H0 N T 3 w 7 [(0, .ref (b + 181)), (1, .int (fa_I x1)), (2, .int (fa_I x2))] [] := by
  intro n
  induction n with
  | zero => intro x1 x2 w hM; exact fa_no hM
  | succ n ih =>
    intro x1 x2 w hM
    rw [fm_Mod_number_l7] at hM
    refine g_aload_n X 0 rfl d_Mod_number_7 ?_
    refine g_bipush X (by decide) d_Mod_number_8 ?_
    refine g_bipush X (by decide) d_Mod_number_10 ?_
    obtain ⟨v3, e2, hM⟩ := fa_ob hM
    refine g_callV_i X ck_10 fo_181 (fn_181 hN) rfl mi_Mod_isAt (c_Mod_isAt hN hT 48 57 w _ e2) wd_1506 rfl (Nat.le_trans (Nat.le_of_ble_eq_true rfl) hle) (st := []) (Nat.le_of_ble_eq_true rfl) rfl d_Mod_number_12 ?_
    refine g_ifb_eq X 59 d_Mod_number_15 (by decide) (fun hc4 => ?_) (fun hc4 => ?_)
    · have hM := fa_ifb_f hM hc4
      refine g_aload_n X 0 rfl d_Mod_number_59 ?_
      refine g_get X ck_10 fo_181 (fn_181 hN) 26 (by decide) wd_1767 rfl (fa_fvI rfl) d_Mod_number_60 ?_
      refine g_iload_n X 1 rfl d_Mod_number_63 ?_
      refine g_isub X d_Mod_number_64 ?_
      refine g_iconst X d_Mod_number_65 ?_
      refine g_icmp_le X 75 d_Mod_number_66 (by decide) (fun hc5 => ?_) (fun hc5 => ?_)
      · have hM := fa_if_t hM hc5
        refine g_aload_n X 0 rfl d_Mod_number_75 ?_
        refine g_iload_n X 1 rfl d_Mod_number_76 ?_
        obtain ⟨⟨v7, w8⟩, e6⟩ : ∃ q, fm_Mod_begins x1 w = q := ⟨_, rfl⟩
        have hM := fa_l2_e hM e6
        refine g_callV_i X ck_10 fo_181 (fn_181 hN) rfl mi_Mod_begins (c_Mod_begins hN hT x1 w _ e6) wd_1568 rfl (Nat.le_trans (Nat.le_of_ble_eq_true rfl) hle) (st := []) (Nat.le_of_ble_eq_true rfl) rfl d_Mod_number_77 ?_
        refine g_ifb_eq X 95 d_Mod_number_80 (by decide) (fun hc9 => ?_) (fun hc9 => ?_)
        · have hM := fa_ifb_f hM hc9
          refine g_iconst X d_Mod_number_95 ?_
          cases hM
          exact g_iret X d_Mod_number_96
        · have hM := fa_ifb_t hM hc9
          refine g_aload_n X 0 rfl d_Mod_number_83 ?_
          refine g_iconst X d_Mod_number_84 ?_
          refine g_iconst X d_Mod_number_85 ?_
          refine g_iconst X d_Mod_number_86 ?_
          refine g_iconst X d_Mod_number_87 ?_
          refine g_iload_n X 2 rfl d_Mod_number_88 ?_
          obtain ⟨v11, w12, e10, hM⟩ := fa_obd hM
          refine g_callV_i X ck_10 fo_181 (fn_181 hN) rfl mi_Mod_node (c_Mod_node hN hT 0 (-1) (-1) (-1) x2 w8 _ e10) wd_1576 rfl (Nat.le_trans (Nat.le_of_ble_eq_true rfl) hle) (st := []) (Nat.le_of_ble_eq_true rfl) rfl d_Mod_number_89 ?_
          refine g_goto X 96 d_Mod_number_92 (by decide) ?_
          cases hM
          exact g_iret X d_Mod_number_96
      · have hM := fa_if_f hM hc5
        refine g_aload_n X 0 rfl d_Mod_number_69 ?_
        refine g_iload_n X 1 rfl d_Mod_number_70 ?_
        obtain ⟨⟨v14, w15⟩, e13⟩ : ∃ q, fm_Mod_fails x1 w = q := ⟨_, rfl⟩
        have hM := fa_l2_e hM e13
        refine g_callV_i X ck_10 fo_181 (fn_181 hN) rfl mi_Mod_fails (c_Mod_fails hN hT x1 w _ e13) wd_1517 rfl (Nat.le_trans (Nat.le_of_ble_eq_true rfl) hle) (st := []) (Nat.le_of_ble_eq_true rfl) rfl d_Mod_number_71 ?_
        cases hM
        exact g_iret X d_Mod_number_74
    · have hM := fa_ifb_t hM hc4
      refine g_aload_n X 0 rfl d_Mod_number_18 ?_
      refine g_get X ck_10 fo_181 (fn_181 hN) 26 (by decide) wd_1767 rfl (fa_fvI rfl) d_Mod_number_19 ?_
      refine g_iload_n X 1 rfl d_Mod_number_22 ?_
      refine g_isub X d_Mod_number_23 ?_
      refine g_iconst X d_Mod_number_24 ?_
      refine g_icmp_ge X 46 d_Mod_number_25 (by decide) (fun hc16 => ?_) (fun hc16 => ?_)
      · have hM := fa_if_t hM hc16
        exact g_lv [0, 1, 2] rfl (c_Mod_number_j46 X hle hN hT  (fun x1 x2 w9 => fm_Mod_number_l7 n x1 x2 w9) (fun _ _ _ h => ih _ _ _ h)  _ _ _ hM)
      · have hM := fa_if_f hM hc16
        refine g_bipush X (by decide) d_Mod_number_28 ?_
        refine g_iload_n X 2 rfl d_Mod_number_30 ?_
        refine g_imul X d_Mod_number_31 ?_
        refine g_aload_n X 0 rfl d_Mod_number_32 ?_
        refine g_get X ck_10 fo_181 (fn_181 hN) 22 (by decide) wd_1764 rfl (fr_181_22 rfl hT) d_Mod_number_33 ?_
        refine g_aload_n X 0 rfl d_Mod_number_36 ?_
        refine g_get X ck_10 fo_181 (fn_181 hN) 26 (by decide) wd_1767 rfl (fa_fvI rfl) d_Mod_number_37 ?_
        obtain ⟨j18, ej18, hM⟩ := fa_ob hM
        refine g_bald X fs_196 (fn_196 hN) ej18 d_Mod_number_40 ?_
        refine g_iadd X d_Mod_number_41 ?_
        refine g_bipush X (by decide) d_Mod_number_42 ?_
        refine g_isub X d_Mod_number_44 ?_
        refine g_istore_n X (fun x2_19 => [(2, .int (fa_I x2_19)), (0, .ref (b + 181)), (1, .int (fa_I x1))]) d_Mod_number_45 (by decide) (fun _ => rfl) (fun x2_19 ex2_19 => ?_)
        have hM := fa_let_to hM ex2_19
        exact g_lv [1, 2, 0] rfl (c_Mod_number_j46 X hle hN hT  (fun x1 x2 w9 => fm_Mod_number_l7 n x1 x2 w9) (fun _ _ _ h => ih _ _ _ h)  _ _ _ hM)
def fm_Mod_number (w : fa_W) : Option (Int × fa_W) :=
  fa_let (w 181 26) fun x1_1 =>
  fm_Mod_number_l7 fa_FU x1_1 0 w
set_option maxHeartbeats 4000000 in
set_option maxRecDepth 100000 in
theorem c_Mod_number {l : Launch} {D : va_G} {b : Nat} {aC : Nat → ClassId} {H0 : Heap} {N T : Nat} (hN : fa_NM ≤ N) (hT : fa_TM ≤ T)   (w : fa_W) (r : Int × fa_W) (hM : fm_Mod_number w = some r) : fa_MC l D b aC H0 N T y_Mod_number prog_12_method_34_code 3 ((Option.some Jvm.ClassFile.FieldType.int)) (2) [.ref (b + 181)] w (some (.int (fa_I r.1))) r.2 := by
  refine fa_enter (lv := [(0, .ref (b + 181))]) (by decide +kernel) (Nat.le_of_ble_eq_true rfl) rfl (fun hh hle hnm X => ?_)
  unfold fm_Mod_number at hM
  refine g_aload_n X 0 rfl d_Mod_number_0 ?_
  refine g_get X ck_10 fo_181 (fn_181 hN) 26 (by decide) wd_1767 rfl (fa_fvI rfl) d_Mod_number_1 ?_
  refine g_istore_n X (fun x1_1 => [(1, .int (fa_I x1_1)), (0, .ref (b + 181))]) d_Mod_number_4 (by decide) (fun _ => rfl) (fun x1_1 ex1_1 => ?_)
  have hM := fa_let_to hM ex1_1
  refine g_iconst X d_Mod_number_5 ?_
  refine g_istorec_n X [(2, .int (fa_I 0)), (1, .int (fa_I x1_1)), (0, .ref (b + 181))] d_Mod_number_6 (by decide) rfl ?_
  exact g_lv [2, 1, 0] rfl (c_Mod_number_l7 X hle hN hT   fa_FU _ _ _ hM)
