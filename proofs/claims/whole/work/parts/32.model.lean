theorem d_Mod_renumbers_0 : decode prog_12_method_40_code 0 = .ok (.iconst 0, 1) := by decide +kernel
theorem d_Mod_renumbers_1 : decode prog_12_method_40_code 1 = .ok (.istore_n 1, 1) := by decide +kernel
theorem d_Mod_renumbers_2 : decode prog_12_method_40_code 2 = .ok (.iload_n 1, 1) := by decide +kernel
theorem d_Mod_renumbers_3 : decode prog_12_method_40_code 3 = .ok (.aload_n 0, 1) := by decide +kernel
theorem d_Mod_renumbers_4 : decode prog_12_method_40_code 4 = .ok (.getfield 91, 3) := by decide +kernel
theorem d_Mod_renumbers_7 : decode prog_12_method_40_code 7 = .ok (.if_icmp .ge 61, 3) := by decide +kernel
theorem d_Mod_renumbers_10 : decode prog_12_method_40_code 10 = .ok (.aload_n 0, 1) := by decide +kernel
theorem d_Mod_renumbers_11 : decode prog_12_method_40_code 11 = .ok (.getfield 88, 3) := by decide +kernel
theorem d_Mod_renumbers_14 : decode prog_12_method_40_code 14 = .ok (.iload_n 1, 1) := by decide +kernel
theorem d_Mod_renumbers_15 : decode prog_12_method_40_code 15 = .ok (.iaload, 1) := by decide +kernel
theorem d_Mod_renumbers_16 : decode prog_12_method_40_code 16 = .ok (.iconst 1, 1) := by decide +kernel
theorem d_Mod_renumbers_17 : decode prog_12_method_40_code 17 = .ok (.if_icmp .ne 19, 3) := by decide +kernel
theorem d_Mod_renumbers_20 : decode prog_12_method_40_code 20 = .ok (.aload_n 0, 1) := by decide +kernel
theorem d_Mod_renumbers_21 : decode prog_12_method_40_code 21 = .ok (.getfield 94, 3) := by decide +kernel
theorem d_Mod_renumbers_24 : decode prog_12_method_40_code 24 = .ok (.iload_n 1, 1) := by decide +kernel
theorem d_Mod_renumbers_25 : decode prog_12_method_40_code 25 = .ok (.aload_n 0, 1) := by decide +kernel
theorem d_Mod_renumbers_26 : decode prog_12_method_40_code 26 = .ok (.aload_n 0, 1) := by decide +kernel
theorem d_Mod_renumbers_27 : decode prog_12_method_40_code 27 = .ok (.getfield 94, 3) := by decide +kernel
theorem d_Mod_renumbers_30 : decode prog_12_method_40_code 30 = .ok (.iload_n 1, 1) := by decide +kernel
theorem d_Mod_renumbers_31 : decode prog_12_method_40_code 31 = .ok (.iaload, 1) := by decide +kernel
theorem d_Mod_renumbers_32 : decode prog_12_method_40_code 32 = .ok (.invokevirtual 227, 3) := by decide +kernel
theorem d_Mod_renumbers_35 : decode prog_12_method_40_code 35 = .ok (.iastore, 1) := by decide +kernel
theorem d_Mod_renumbers_36 : decode prog_12_method_40_code 36 = .ok (.aload_n 0, 1) := by decide +kernel
theorem d_Mod_renumbers_37 : decode prog_12_method_40_code 37 = .ok (.getfield 88, 3) := by decide +kernel
theorem d_Mod_renumbers_40 : decode prog_12_method_40_code 40 = .ok (.iload_n 1, 1) := by decide +kernel
theorem d_Mod_renumbers_41 : decode prog_12_method_40_code 41 = .ok (.iaload, 1) := by decide +kernel
theorem d_Mod_renumbers_42 : decode prog_12_method_40_code 42 = .ok (.iconst 4, 1) := by decide +kernel
theorem d_Mod_renumbers_43 : decode prog_12_method_40_code 43 = .ok (.if_icmp .ne 19, 3) := by decide +kernel
theorem d_Mod_renumbers_46 : decode prog_12_method_40_code 46 = .ok (.aload_n 0, 1) := by decide +kernel
theorem d_Mod_renumbers_47 : decode prog_12_method_40_code 47 = .ok (.getfield 94, 3) := by decide +kernel
theorem d_Mod_renumbers_50 : decode prog_12_method_40_code 50 = .ok (.iload_n 1, 1) := by decide +kernel
theorem d_Mod_renumbers_51 : decode prog_12_method_40_code 51 = .ok (.aload_n 0, 1) := by decide +kernel
theorem d_Mod_renumbers_52 : decode prog_12_method_40_code 52 = .ok (.aload_n 0, 1) := by decide +kernel
theorem d_Mod_renumbers_53 : decode prog_12_method_40_code 53 = .ok (.getfield 94, 3) := by decide +kernel
theorem d_Mod_renumbers_56 : decode prog_12_method_40_code 56 = .ok (.iload_n 1, 1) := by decide +kernel
theorem d_Mod_renumbers_57 : decode prog_12_method_40_code 57 = .ok (.iaload, 1) := by decide +kernel
theorem d_Mod_renumbers_58 : decode prog_12_method_40_code 58 = .ok (.invokevirtual 224, 3) := by decide +kernel
theorem d_Mod_renumbers_61 : decode prog_12_method_40_code 61 = .ok (.iastore, 1) := by decide +kernel
theorem d_Mod_renumbers_62 : decode prog_12_method_40_code 62 = .ok (.iinc 1 1, 3) := by decide +kernel
theorem d_Mod_renumbers_65 : decode prog_12_method_40_code 65 = .ok (.goto (-63), 3) := by decide +kernel
theorem d_Mod_renumbers_68 : decode prog_12_method_40_code 68 = .ok (.bipush 6, 2) := by decide +kernel
theorem d_Mod_renumbers_70 : decode prog_12_method_40_code 70 = .ok (.istore_n 1, 1) := by decide +kernel
theorem d_Mod_renumbers_71 : decode prog_12_method_40_code 71 = .ok (.iload_n 1, 1) := by decide +kernel
theorem d_Mod_renumbers_72 : decode prog_12_method_40_code 72 = .ok (.bipush 6, 2) := by decide +kernel
theorem d_Mod_renumbers_74 : decode prog_12_method_40_code 74 = .ok (.aload_n 0, 1) := by decide +kernel
theorem d_Mod_renumbers_75 : decode prog_12_method_40_code 75 = .ok (.getfield 140, 3) := by decide +kernel
theorem d_Mod_renumbers_78 : decode prog_12_method_40_code 78 = .ok (.iadd, 1) := by decide +kernel
theorem d_Mod_renumbers_79 : decode prog_12_method_40_code 79 = .ok (.if_icmp .ge 62, 3) := by decide +kernel
theorem d_Mod_renumbers_82 : decode prog_12_method_40_code 82 = .ok (.aload_n 0, 1) := by decide +kernel
theorem d_Mod_renumbers_83 : decode prog_12_method_40_code 83 = .ok (.iload_n 1, 1) := by decide +kernel
theorem d_Mod_renumbers_84 : decode prog_12_method_40_code 84 = .ok (.invokevirtual 224, 3) := by decide +kernel
theorem d_Mod_renumbers_87 : decode prog_12_method_40_code 87 = .ok (.istore_n 2, 1) := by decide +kernel
theorem d_Mod_renumbers_88 : decode prog_12_method_40_code 88 = .ok (.aload_n 0, 1) := by decide +kernel
theorem d_Mod_renumbers_89 : decode prog_12_method_40_code 89 = .ok (.getfield 166, 3) := by decide +kernel
theorem d_Mod_renumbers_92 : decode prog_12_method_40_code 92 = .ok (.iload_n 2, 1) := by decide +kernel
theorem d_Mod_renumbers_93 : decode prog_12_method_40_code 93 = .ok (.aload_n 0, 1) := by decide +kernel
theorem d_Mod_renumbers_94 : decode prog_12_method_40_code 94 = .ok (.getfield 166, 3) := by decide +kernel
theorem d_Mod_renumbers_97 : decode prog_12_method_40_code 97 = .ok (.iload_n 1, 1) := by decide +kernel
theorem d_Mod_renumbers_98 : decode prog_12_method_40_code 98 = .ok (.iaload, 1) := by decide +kernel
theorem d_Mod_renumbers_99 : decode prog_12_method_40_code 99 = .ok (.iastore, 1) := by decide +kernel
theorem d_Mod_renumbers_100 : decode prog_12_method_40_code 100 = .ok (.aload_n 0, 1) := by decide +kernel
theorem d_Mod_renumbers_101 : decode prog_12_method_40_code 101 = .ok (.getfield 156, 3) := by decide +kernel
theorem d_Mod_renumbers_104 : decode prog_12_method_40_code 104 = .ok (.iload_n 2, 1) := by decide +kernel
theorem d_Mod_renumbers_105 : decode prog_12_method_40_code 105 = .ok (.aload_n 0, 1) := by decide +kernel
theorem d_Mod_renumbers_106 : decode prog_12_method_40_code 106 = .ok (.aload_n 0, 1) := by decide +kernel
theorem d_Mod_renumbers_107 : decode prog_12_method_40_code 107 = .ok (.getfield 156, 3) := by decide +kernel
theorem d_Mod_renumbers_110 : decode prog_12_method_40_code 110 = .ok (.iload_n 1, 1) := by decide +kernel
theorem d_Mod_renumbers_111 : decode prog_12_method_40_code 111 = .ok (.iaload, 1) := by decide +kernel
theorem d_Mod_renumbers_112 : decode prog_12_method_40_code 112 = .ok (.invokevirtual 230, 3) := by decide +kernel
theorem d_Mod_renumbers_115 : decode prog_12_method_40_code 115 = .ok (.iastore, 1) := by decide +kernel
theorem d_Mod_renumbers_116 : decode prog_12_method_40_code 116 = .ok (.aload_n 0, 1) := by decide +kernel
theorem d_Mod_renumbers_117 : decode prog_12_method_40_code 117 = .ok (.getfield 116, 3) := by decide +kernel
theorem d_Mod_renumbers_120 : decode prog_12_method_40_code 120 = .ok (.iload_n 2, 1) := by decide +kernel
theorem d_Mod_renumbers_121 : decode prog_12_method_40_code 121 = .ok (.aload_n 0, 1) := by decide +kernel
theorem d_Mod_renumbers_122 : decode prog_12_method_40_code 122 = .ok (.getfield 116, 3) := by decide +kernel
theorem d_Mod_renumbers_125 : decode prog_12_method_40_code 125 = .ok (.iload_n 1, 1) := by decide +kernel
theorem d_Mod_renumbers_126 : decode prog_12_method_40_code 126 = .ok (.iaload, 1) := by decide +kernel
theorem d_Mod_renumbers_127 : decode prog_12_method_40_code 127 = .ok (.iastore, 1) := by decide +kernel
theorem d_Mod_renumbers_128 : decode prog_12_method_40_code 128 = .ok (.aload_n 0, 1) := by decide +kernel
theorem d_Mod_renumbers_129 : decode prog_12_method_40_code 129 = .ok (.getfield 119, 3) := by decide +kernel
theorem d_Mod_renumbers_132 : decode prog_12_method_40_code 132 = .ok (.iload_n 2, 1) := by decide +kernel
theorem d_Mod_renumbers_133 : decode prog_12_method_40_code 133 = .ok (.iload_n 2, 1) := by decide +kernel
theorem d_Mod_renumbers_134 : decode prog_12_method_40_code 134 = .ok (.iastore, 1) := by decide +kernel
theorem d_Mod_renumbers_135 : decode prog_12_method_40_code 135 = .ok (.iinc 1 1, 3) := by decide +kernel
theorem d_Mod_renumbers_138 : decode prog_12_method_40_code 138 = .ok (.goto (-67), 3) := by decide +kernel
theorem d_Mod_renumbers_141 : decode prog_12_method_40_code 141 = .ok (.iconst 0, 1) := by decide +kernel
theorem d_Mod_renumbers_142 : decode prog_12_method_40_code 142 = .ok (.istore_n 1, 1) := by decide +kernel
theorem d_Mod_renumbers_143 : decode prog_12_method_40_code 143 = .ok (.iload_n 1, 1) := by decide +kernel
theorem d_Mod_renumbers_144 : decode prog_12_method_40_code 144 = .ok (.aload_n 0, 1) := by decide +kernel
theorem d_Mod_renumbers_145 : decode prog_12_method_40_code 145 = .ok (.getfield 179, 3) := by decide +kernel
theorem d_Mod_renumbers_148 : decode prog_12_method_40_code 148 = .ok (.if_icmp .ge 31, 3) := by decide +kernel
theorem d_Mod_renumbers_151 : decode prog_12_method_40_code 151 = .ok (.aload_n 0, 1) := by decide +kernel
theorem d_Mod_renumbers_152 : decode prog_12_method_40_code 152 = .ok (.getfield 119, 3) := by decide +kernel
theorem d_Mod_renumbers_155 : decode prog_12_method_40_code 155 = .ok (.bipush 24, 2) := by decide +kernel
theorem d_Mod_renumbers_157 : decode prog_12_method_40_code 157 = .ok (.iload_n 1, 1) := by decide +kernel
theorem d_Mod_renumbers_158 : decode prog_12_method_40_code 158 = .ok (.iadd, 1) := by decide +kernel
theorem d_Mod_renumbers_159 : decode prog_12_method_40_code 159 = .ok (.aload_n 0, 1) := by decide +kernel
theorem d_Mod_renumbers_160 : decode prog_12_method_40_code 160 = .ok (.aload_n 0, 1) := by decide +kernel
theorem d_Mod_renumbers_161 : decode prog_12_method_40_code 161 = .ok (.getfield 119, 3) := by decide +kernel
theorem d_Mod_renumbers_164 : decode prog_12_method_40_code 164 = .ok (.bipush 24, 2) := by decide +kernel
theorem d_Mod_renumbers_166 : decode prog_12_method_40_code 166 = .ok (.iload_n 1, 1) := by decide +kernel
theorem d_Mod_renumbers_167 : decode prog_12_method_40_code 167 = .ok (.iadd, 1) := by decide +kernel
theorem d_Mod_renumbers_168 : decode prog_12_method_40_code 168 = .ok (.iaload, 1) := by decide +kernel
theorem d_Mod_renumbers_169 : decode prog_12_method_40_code 169 = .ok (.invokevirtual 230, 3) := by decide +kernel
theorem d_Mod_renumbers_172 : decode prog_12_method_40_code 172 = .ok (.iastore, 1) := by decide +kernel
theorem d_Mod_renumbers_173 : decode prog_12_method_40_code 173 = .ok (.iinc 1 1, 3) := by decide +kernel
theorem d_Mod_renumbers_176 : decode prog_12_method_40_code 176 = .ok (.goto (-33), 3) := by decide +kernel
theorem d_Mod_renumbers_179 : decode prog_12_method_40_code 179 = .ok (.iconst 0, 1) := by decide +kernel
theorem d_Mod_renumbers_180 : decode prog_12_method_40_code 180 = .ok (.istore_n 1, 1) := by decide +kernel
theorem d_Mod_renumbers_181 : decode prog_12_method_40_code 181 = .ok (.iload_n 1, 1) := by decide +kernel
theorem d_Mod_renumbers_182 : decode prog_12_method_40_code 182 = .ok (.aload_n 0, 1) := by decide +kernel
theorem d_Mod_renumbers_183 : decode prog_12_method_40_code 183 = .ok (.getfield 197, 3) := by decide +kernel
theorem d_Mod_renumbers_186 : decode prog_12_method_40_code 186 = .ok (.if_icmp .ge 25, 3) := by decide +kernel
theorem d_Mod_renumbers_189 : decode prog_12_method_40_code 189 = .ok (.aload_n 0, 1) := by decide +kernel
theorem d_Mod_renumbers_190 : decode prog_12_method_40_code 190 = .ok (.getfield 200, 3) := by decide +kernel
theorem d_Mod_renumbers_193 : decode prog_12_method_40_code 193 = .ok (.iload_n 1, 1) := by decide +kernel
theorem d_Mod_renumbers_194 : decode prog_12_method_40_code 194 = .ok (.aload_n 0, 1) := by decide +kernel
theorem d_Mod_renumbers_195 : decode prog_12_method_40_code 195 = .ok (.aload_n 0, 1) := by decide +kernel
theorem d_Mod_renumbers_196 : decode prog_12_method_40_code 196 = .ok (.getfield 200, 3) := by decide +kernel
theorem d_Mod_renumbers_199 : decode prog_12_method_40_code 199 = .ok (.iload_n 1, 1) := by decide +kernel
theorem d_Mod_renumbers_200 : decode prog_12_method_40_code 200 = .ok (.iaload, 1) := by decide +kernel
theorem d_Mod_renumbers_201 : decode prog_12_method_40_code 201 = .ok (.invokevirtual 230, 3) := by decide +kernel
theorem d_Mod_renumbers_204 : decode prog_12_method_40_code 204 = .ok (.iastore, 1) := by decide +kernel
theorem d_Mod_renumbers_205 : decode prog_12_method_40_code 205 = .ok (.iinc 1 1, 3) := by decide +kernel
theorem d_Mod_renumbers_208 : decode prog_12_method_40_code 208 = .ok (.goto (-27), 3) := by decide +kernel
theorem d_Mod_renumbers_211 : decode prog_12_method_40_code 211 = .ok (.return_, 1) := by decide +kernel
def fm_Mod_renumbers_l181  : Nat → Int → fa_W → Option fa_W
  | 0, _, _ => none
  | n + 1, x1, w => if fa_wr (w 181 20) ≤ fa_wr x1 then
  some w
  else
  ((fa_ix x1 101).bind fun j5 =>
  (fa_ix x1 101).bind fun j7 =>
  fa_let (fa_st w 195 j7 (fm_Mod_homeNumbered (w 195 j5) w)) fun w8 =>
  fa_let (x1 + 1) fun x1_9 =>
  fm_Mod_renumbers_l181 n x1_9 w8)
set_option maxHeartbeats 4000000 in
set_option maxRecDepth 100000 in
theorem c_Mod_renumbers_l181 {p : Program} {l : Launch} {e : Env} {s : State} {m : MethodId} {args : Array Value} {below : List Frame} {meth : Method} {c : Code} {hh : Nat} {D : va_G} {b : Nat} {aC : Nat → ClassId} {H0 : Heap} {N T : Nat} (X : fa_GX p s m args meth c prog_12_method_40_code 3 ((Option.none : Option Jvm.ClassFile.FieldType)) y_Mod_renumbers.cls D b aC) (hle : 2 ≤ hh) (hN : fa_NM ≤ N) (hT : fa_TM ≤ T) {r : fa_W}  : ∀ (n : Nat) (x1 : Int) (w : fa_W), fm_Mod_renumbers_l181 n x1 w = some r → fa_GJ p l e (fa_rm hh) s m args below meth c 0 0 (MQ below (fa_Qc D b aC H0 N T (none) r) args s 0 0 (fun q => b ≤ q)) D b aC H0 N T 3 w 181 [(0, .ref (b + 181)), (1, .int (fa_I x1))] [] := by
  intro n
  induction n with
  | zero => intro x1 w hM; exact fa_no hM
  | succ n ih =>
    intro x1 w hM
    rw [fm_Mod_renumbers_l181] at hM
    refine g_iload_n X 1 rfl d_Mod_renumbers_181 ?_
    refine g_aload_n X 0 rfl d_Mod_renumbers_182 ?_
    refine g_get X ck_10 fo_181 (fn_181 hN) 20 (by decide) wd_1762 rfl (fa_fvI rfl) d_Mod_renumbers_183 ?_
    refine g_icmp_ge X 211 d_Mod_renumbers_186 (by decide) (fun hc4 => ?_) (fun hc4 => ?_)
    · have hM := fa_if_t hM hc4
      cases hM
      exact g_vret X d_Mod_renumbers_211
    · have hM := fa_if_f hM hc4
      refine g_aload_n X 0 rfl d_Mod_renumbers_189 ?_
      refine g_get X ck_10 fo_181 (fn_181 hN) 15 (by decide) wd_1757 rfl (fr_181_15 rfl hT) d_Mod_renumbers_190 ?_
      refine g_iload_n X 1 rfl d_Mod_renumbers_193 ?_
      refine g_aload_n X 0 rfl d_Mod_renumbers_194 ?_
      refine g_aload_n X 0 rfl d_Mod_renumbers_195 ?_
      refine g_get X ck_10 fo_181 (fn_181 hN) 15 (by decide) wd_1757 rfl (fr_181_15 rfl hT) d_Mod_renumbers_196 ?_
      refine g_iload_n X 1 rfl d_Mod_renumbers_199 ?_
      obtain ⟨j5, ej5, hM⟩ := fa_ob hM
      refine g_iald X fs_195 (fn_195 hN) ej5 d_Mod_renumbers_200 ?_
      refine g_callV_i X ck_10 fo_181 (fn_181 hN) rfl mi_Mod_homeNumbered (c_Mod_homeNumbered hN hT (w 195 j5) w _ rfl) wd_1628 rfl (Nat.le_trans (Nat.le_of_ble_eq_true rfl) hle) (st := [.int (fa_I x1), .ref (b + 195)]) (Nat.le_of_ble_eq_true rfl) rfl d_Mod_renumbers_201 ?_
      obtain ⟨j7, ej7, hM⟩ := fa_ob hM
      refine g_iast X fs_195 (fn_195 hN) ej7 d_Mod_renumbers_204 (fun w8 ew8 => ?_)
      have hM := fa_let_to hM ew8
      refine g_iinc X 1 (fun x1_9 => [(1, .int (fa_I x1_9)), (0, .ref (b + 181))]) d_Mod_renumbers_205 rfl (by decide) (fun _ => rfl) (fun x1_9 ex1_9 => ?_)
      have hM := fa_let_to hM ex1_9
      refine g_goto X 181 d_Mod_renumbers_208 (by decide) ?_
      exact g_lv [1, 0] rfl (ih _ _ hM)
def fm_Mod_renumbers_l143  : Nat → Int → fa_W → Option fa_W
  | 0, _, _ => none
  | n + 1, x1, w => if fa_wr (w 181 19) ≤ fa_wr x1 then
  fm_Mod_renumbers_l181 fa_FU 0 w
  else
  ((fa_ix (24 + x1) 124).bind fun j10 =>
  (fa_ix (24 + x1) 124).bind fun j12 =>
  fa_let (fa_st w 193 j12 (fm_Mod_homeNumbered (w 193 j10) w)) fun w13 =>
  fa_let (x1 + 1) fun x1_14 =>
  fm_Mod_renumbers_l143 n x1_14 w13)
set_option maxHeartbeats 4000000 in
set_option maxRecDepth 100000 in
theorem c_Mod_renumbers_l143 {p : Program} {l : Launch} {e : Env} {s : State} {m : MethodId} {args : Array Value} {below : List Frame} {meth : Method} {c : Code} {hh : Nat} {D : va_G} {b : Nat} {aC : Nat → ClassId} {H0 : Heap} {N T : Nat} (X : fa_GX p s m args meth c prog_12_method_40_code 3 ((Option.none : Option Jvm.ClassFile.FieldType)) y_Mod_renumbers.cls D b aC) (hle : 2 ≤ hh) (hN : fa_NM ≤ N) (hT : fa_TM ≤ T) {r : fa_W}  : ∀ (n : Nat) (x1 : Int) (w : fa_W), fm_Mod_renumbers_l143 n x1 w = some r → fa_GJ p l e (fa_rm hh) s m args below meth c 0 0 (MQ below (fa_Qc D b aC H0 N T (none) r) args s 0 0 (fun q => b ≤ q)) D b aC H0 N T 3 w 143 [(0, .ref (b + 181)), (1, .int (fa_I x1))] [] := by
  intro n
  induction n with
  | zero => intro x1 w hM; exact fa_no hM
  | succ n ih =>
    intro x1 w hM
    rw [fm_Mod_renumbers_l143] at hM
    refine g_iload_n X 1 rfl d_Mod_renumbers_143 ?_
    refine g_aload_n X 0 rfl d_Mod_renumbers_144 ?_
    refine g_get X ck_10 fo_181 (fn_181 hN) 19 (by decide) wd_1761 rfl (fa_fvI rfl) d_Mod_renumbers_145 ?_
    refine g_icmp_ge X 179 d_Mod_renumbers_148 (by decide) (fun hc3 => ?_) (fun hc3 => ?_)
    · have hM := fa_if_t hM hc3
      refine g_iconst X d_Mod_renumbers_179 ?_
      refine g_istorec_n X [(1, .int (fa_I 0)), (0, .ref (b + 181))] d_Mod_renumbers_180 (by decide) rfl ?_
      exact g_lv [1, 0] rfl (c_Mod_renumbers_l181 X hle hN hT   fa_FU _ _ hM)
    · have hM := fa_if_f hM hc3
      refine g_aload_n X 0 rfl d_Mod_renumbers_151 ?_
      refine g_get X ck_10 fo_181 (fn_181 hN) 13 (by decide) wd_1755 rfl (fr_181_13 rfl hT) d_Mod_renumbers_152 ?_
      refine g_bipush X (by decide) d_Mod_renumbers_155 ?_
      refine g_iload_n X 1 rfl d_Mod_renumbers_157 ?_
      refine g_iadd X d_Mod_renumbers_158 ?_
      refine g_aload_n X 0 rfl d_Mod_renumbers_159 ?_
      refine g_aload_n X 0 rfl d_Mod_renumbers_160 ?_
      refine g_get X ck_10 fo_181 (fn_181 hN) 13 (by decide) wd_1755 rfl (fr_181_13 rfl hT) d_Mod_renumbers_161 ?_
      refine g_bipush X (by decide) d_Mod_renumbers_164 ?_
      refine g_iload_n X 1 rfl d_Mod_renumbers_166 ?_
      refine g_iadd X d_Mod_renumbers_167 ?_
      obtain ⟨j10, ej10, hM⟩ := fa_ob hM
      refine g_iald X fs_193 (fn_193 hN) ej10 d_Mod_renumbers_168 ?_
      refine g_callV_i X ck_10 fo_181 (fn_181 hN) rfl mi_Mod_homeNumbered (c_Mod_homeNumbered hN hT (w 193 j10) w _ rfl) wd_1628 rfl (Nat.le_trans (Nat.le_of_ble_eq_true rfl) hle) (st := [.int (fa_I (24 + x1)), .ref (b + 193)]) (Nat.le_of_ble_eq_true rfl) rfl d_Mod_renumbers_169 ?_
      obtain ⟨j12, ej12, hM⟩ := fa_ob hM
      refine g_iast X fs_193 (fn_193 hN) ej12 d_Mod_renumbers_172 (fun w13 ew13 => ?_)
      have hM := fa_let_to hM ew13
      refine g_iinc X 1 (fun x1_14 => [(1, .int (fa_I x1_14)), (0, .ref (b + 181))]) d_Mod_renumbers_173 rfl (by decide) (fun _ => rfl) (fun x1_14 ex1_14 => ?_)
      have hM := fa_let_to hM ex1_14
      refine g_goto X 143 d_Mod_renumbers_176 (by decide) ?_
      exact g_lv [1, 0] rfl (ih _ _ hM)
def fm_Mod_renumbers_l71  : Nat → Int → fa_W → Option fa_W
  | 0, _, _ => none
  | n + 1, x1, w => if fa_wr (6 + (w 181 18)) ≤ fa_wr x1 then
  fm_Mod_renumbers_l143 fa_FU 0 w
  else
  (fa_let (fm_Mod_numbered x1 w) fun x2_16 =>
  (fa_ix x1 24).bind fun j17 =>
  (fa_ix x2_16 24).bind fun j18 =>
  fa_let (fa_st w 189 j18 (w 189 j17)) fun w19 =>
  (fa_ix x1 24).bind fun j20 =>
  (fa_ix x2_16 24).bind fun j22 =>
  fa_let (fa_st w19 191 j22 (fm_Mod_homeNumbered (w19 191 j20) w19)) fun w23 =>
  (fa_ix x1 124).bind fun j24 =>
  (fa_ix x2_16 124).bind fun j25 =>
  fa_let (fa_st w23 192 j25 (w23 192 j24)) fun w26 =>
  (fa_ix x2_16 124).bind fun j27 =>
  fa_let (fa_st w26 193 j27 x2_16) fun w28 =>
  fa_let (x1 + 1) fun x1_29 =>
  fm_Mod_renumbers_l71 n x1_29 w28)
set_option maxHeartbeats 4000000 in
set_option maxRecDepth 100000 in
theorem c_Mod_renumbers_l71 {p : Program} {l : Launch} {e : Env} {s : State} {m : MethodId} {args : Array Value} {below : List Frame} {meth : Method} {c : Code} {hh : Nat} {D : va_G} {b : Nat} {aC : Nat → ClassId} {H0 : Heap} {N T : Nat} (X : fa_GX p s m args meth c prog_12_method_40_code 3 ((Option.none : Option Jvm.ClassFile.FieldType)) y_Mod_renumbers.cls D b aC) (hle : 2 ≤ hh) (hN : fa_NM ≤ N) (hT : fa_TM ≤ T) {r : fa_W}  : ∀ (n : Nat) (x1 : Int) (w : fa_W), fm_Mod_renumbers_l71 n x1 w = some r → fa_GJ p l e (fa_rm hh) s m args below meth c 0 0 (MQ below (fa_Qc D b aC H0 N T (none) r) args s 0 0 (fun q => b ≤ q)) D b aC H0 N T 3 w 71 [(0, .ref (b + 181)), (1, .int (fa_I x1))] [] := by
  intro n
  induction n with
  | zero => intro x1 w hM; exact fa_no hM
  | succ n ih =>
    intro x1 w hM
    rw [fm_Mod_renumbers_l71] at hM
    refine g_iload_n X 1 rfl d_Mod_renumbers_71 ?_
    refine g_bipush X (by decide) d_Mod_renumbers_72 ?_
    refine g_aload_n X 0 rfl d_Mod_renumbers_74 ?_
    refine g_get X ck_10 fo_181 (fn_181 hN) 18 (by decide) wd_1760 rfl (fa_fvI rfl) d_Mod_renumbers_75 ?_
    refine g_iadd X d_Mod_renumbers_78 ?_
    refine g_icmp_ge X 141 d_Mod_renumbers_79 (by decide) (fun hc2 => ?_) (fun hc2 => ?_)
    · have hM := fa_if_t hM hc2
      refine g_iconst X d_Mod_renumbers_141 ?_
      refine g_istorec_n X [(1, .int (fa_I 0)), (0, .ref (b + 181))] d_Mod_renumbers_142 (by decide) rfl ?_
      exact g_lv [1, 0] rfl (c_Mod_renumbers_l143 X hle hN hT   fa_FU _ _ hM)
    · have hM := fa_if_f hM hc2
      refine g_aload_n X 0 rfl d_Mod_renumbers_82 ?_
      refine g_iload_n X 1 rfl d_Mod_renumbers_83 ?_
      refine g_callV_i X ck_10 fo_181 (fn_181 hN) rfl mi_Mod_numbered (c_Mod_numbered hN hT x1 w _ rfl) wd_1624 rfl (Nat.le_trans (Nat.le_of_ble_eq_true rfl) hle) (st := []) (Nat.le_of_ble_eq_true rfl) rfl d_Mod_renumbers_84 ?_
      refine g_istore_n X (fun x2_16 => [(2, .int (fa_I x2_16)), (0, .ref (b + 181)), (1, .int (fa_I x1))]) d_Mod_renumbers_87 (by decide) (fun _ => rfl) (fun x2_16 ex2_16 => ?_)
      have hM := fa_let_to hM ex2_16
      refine g_aload_n X 1 rfl d_Mod_renumbers_88 ?_
      refine g_get X ck_10 fo_181 (fn_181 hN) 9 (by decide) wd_1751 rfl (fr_181_9 rfl hT) d_Mod_renumbers_89 ?_
      refine g_iload_n X 0 rfl d_Mod_renumbers_92 ?_
      refine g_aload_n X 1 rfl d_Mod_renumbers_93 ?_
      refine g_get X ck_10 fo_181 (fn_181 hN) 9 (by decide) wd_1751 rfl (fr_181_9 rfl hT) d_Mod_renumbers_94 ?_
      refine g_iload_n X 2 rfl d_Mod_renumbers_97 ?_
      obtain ⟨j17, ej17, hM⟩ := fa_ob hM
      refine g_iald X fs_189 (fn_189 hN) ej17 d_Mod_renumbers_98 ?_
      obtain ⟨j18, ej18, hM⟩ := fa_ob hM
      refine g_iast X fs_189 (fn_189 hN) ej18 d_Mod_renumbers_99 (fun w19 ew19 => ?_)
      have hM := fa_let_to hM ew19
      refine g_aload_n X 1 rfl d_Mod_renumbers_100 ?_
      refine g_get X ck_10 fo_181 (fn_181 hN) 11 (by decide) wd_1753 rfl (fr_181_11 rfl hT) d_Mod_renumbers_101 ?_
      refine g_iload_n X 0 rfl d_Mod_renumbers_104 ?_
      refine g_aload_n X 1 rfl d_Mod_renumbers_105 ?_
      refine g_aload_n X 1 rfl d_Mod_renumbers_106 ?_
      refine g_get X ck_10 fo_181 (fn_181 hN) 11 (by decide) wd_1753 rfl (fr_181_11 rfl hT) d_Mod_renumbers_107 ?_
      refine g_iload_n X 2 rfl d_Mod_renumbers_110 ?_
      obtain ⟨j20, ej20, hM⟩ := fa_ob hM
      refine g_iald X fs_191 (fn_191 hN) ej20 d_Mod_renumbers_111 ?_
      refine g_callV_i X ck_10 fo_181 (fn_181 hN) rfl mi_Mod_homeNumbered (c_Mod_homeNumbered hN hT (w19 191 j20) w19 _ rfl) wd_1628 rfl (Nat.le_trans (Nat.le_of_ble_eq_true rfl) hle) (st := [.int (fa_I x2_16), .ref (b + 191)]) (Nat.le_of_ble_eq_true rfl) rfl d_Mod_renumbers_112 ?_
      obtain ⟨j22, ej22, hM⟩ := fa_ob hM
      refine g_iast X fs_191 (fn_191 hN) ej22 d_Mod_renumbers_115 (fun w23 ew23 => ?_)
      have hM := fa_let_to hM ew23
      refine g_aload_n X 1 rfl d_Mod_renumbers_116 ?_
      refine g_get X ck_10 fo_181 (fn_181 hN) 12 (by decide) wd_1754 rfl (fr_181_12 rfl hT) d_Mod_renumbers_117 ?_
      refine g_iload_n X 0 rfl d_Mod_renumbers_120 ?_
      refine g_aload_n X 1 rfl d_Mod_renumbers_121 ?_
      refine g_get X ck_10 fo_181 (fn_181 hN) 12 (by decide) wd_1754 rfl (fr_181_12 rfl hT) d_Mod_renumbers_122 ?_
      refine g_iload_n X 2 rfl d_Mod_renumbers_125 ?_
      obtain ⟨j24, ej24, hM⟩ := fa_ob hM
      refine g_iald X fs_192 (fn_192 hN) ej24 d_Mod_renumbers_126 ?_
      obtain ⟨j25, ej25, hM⟩ := fa_ob hM
      refine g_iast X fs_192 (fn_192 hN) ej25 d_Mod_renumbers_127 (fun w26 ew26 => ?_)
      have hM := fa_let_to hM ew26
      refine g_aload_n X 1 rfl d_Mod_renumbers_128 ?_
      refine g_get X ck_10 fo_181 (fn_181 hN) 13 (by decide) wd_1755 rfl (fr_181_13 rfl hT) d_Mod_renumbers_129 ?_
      refine g_iload_n X 0 rfl d_Mod_renumbers_132 ?_
      refine g_iload_n X 0 rfl d_Mod_renumbers_133 ?_
      obtain ⟨j27, ej27, hM⟩ := fa_ob hM
      refine g_iast X fs_193 (fn_193 hN) ej27 d_Mod_renumbers_134 (fun w28 ew28 => ?_)
      have hM := fa_let_to hM ew28
      refine g_iinc X 2 (fun x1_29 => [(1, .int (fa_I x1_29)), (2, .int (fa_I x2_16)), (0, .ref (b + 181))]) d_Mod_renumbers_135 rfl (by decide) (fun _ => rfl) (fun x1_29 ex1_29 => ?_)
      have hM := fa_let_to hM ex1_29
      refine g_goto X 71 d_Mod_renumbers_138 (by decide) ?_
      exact g_lv [2, 0] rfl (ih _ _ hM)
def fm_Mod_renumbers_j36 (k2 : Int → fa_W → Option fa_W) (x1 : Int) (w : fa_W) : Option fa_W :=
  (fa_ix x1 101).bind fun j32 =>
  if fa_wr (w 184 j32) = 4 then
  ((fa_ix x1 101).bind fun j35 =>
  (fa_ix x1 101).bind fun j37 =>
  fa_let (fa_st w 185 j37 (fm_Mod_numbered (w 185 j35) w)) fun w38 =>
  fa_let (x1 + 1) fun x1_39 =>
  k2 x1_39 w38)
  else
  (fa_let (x1 + 1) fun x1_34 =>
  k2 x1_34 w)
set_option maxHeartbeats 4000000 in
set_option maxRecDepth 100000 in
theorem c_Mod_renumbers_j36 {p : Program} {l : Launch} {e : Env} {s : State} {m : MethodId} {args : Array Value} {below : List Frame} {meth : Method} {c : Code} {hh : Nat} {D : va_G} {b : Nat} {aC : Nat → ClassId} {H0 : Heap} {N T : Nat} (X : fa_GX p s m args meth c prog_12_method_40_code 3 ((Option.none : Option Jvm.ClassFile.FieldType)) y_Mod_renumbers.cls D b aC) (hle : 2 ≤ hh) (hN : fa_NM ≤ N) (hT : fa_TM ≤ T) {r : fa_W} (k2 : Int → fa_W → Option fa_W) (K2 : ∀ (x1 : Int) (w : fa_W), k2 x1 w = some r → fa_GJ p l e (fa_rm hh) s m args below meth c 0 0 (MQ below (fa_Qc D b aC H0 N T (none) r) args s 0 0 (fun q => b ≤ q)) D b aC H0 N T 3 w 2 [(0, .ref (b + 181)), (1, .int (fa_I x1))] []) : ∀ (x1 : Int) (w : fa_W) (_ : fm_Mod_renumbers_j36 k2 x1 w = some r), fa_GJ p l e (fa_rm hh) s m args below meth c 0 0 (MQ below (fa_Qc D b aC H0 N T (none) r) args s 0 0 (fun q => b ≤ q)) D b aC H0 N T 3 w 36 [(0, .ref (b + 181)), (1, .int (fa_I x1))] [] := by
  intro x1 w hM
  unfold fm_Mod_renumbers_j36 at hM
  refine g_aload_n X 0 rfl d_Mod_renumbers_36 ?_
  refine g_get X ck_10 fo_181 (fn_181 hN) 4 (by decide) wd_1746 rfl (fr_181_4 rfl hT) d_Mod_renumbers_37 ?_
  refine g_iload_n X 1 rfl d_Mod_renumbers_40 ?_
  obtain ⟨j32, ej32, hM⟩ := fa_ob hM
  refine g_iald X fs_184 (fn_184 hN) ej32 d_Mod_renumbers_41 ?_
  refine g_iconst X d_Mod_renumbers_42 ?_
  refine g_icmp_ne X 62 d_Mod_renumbers_43 (by decide) (fun hc33 => ?_) (fun hc33 => ?_)
  · have hM := fa_if_f hM hc33
    refine g_iinc X 1 (fun x1_34 => [(1, .int (fa_I x1_34)), (0, .ref (b + 181))]) d_Mod_renumbers_62 rfl (by decide) (fun _ => rfl) (fun x1_34 ex1_34 => ?_)
    have hM := fa_let_to hM ex1_34
    refine g_goto X 2 d_Mod_renumbers_65 (by decide) ?_
    exact g_lv [1, 0] rfl (K2 _ _ hM)
  · have hM := fa_if_t hM hc33
    refine g_aload_n X 0 rfl d_Mod_renumbers_46 ?_
    refine g_get X ck_10 fo_181 (fn_181 hN) 5 (by decide) wd_1747 rfl (fr_181_5 rfl hT) d_Mod_renumbers_47 ?_
    refine g_iload_n X 1 rfl d_Mod_renumbers_50 ?_
    refine g_aload_n X 0 rfl d_Mod_renumbers_51 ?_
    refine g_aload_n X 0 rfl d_Mod_renumbers_52 ?_
    refine g_get X ck_10 fo_181 (fn_181 hN) 5 (by decide) wd_1747 rfl (fr_181_5 rfl hT) d_Mod_renumbers_53 ?_
    refine g_iload_n X 1 rfl d_Mod_renumbers_56 ?_
    obtain ⟨j35, ej35, hM⟩ := fa_ob hM
    refine g_iald X fs_185 (fn_185 hN) ej35 d_Mod_renumbers_57 ?_
    refine g_callV_i X ck_10 fo_181 (fn_181 hN) rfl mi_Mod_numbered (c_Mod_numbered hN hT (w 185 j35) w _ rfl) wd_1624 rfl (Nat.le_trans (Nat.le_of_ble_eq_true rfl) hle) (st := [.int (fa_I x1), .ref (b + 185)]) (Nat.le_of_ble_eq_true rfl) rfl d_Mod_renumbers_58 ?_
    obtain ⟨j37, ej37, hM⟩ := fa_ob hM
    refine g_iast X fs_185 (fn_185 hN) ej37 d_Mod_renumbers_61 (fun w38 ew38 => ?_)
    have hM := fa_let_to hM ew38
    refine g_iinc X 1 (fun x1_39 => [(1, .int (fa_I x1_39)), (0, .ref (b + 181))]) d_Mod_renumbers_62 rfl (by decide) (fun _ => rfl) (fun x1_39 ex1_39 => ?_)
    have hM := fa_let_to hM ex1_39
    refine g_goto X 2 d_Mod_renumbers_65 (by decide) ?_
    exact g_lv [1, 0] rfl (K2 _ _ hM)
def fm_Mod_renumbers_l2  : Nat → Int → fa_W → Option fa_W
  | 0, _, _ => none
  | n + 1, x1, w => if fa_wr (w 181 16) ≤ fa_wr x1 then
  fm_Mod_renumbers_l71 fa_FU 6 w
  else
  ((fa_ix x1 101).bind fun j30 =>
  if fa_wr (w 184 j30) = 1 then
  ((fa_ix x1 101).bind fun j40 =>
  (fa_ix x1 101).bind fun j42 =>
  fa_let (fa_st w 185 j42 (fm_Mod_binderNumbered (w 185 j40) w)) fun w43 =>
  fm_Mod_renumbers_j36 (fun x1 w9 => fm_Mod_renumbers_l2 n x1 w9) x1 w43)
  else
  fm_Mod_renumbers_j36 (fun x1 w9 => fm_Mod_renumbers_l2 n x1 w9) x1 w)
set_option maxHeartbeats 4000000 in
set_option maxRecDepth 100000 in
theorem c_Mod_renumbers_l2 {p : Program} {l : Launch} {e : Env} {s : State} {m : MethodId} {args : Array Value} {below : List Frame} {meth : Method} {c : Code} {hh : Nat} {D : va_G} {b : Nat} {aC : Nat → ClassId} {H0 : Heap} {N T : Nat} (X : fa_GX p s m args meth c prog_12_method_40_code 3 ((Option.none : Option Jvm.ClassFile.FieldType)) y_Mod_renumbers.cls D b aC) (hle : 2 ≤ hh) (hN : fa_NM ≤ N) (hT : fa_TM ≤ T) {r : fa_W}  : ∀ (n : Nat) (x1 : Int) (w : fa_W), fm_Mod_renumbers_l2 n x1 w = some r → fa_GJ p l e (fa_rm hh) s m args below meth c 0 0 (MQ below (fa_Qc D b aC H0 N T (none) r) args s 0 0 (fun q => b ≤ q)) D b aC H0 N T 3 w 2 [(0, .ref (b + 181)), (1, .int (fa_I x1))] [] := by
  intro n
  induction n with
  | zero => intro x1 w hM; exact fa_no hM
  | succ n ih =>
    intro x1 w hM
    rw [fm_Mod_renumbers_l2] at hM
    refine g_iload_n X 1 rfl d_Mod_renumbers_2 ?_
    refine g_aload_n X 0 rfl d_Mod_renumbers_3 ?_
    refine g_get X ck_10 fo_181 (fn_181 hN) 16 (by decide) wd_1758 rfl (fa_fvI rfl) d_Mod_renumbers_4 ?_
    refine g_icmp_ge X 68 d_Mod_renumbers_7 (by decide) (fun hc1 => ?_) (fun hc1 => ?_)
    · have hM := fa_if_t hM hc1
      refine g_bipush X (by decide) d_Mod_renumbers_68 ?_
      refine g_istorec_n X [(1, .int (fa_I 6)), (0, .ref (b + 181))] d_Mod_renumbers_70 (by decide) rfl ?_
      exact g_lv [1, 0] rfl (c_Mod_renumbers_l71 X hle hN hT   fa_FU _ _ hM)
    · have hM := fa_if_f hM hc1
      refine g_aload_n X 0 rfl d_Mod_renumbers_10 ?_
      refine g_get X ck_10 fo_181 (fn_181 hN) 4 (by decide) wd_1746 rfl (fr_181_4 rfl hT) d_Mod_renumbers_11 ?_
      refine g_iload_n X 1 rfl d_Mod_renumbers_14 ?_
      obtain ⟨j30, ej30, hM⟩ := fa_ob hM
      refine g_iald X fs_184 (fn_184 hN) ej30 d_Mod_renumbers_15 ?_
      refine g_iconst X d_Mod_renumbers_16 ?_
      refine g_icmp_ne X 36 d_Mod_renumbers_17 (by decide) (fun hc31 => ?_) (fun hc31 => ?_)
      · have hM := fa_if_f hM hc31
        exact g_lv [0, 1] rfl (c_Mod_renumbers_j36 X hle hN hT  (fun x1 w9 => fm_Mod_renumbers_l2 n x1 w9) (fun _ _ h => ih _ _ h)  _ _ hM)
      · have hM := fa_if_t hM hc31
        refine g_aload_n X 0 rfl d_Mod_renumbers_20 ?_
        refine g_get X ck_10 fo_181 (fn_181 hN) 5 (by decide) wd_1747 rfl (fr_181_5 rfl hT) d_Mod_renumbers_21 ?_
        refine g_iload_n X 1 rfl d_Mod_renumbers_24 ?_
        refine g_aload_n X 0 rfl d_Mod_renumbers_25 ?_
        refine g_aload_n X 0 rfl d_Mod_renumbers_26 ?_
        refine g_get X ck_10 fo_181 (fn_181 hN) 5 (by decide) wd_1747 rfl (fr_181_5 rfl hT) d_Mod_renumbers_27 ?_
        refine g_iload_n X 1 rfl d_Mod_renumbers_30 ?_
        obtain ⟨j40, ej40, hM⟩ := fa_ob hM
        refine g_iald X fs_185 (fn_185 hN) ej40 d_Mod_renumbers_31 ?_
        refine g_callV_i X ck_10 fo_181 (fn_181 hN) rfl mi_Mod_binderNumbered (c_Mod_binderNumbered hN hT (w 185 j40) w _ rfl) wd_1620 rfl (Nat.le_trans (Nat.le_of_ble_eq_true rfl) hle) (st := [.int (fa_I x1), .ref (b + 185)]) (Nat.le_of_ble_eq_true rfl) rfl d_Mod_renumbers_32 ?_
        obtain ⟨j42, ej42, hM⟩ := fa_ob hM
        refine g_iast X fs_185 (fn_185 hN) ej42 d_Mod_renumbers_35 (fun w43 ew43 => ?_)
        have hM := fa_let_to hM ew43
        exact g_lv [0, 1] rfl (c_Mod_renumbers_j36 X hle hN hT  (fun x1 w9 => fm_Mod_renumbers_l2 n x1 w9) (fun _ _ h => ih _ _ h)  _ _ hM)
def fm_Mod_renumbers (w : fa_W) : Option fa_W :=
  fm_Mod_renumbers_l2 fa_FU 0 w
set_option maxHeartbeats 4000000 in
set_option maxRecDepth 100000 in
theorem c_Mod_renumbers {l : Launch} {D : va_G} {b : Nat} {aC : Nat → ClassId} {H0 : Heap} {N T : Nat} (hN : fa_NM ≤ N) (hT : fa_TM ≤ T)   (w : fa_W) (r : fa_W) (hM : fm_Mod_renumbers w = some r) : fa_MC l D b aC H0 N T y_Mod_renumbers prog_12_method_40_code 3 ((Option.none : Option Jvm.ClassFile.FieldType)) (2) [.ref (b + 181)] w (none) r := by
  refine fa_enter (lv := [(0, .ref (b + 181))]) (by decide +kernel) (Nat.le_of_ble_eq_true rfl) rfl (fun hh hle hnm X => ?_)
  unfold fm_Mod_renumbers at hM
  refine g_iconst X d_Mod_renumbers_0 ?_
  refine g_istorec_n X [(1, .int (fa_I 0)), (0, .ref (b + 181))] d_Mod_renumbers_1 (by decide) rfl ?_
  exact g_lv [1, 0] rfl (c_Mod_renumbers_l2 X hle hN hT   fa_FU _ _ hM)
theorem d_Mod_reads_0 : decode prog_12_method_36_code 0 = .ok (.aload_n 0, 1) := by decide +kernel
theorem d_Mod_reads_1 : decode prog_12_method_36_code 1 = .ok (.iconst 0, 1) := by decide +kernel
theorem d_Mod_reads_2 : decode prog_12_method_36_code 2 = .ok (.putfield 91, 3) := by decide +kernel
theorem d_Mod_reads_5 : decode prog_12_method_36_code 5 = .ok (.aload_n 0, 1) := by decide +kernel
theorem d_Mod_reads_6 : decode prog_12_method_36_code 6 = .ok (.iconst 0, 1) := by decide +kernel
theorem d_Mod_reads_7 : decode prog_12_method_36_code 7 = .ok (.putfield 106, 3) := by decide +kernel
theorem d_Mod_reads_10 : decode prog_12_method_36_code 10 = .ok (.aload_n 0, 1) := by decide +kernel
theorem d_Mod_reads_11 : decode prog_12_method_36_code 11 = .ok (.iconst 0, 1) := by decide +kernel
theorem d_Mod_reads_12 : decode prog_12_method_36_code 12 = .ok (.putfield 209, 3) := by decide +kernel
theorem d_Mod_reads_15 : decode prog_12_method_36_code 15 = .ok (.aload_n 0, 1) := by decide +kernel
theorem d_Mod_reads_16 : decode prog_12_method_36_code 16 = .ok (.iconst 0, 1) := by decide +kernel
theorem d_Mod_reads_17 : decode prog_12_method_36_code 17 = .ok (.putfield 140, 3) := by decide +kernel
theorem d_Mod_reads_20 : decode prog_12_method_36_code 20 = .ok (.aload_n 0, 1) := by decide +kernel
theorem d_Mod_reads_21 : decode prog_12_method_36_code 21 = .ok (.iconst 0, 1) := by decide +kernel
theorem d_Mod_reads_22 : decode prog_12_method_36_code 22 = .ok (.putfield 179, 3) := by decide +kernel
theorem d_Mod_reads_25 : decode prog_12_method_36_code 25 = .ok (.aload_n 0, 1) := by decide +kernel
theorem d_Mod_reads_26 : decode prog_12_method_36_code 26 = .ok (.iconst 0, 1) := by decide +kernel
theorem d_Mod_reads_27 : decode prog_12_method_36_code 27 = .ok (.putfield 197, 3) := by decide +kernel
theorem d_Mod_reads_30 : decode prog_12_method_36_code 30 = .ok (.aload_n 0, 1) := by decide +kernel
theorem d_Mod_reads_31 : decode prog_12_method_36_code 31 = .ok (.iconst 0, 1) := by decide +kernel
theorem d_Mod_reads_32 : decode prog_12_method_36_code 32 = .ok (.putfield 18, 3) := by decide +kernel
theorem d_Mod_reads_35 : decode prog_12_method_36_code 35 = .ok (.aload_n 0, 1) := by decide +kernel
theorem d_Mod_reads_36 : decode prog_12_method_36_code 36 = .ok (.iconst 0, 1) := by decide +kernel
theorem d_Mod_reads_37 : decode prog_12_method_36_code 37 = .ok (.putfield 109, 3) := by decide +kernel
theorem d_Mod_reads_40 : decode prog_12_method_36_code 40 = .ok (.aload_n 0, 1) := by decide +kernel
theorem d_Mod_reads_41 : decode prog_12_method_36_code 41 = .ok (.iconst (-1), 1) := by decide +kernel
theorem d_Mod_reads_42 : decode prog_12_method_36_code 42 = .ok (.putfield 159, 3) := by decide +kernel
theorem d_Mod_reads_45 : decode prog_12_method_36_code 45 = .ok (.aload_n 0, 1) := by decide +kernel
theorem d_Mod_reads_46 : decode prog_12_method_36_code 46 = .ok (.iconst 0, 1) := by decide +kernel
theorem d_Mod_reads_47 : decode prog_12_method_36_code 47 = .ok (.putfield 125, 3) := by decide +kernel
theorem d_Mod_reads_50 : decode prog_12_method_36_code 50 = .ok (.aload_n 0, 1) := by decide +kernel
theorem d_Mod_reads_51 : decode prog_12_method_36_code 51 = .ok (.iconst (-1), 1) := by decide +kernel
theorem d_Mod_reads_52 : decode prog_12_method_36_code 52 = .ok (.putfield 34, 3) := by decide +kernel
theorem d_Mod_reads_55 : decode prog_12_method_36_code 55 = .ok (.aload_n 0, 1) := by decide +kernel
theorem d_Mod_reads_56 : decode prog_12_method_36_code 56 = .ok (.invokevirtual 41, 3) := by decide +kernel
theorem d_Mod_reads_59 : decode prog_12_method_36_code 59 = .ok (.ifCond .ne 20, 3) := by decide +kernel
theorem d_Mod_reads_62 : decode prog_12_method_36_code 62 = .ok (.aload_n 0, 1) := by decide +kernel
theorem d_Mod_reads_63 : decode prog_12_method_36_code 63 = .ok (.invokevirtual 78, 3) := by decide +kernel
theorem d_Mod_reads_66 : decode prog_12_method_36_code 66 = .ok (.getstatic 57, 3) := by decide +kernel
theorem d_Mod_reads_69 : decode prog_12_method_36_code 69 = .ok (.if_icmp .ne 10, 3) := by decide +kernel
theorem d_Mod_reads_72 : decode prog_12_method_36_code 72 = .ok (.aload_n 0, 1) := by decide +kernel
theorem d_Mod_reads_73 : decode prog_12_method_36_code 73 = .ok (.invokevirtual 215, 3) := by decide +kernel
theorem d_Mod_reads_76 : decode prog_12_method_36_code 76 = .ok (.goto (-21), 3) := by decide +kernel
theorem d_Mod_reads_79 : decode prog_12_method_36_code 79 = .ok (.aload_n 0, 1) := by decide +kernel
theorem d_Mod_reads_80 : decode prog_12_method_36_code 80 = .ok (.aload_n 0, 1) := by decide +kernel
theorem d_Mod_reads_81 : decode prog_12_method_36_code 81 = .ok (.invokevirtual 169, 3) := by decide +kernel
theorem d_Mod_reads_84 : decode prog_12_method_36_code 84 = .ok (.putfield 218, 3) := by decide +kernel
theorem d_Mod_reads_87 : decode prog_12_method_36_code 87 = .ok (.aload_n 0, 1) := by decide +kernel
theorem d_Mod_reads_88 : decode prog_12_method_36_code 88 = .ok (.invokevirtual 37, 3) := by decide +kernel
theorem d_Mod_reads_91 : decode prog_12_method_36_code 91 = .ok (.aload_n 0, 1) := by decide +kernel
theorem d_Mod_reads_92 : decode prog_12_method_36_code 92 = .ok (.invokevirtual 41, 3) := by decide +kernel
theorem d_Mod_reads_95 : decode prog_12_method_36_code 95 = .ok (.ifCond .ne 26, 3) := by decide +kernel
theorem d_Mod_reads_98 : decode prog_12_method_36_code 98 = .ok (.aload_n 0, 1) := by decide +kernel
theorem d_Mod_reads_99 : decode prog_12_method_36_code 99 = .ok (.getfield 18, 3) := by decide +kernel
theorem d_Mod_reads_102 : decode prog_12_method_36_code 102 = .ok (.aload_n 0, 1) := by decide +kernel
theorem d_Mod_reads_103 : decode prog_12_method_36_code 103 = .ok (.getfield 21, 3) := by decide +kernel
theorem d_Mod_reads_106 : decode prog_12_method_36_code 106 = .ok (.if_icmp .ge 15, 3) := by decide +kernel
theorem d_Mod_reads_109 : decode prog_12_method_36_code 109 = .ok (.aload_n 0, 1) := by decide +kernel
theorem d_Mod_reads_110 : decode prog_12_method_36_code 110 = .ok (.aload_n 0, 1) := by decide +kernel
theorem d_Mod_reads_111 : decode prog_12_method_36_code 111 = .ok (.aload_n 0, 1) := by decide +kernel
theorem d_Mod_reads_112 : decode prog_12_method_36_code 112 = .ok (.getfield 18, 3) := by decide +kernel
theorem d_Mod_reads_115 : decode prog_12_method_36_code 115 = .ok (.invokevirtual 49, 3) := by decide +kernel
theorem d_Mod_reads_118 : decode prog_12_method_36_code 118 = .ok (.putfield 218, 3) := by decide +kernel
theorem d_Mod_reads_121 : decode prog_12_method_36_code 121 = .ok (.aload_n 0, 1) := by decide +kernel
theorem d_Mod_reads_122 : decode prog_12_method_36_code 122 = .ok (.invokevirtual 41, 3) := by decide +kernel
theorem d_Mod_reads_125 : decode prog_12_method_36_code 125 = .ok (.ifCond .eq 5, 3) := by decide +kernel
theorem d_Mod_reads_128 : decode prog_12_method_36_code 128 = .ok (.iconst 0, 1) := by decide +kernel
theorem d_Mod_reads_129 : decode prog_12_method_36_code 129 = .ok (.ireturn, 1) := by decide +kernel
theorem d_Mod_reads_130 : decode prog_12_method_36_code 130 = .ok (.aload_n 0, 1) := by decide +kernel
theorem d_Mod_reads_131 : decode prog_12_method_36_code 131 = .ok (.invokevirtual 221, 3) := by decide +kernel
theorem d_Mod_reads_134 : decode prog_12_method_36_code 134 = .ok (.iconst 1, 1) := by decide +kernel
theorem d_Mod_reads_135 : decode prog_12_method_36_code 135 = .ok (.ireturn, 1) := by decide +kernel
def fm_Mod_reads_j121 (w : fa_W) : Option (Bool × fa_W) :=
  if fm_Mod_hasFailed w = true then
  some (false, w)
  else
  ((fm_Mod_renumbers w).bind fun w25 =>
  some (true, w25))
set_option maxHeartbeats 4000000 in
set_option maxRecDepth 100000 in
theorem c_Mod_reads_j121 {p : Program} {l : Launch} {e : Env} {s : State} {m : MethodId} {args : Array Value} {below : List Frame} {meth : Method} {c : Code} {hh : Nat} {D : va_G} {b : Nat} {aC : Nat → ClassId} {H0 : Heap} {N T : Nat} (X : fa_GX p s m args meth c prog_12_method_36_code 1 ((Option.some Jvm.ClassFile.FieldType.boolean)) y_Mod_reads.cls D b aC) (hle : 907 ≤ hh) (hN : fa_NM ≤ N) (hT : fa_TM ≤ T) {r : Bool × fa_W}  : ∀ (w : fa_W) (_ : fm_Mod_reads_j121 w = some r), fa_GJ p l e (fa_rm hh) s m args below meth c 0 0 (MQ below (fa_Qc D b aC H0 N T (some (.int (fa_I (fa_bi r.1)))) r.2) args s 0 0 (fun q => b ≤ q)) D b aC H0 N T 1 w 121 [(0, .ref (b + 181))] [] := by
  intro w hM
  unfold fm_Mod_reads_j121 at hM
  refine g_aload_n X 0 rfl d_Mod_reads_121 ?_
  refine g_callV_i X ck_10 fo_181 (fn_181 hN) rfl mi_Mod_hasFailed (c_Mod_hasFailed hN hT w _ rfl) wd_1494 rfl (Nat.le_trans (Nat.le_of_ble_eq_true rfl) hle) (st := []) (Nat.le_of_ble_eq_true rfl) rfl d_Mod_reads_122 ?_
  refine g_ifb_eq X 130 d_Mod_reads_125 (by decide) (fun hc23 => ?_) (fun hc23 => ?_)
  · have hM := fa_ifb_f hM hc23
    refine g_aload_n X 0 rfl d_Mod_reads_130 ?_
    obtain ⟨w25, e24, hM⟩ := fa_ob hM
    refine g_callV_v X ck_10 fo_181 (fn_181 hN) rfl mi_Mod_renumbers (c_Mod_renumbers hN hT w _ e24) wd_1616 rfl (Nat.le_trans (Nat.le_of_ble_eq_true rfl) hle) (st := []) (Nat.le_of_ble_eq_true rfl) rfl d_Mod_reads_131 ?_
    refine g_iconst X d_Mod_reads_134 ?_
    cases hM
    exact g_zret X rfl d_Mod_reads_135
  · have hM := fa_ifb_t hM hc23
    refine g_iconst X d_Mod_reads_128 ?_
    cases hM
    exact g_zret X rfl d_Mod_reads_129
def fm_Mod_reads_j79 (w : fa_W) : Option (Bool × fa_W) :=
  fa_bd (fm_Mod_expression 900 w) fun v15 w16 =>
  fa_let (fa_st w16 181 21 v15) fun w17 =>
  (fm_Mod_blanks w17).bind fun w19 =>
  if fm_Mod_hasFailed w19 = true then
  fm_Mod_reads_j121 w19
  else
  (if fa_wr (w19 181 25) ≤ fa_wr (w19 181 26) then
  fm_Mod_reads_j121 w19
  else
  (fa_l2 (fm_Mod_fails (w19 181 26) w19) fun v28 w29 =>
  fa_let (fa_st w29 181 21 v28) fun w30 =>
  fm_Mod_reads_j121 w30))
set_option maxHeartbeats 4000000 in
set_option maxRecDepth 100000 in
theorem c_Mod_reads_j79 {p : Program} {l : Launch} {e : Env} {s : State} {m : MethodId} {args : Array Value} {below : List Frame} {meth : Method} {c : Code} {hh : Nat} {D : va_G} {b : Nat} {aC : Nat → ClassId} {H0 : Heap} {N T : Nat} (X : fa_GX p s m args meth c prog_12_method_36_code 1 ((Option.some Jvm.ClassFile.FieldType.boolean)) y_Mod_reads.cls D b aC) (hle : 907 ≤ hh) (hN : fa_NM ≤ N) (hT : fa_TM ≤ T) {r : Bool × fa_W}  : ∀ (w : fa_W) (_ : fm_Mod_reads_j79 w = some r), fa_GJ p l e (fa_rm hh) s m args below meth c 0 0 (MQ below (fa_Qc D b aC H0 N T (some (.int (fa_I (fa_bi r.1)))) r.2) args s 0 0 (fun q => b ≤ q)) D b aC H0 N T 1 w 79 [(0, .ref (b + 181))] [] := by
  intro w hM
  unfold fm_Mod_reads_j79 at hM
  refine g_aload_n X 0 rfl d_Mod_reads_79 ?_
  refine g_aload_n X 0 rfl d_Mod_reads_80 ?_
  obtain ⟨v15, w16, e14, hM⟩ := fa_obd hM
  refine g_callV_i X ck_10 fo_181 (fn_181 hN) rfl mi_Mod_expression (c_Mod_expression hN hT 900 w _ e14) wd_1560 rfl (Nat.le_trans (Nat.le_of_ble_eq_true rfl) hle) (st := [.ref (b + 181)]) (Nat.le_of_ble_eq_true rfl) rfl d_Mod_reads_81 ?_
  refine g_put X ck_10 fo_181 (fn_181 hN) 21 (z := v15) (by decide) wd_1763 rfl (fa_fvI' rfl) rfl rfl rfl d_Mod_reads_84 (fun w17 ew17 => ?_)
  have hM := fa_let_to hM ew17
  refine g_aload_n X 0 rfl d_Mod_reads_87 ?_
  obtain ⟨w19, e18, hM⟩ := fa_ob hM
  refine g_callV_v X ck_10 fo_181 (fn_181 hN) rfl mi_Mod_blanks (c_Mod_blanks hN hT w17 _ e18) wd_1502 rfl (Nat.le_trans (Nat.le_of_ble_eq_true rfl) hle) (st := []) (Nat.le_of_ble_eq_true rfl) rfl d_Mod_reads_88 ?_
  refine g_aload_n X 0 rfl d_Mod_reads_91 ?_
  refine g_callV_i X ck_10 fo_181 (fn_181 hN) rfl mi_Mod_hasFailed (c_Mod_hasFailed hN hT w19 _ rfl) wd_1494 rfl (Nat.le_trans (Nat.le_of_ble_eq_true rfl) hle) (st := []) (Nat.le_of_ble_eq_true rfl) rfl d_Mod_reads_92 ?_
  refine g_ifb_ne X 121 d_Mod_reads_95 (by decide) (fun hc21 => ?_) (fun hc21 => ?_)
  · have hM := fa_ifb_t hM hc21
    exact g_lv [0] rfl (c_Mod_reads_j121 X hle hN hT    _ hM)
  · have hM := fa_ifb_f hM hc21
    refine g_aload_n X 0 rfl d_Mod_reads_98 ?_
    refine g_get X ck_10 fo_181 (fn_181 hN) 26 (by decide) wd_1767 rfl (fa_fvI rfl) d_Mod_reads_99 ?_
    refine g_aload_n X 0 rfl d_Mod_reads_102 ?_
    refine g_get X ck_10 fo_181 (fn_181 hN) 25 (by decide) wd_1766 rfl (fa_fvI rfl) d_Mod_reads_103 ?_
    refine g_icmp_ge X 121 d_Mod_reads_106 (by decide) (fun hc26 => ?_) (fun hc26 => ?_)
    · have hM := fa_if_t hM hc26
      exact g_lv [0] rfl (c_Mod_reads_j121 X hle hN hT    _ hM)
    · have hM := fa_if_f hM hc26
      refine g_aload_n X 0 rfl d_Mod_reads_109 ?_
      refine g_aload_n X 0 rfl d_Mod_reads_110 ?_
      refine g_aload_n X 0 rfl d_Mod_reads_111 ?_
      refine g_get X ck_10 fo_181 (fn_181 hN) 26 (by decide) wd_1767 rfl (fa_fvI rfl) d_Mod_reads_112 ?_
      obtain ⟨⟨v28, w29⟩, e27⟩ : ∃ q, fm_Mod_fails (w19 181 26) w19 = q := ⟨_, rfl⟩
      have hM := fa_l2_e hM e27
      refine g_callV_i X ck_10 fo_181 (fn_181 hN) rfl mi_Mod_fails (c_Mod_fails hN hT (w19 181 26) w19 _ e27) wd_1517 rfl (Nat.le_trans (Nat.le_of_ble_eq_true rfl) hle) (st := [.ref (b + 181)]) (Nat.le_of_ble_eq_true rfl) rfl d_Mod_reads_115 ?_
      refine g_put X ck_10 fo_181 (fn_181 hN) 21 (z := v28) (by decide) wd_1763 rfl (fa_fvI' rfl) rfl rfl rfl d_Mod_reads_118 (fun w30 ew30 => ?_)
      have hM := fa_let_to hM ew30
      exact g_lv [0] rfl (c_Mod_reads_j121 X hle hN hT    _ hM)
def fm_Mod_reads_l55  : Nat → fa_W → Option (Bool × fa_W)
  | 0, _ => none
  | n + 1, w => if fm_Mod_hasFailed w = true then
  fm_Mod_reads_j79 w
  else
  (fa_bd (fm_Mod_wordAhead w) fun v32 w33 =>
  if fa_wr v32 = 4955 then
  ((fm_Mod_global w33).bind fun w36 =>
  fm_Mod_reads_l55 n w36)
  else
  fm_Mod_reads_j79 w33)
set_option maxHeartbeats 4000000 in
set_option maxRecDepth 100000 in
theorem c_Mod_reads_l55 {p : Program} {l : Launch} {e : Env} {s : State} {m : MethodId} {args : Array Value} {below : List Frame} {meth : Method} {c : Code} {hh : Nat} {D : va_G} {b : Nat} {aC : Nat → ClassId} {H0 : Heap} {N T : Nat} (X : fa_GX p s m args meth c prog_12_method_36_code 1 ((Option.some Jvm.ClassFile.FieldType.boolean)) y_Mod_reads.cls D b aC) (hle : 907 ≤ hh) (hN : fa_NM ≤ N) (hT : fa_TM ≤ T) {r : Bool × fa_W}  : ∀ (n : Nat) (w : fa_W), fm_Mod_reads_l55 n w = some r → fa_GJ p l e (fa_rm hh) s m args below meth c 0 0 (MQ below (fa_Qc D b aC H0 N T (some (.int (fa_I (fa_bi r.1)))) r.2) args s 0 0 (fun q => b ≤ q)) D b aC H0 N T 1 w 55 [(0, .ref (b + 181))] [] := by
  intro n
  induction n with
  | zero => intro w hM; exact fa_no hM
  | succ n ih =>
    intro w hM
    rw [fm_Mod_reads_l55] at hM
    refine g_aload_n X 0 rfl d_Mod_reads_55 ?_
    refine g_callV_i X ck_10 fo_181 (fn_181 hN) rfl mi_Mod_hasFailed (c_Mod_hasFailed hN hT w _ rfl) wd_1494 rfl (Nat.le_trans (Nat.le_of_ble_eq_true rfl) hle) (st := []) (Nat.le_of_ble_eq_true rfl) rfl d_Mod_reads_56 ?_
    refine g_ifb_ne X 79 d_Mod_reads_59 (by decide) (fun hc13 => ?_) (fun hc13 => ?_)
    · have hM := fa_ifb_t hM hc13
      exact g_lv [0] rfl (c_Mod_reads_j79 X hle hN hT    _ hM)
    · have hM := fa_ifb_f hM hc13
      refine g_aload_n X 0 rfl d_Mod_reads_62 ?_
      obtain ⟨v32, w33, e31, hM⟩ := fa_obd hM
      refine g_callV_i X ck_10 fo_181 (fn_181 hN) rfl mi_Mod_wordAhead (c_Mod_wordAhead hN hT w _ e31) wd_1498 rfl (Nat.le_trans (Nat.le_of_ble_eq_true rfl) hle) (st := []) (Nat.le_of_ble_eq_true rfl) rfl d_Mod_reads_63 ?_
      refine g_gets X (n := "FUN") (v := 4955) (z := 4955) (by decide) wd_1511 rfl d_Mod_reads_66 ?_
      refine g_icmp_ne X 79 d_Mod_reads_69 (by decide) (fun hc34 => ?_) (fun hc34 => ?_)
      · have hM := fa_if_f hM hc34
        exact g_lv [0] rfl (c_Mod_reads_j79 X hle hN hT    _ hM)
      · have hM := fa_if_t hM hc34
        refine g_aload_n X 0 rfl d_Mod_reads_72 ?_
        obtain ⟨w36, e35, hM⟩ := fa_ob hM
        refine g_callV_v X ck_10 fo_181 (fn_181 hN) rfl mi_Mod_global (c_Mod_global hN hT w33 _ e35) wd_1513 rfl (Nat.le_trans (Nat.le_of_ble_eq_true rfl) hle) (st := []) (Nat.le_of_ble_eq_true rfl) rfl d_Mod_reads_73 ?_
        refine g_goto X 55 d_Mod_reads_76 (by decide) ?_
        exact g_lv [0] rfl (ih _ hM)
def fm_Mod_reads (w : fa_W) : Option (Bool × fa_W) :=
  fa_let (fa_st w 181 16 0) fun w1 =>
  fa_let (fa_st w1 181 35 0) fun w2 =>
  fa_let (fa_st w2 181 17 0) fun w3 =>
  fa_let (fa_st w3 181 18 0) fun w4 =>
  fa_let (fa_st w4 181 19 0) fun w5 =>
  fa_let (fa_st w5 181 20 0) fun w6 =>
  fa_let (fa_st w6 181 26 0) fun w7 =>
  fa_let (fa_st w7 181 29 0) fun w8 =>
  fa_let (fa_st w8 181 30 (-1)) fun w9 =>
  fa_let (fa_st w9 181 33 0) fun w10 =>
  fa_let (fa_st w10 181 28 (-1)) fun w11 =>
  fm_Mod_reads_l55 fa_FU w11
set_option maxHeartbeats 4000000 in
set_option maxRecDepth 100000 in
theorem c_Mod_reads {l : Launch} {D : va_G} {b : Nat} {aC : Nat → ClassId} {H0 : Heap} {N T : Nat} (hN : fa_NM ≤ N) (hT : fa_TM ≤ T)   (w : fa_W) (r : Bool × fa_W) (hM : fm_Mod_reads w = some r) : fa_MC l D b aC H0 N T y_Mod_reads prog_12_method_36_code 1 ((Option.some Jvm.ClassFile.FieldType.boolean)) (907) [.ref (b + 181)] w (some (.int (fa_I (fa_bi r.1)))) r.2 := by
  refine fa_enter (lv := [(0, .ref (b + 181))]) (by decide +kernel) (Nat.le_of_ble_eq_true rfl) rfl (fun hh hle hnm X => ?_)
  unfold fm_Mod_reads at hM
  refine g_aload_n X 0 rfl d_Mod_reads_0 ?_
  refine g_iconst X d_Mod_reads_1 ?_
  refine g_put X ck_10 fo_181 (fn_181 hN) 16 (z := 0) (by decide) wd_1758 rfl (fa_fvI' rfl) rfl rfl rfl d_Mod_reads_2 (fun w1 ew1 => ?_)
  have hM := fa_let_to hM ew1
  refine g_aload_n X 0 rfl d_Mod_reads_5 ?_
  refine g_iconst X d_Mod_reads_6 ?_
  refine g_put X ck_10 fo_181 (fn_181 hN) 35 (z := 0) (by decide) wd_1776 rfl (fa_fvI' rfl) rfl rfl rfl d_Mod_reads_7 (fun w2 ew2 => ?_)
  have hM := fa_let_to hM ew2
  refine g_aload_n X 0 rfl d_Mod_reads_10 ?_
  refine g_iconst X d_Mod_reads_11 ?_
  refine g_put X ck_10 fo_181 (fn_181 hN) 17 (z := 0) (by decide) wd_1759 rfl (fa_fvI' rfl) rfl rfl rfl d_Mod_reads_12 (fun w3 ew3 => ?_)
  have hM := fa_let_to hM ew3
  refine g_aload_n X 0 rfl d_Mod_reads_15 ?_
  refine g_iconst X d_Mod_reads_16 ?_
  refine g_put X ck_10 fo_181 (fn_181 hN) 18 (z := 0) (by decide) wd_1760 rfl (fa_fvI' rfl) rfl rfl rfl d_Mod_reads_17 (fun w4 ew4 => ?_)
  have hM := fa_let_to hM ew4
  refine g_aload_n X 0 rfl d_Mod_reads_20 ?_
  refine g_iconst X d_Mod_reads_21 ?_
  refine g_put X ck_10 fo_181 (fn_181 hN) 19 (z := 0) (by decide) wd_1761 rfl (fa_fvI' rfl) rfl rfl rfl d_Mod_reads_22 (fun w5 ew5 => ?_)
  have hM := fa_let_to hM ew5
  refine g_aload_n X 0 rfl d_Mod_reads_25 ?_
  refine g_iconst X d_Mod_reads_26 ?_
  refine g_put X ck_10 fo_181 (fn_181 hN) 20 (z := 0) (by decide) wd_1762 rfl (fa_fvI' rfl) rfl rfl rfl d_Mod_reads_27 (fun w6 ew6 => ?_)
  have hM := fa_let_to hM ew6
  refine g_aload_n X 0 rfl d_Mod_reads_30 ?_
  refine g_iconst X d_Mod_reads_31 ?_
  refine g_put X ck_10 fo_181 (fn_181 hN) 26 (z := 0) (by decide) wd_1767 rfl (fa_fvI' rfl) rfl rfl rfl d_Mod_reads_32 (fun w7 ew7 => ?_)
  have hM := fa_let_to hM ew7
  refine g_aload_n X 0 rfl d_Mod_reads_35 ?_
  refine g_iconst X d_Mod_reads_36 ?_
  refine g_put X ck_10 fo_181 (fn_181 hN) 29 (z := 0) (by decide) wd_1770 rfl (fa_fvI' rfl) rfl rfl rfl d_Mod_reads_37 (fun w8 ew8 => ?_)
  have hM := fa_let_to hM ew8
  refine g_aload_n X 0 rfl d_Mod_reads_40 ?_
  refine g_iconst X d_Mod_reads_41 ?_
  refine g_put X ck_10 fo_181 (fn_181 hN) 30 (z := (-1)) (by decide) wd_1771 rfl (fa_fvI' rfl) rfl rfl rfl d_Mod_reads_42 (fun w9 ew9 => ?_)
  have hM := fa_let_to hM ew9
  refine g_aload_n X 0 rfl d_Mod_reads_45 ?_
  refine g_iconst X d_Mod_reads_46 ?_
  refine g_put X ck_10 fo_181 (fn_181 hN) 33 (z := 0) (by decide) wd_1774 rfl (fa_fvI' rfl) rfl rfl rfl d_Mod_reads_47 (fun w10 ew10 => ?_)
  have hM := fa_let_to hM ew10
  refine g_aload_n X 0 rfl d_Mod_reads_50 ?_
  refine g_iconst X d_Mod_reads_51 ?_
  refine g_put X ck_10 fo_181 (fn_181 hN) 28 (z := (-1)) (by decide) wd_1769 rfl (fa_fvI' rfl) rfl rfl rfl d_Mod_reads_52 (fun w11 ew11 => ?_)
  have hM := fa_let_to hM ew11
  exact g_lv [0] rfl (c_Mod_reads_l55 X hle hN hT   fa_FU _ hM)
theorem d_Mod_functions_0 : decode prog_12_method_41_code 0 = .ok (.aload_n 0, 1) := by decide +kernel
theorem d_Mod_functions_1 : decode prog_12_method_41_code 1 = .ok (.getfield 209, 3) := by decide +kernel
theorem d_Mod_functions_4 : decode prog_12_method_41_code 4 = .ok (.aload_n 0, 1) := by decide +kernel
theorem d_Mod_functions_5 : decode prog_12_method_41_code 5 = .ok (.getfield 140, 3) := by decide +kernel
theorem d_Mod_functions_8 : decode prog_12_method_41_code 8 = .ok (.iadd, 1) := by decide +kernel
theorem d_Mod_functions_9 : decode prog_12_method_41_code 9 = .ok (.ireturn, 1) := by decide +kernel
def fm_Mod_functions (w : fa_W) : Int :=
  (w 181 17) + (w 181 18)
set_option maxHeartbeats 4000000 in
set_option maxRecDepth 100000 in
theorem c_Mod_functions {l : Launch} {D : va_G} {b : Nat} {aC : Nat → ClassId} {H0 : Heap} {N T : Nat} (hN : fa_NM ≤ N) (hT : fa_TM ≤ T)   (w : fa_W) (r : Int) (hM : fm_Mod_functions w = r) : fa_MC l D b aC H0 N T y_Mod_functions prog_12_method_41_code 1 ((Option.some Jvm.ClassFile.FieldType.int)) (0) [.ref (b + 181)] w (some (.int (fa_I r))) w := by
  refine fa_enter (lv := [(0, .ref (b + 181))]) (by decide +kernel) (Nat.le_of_ble_eq_true rfl) rfl (fun hh hle hnm X => ?_)
  unfold fm_Mod_functions at hM
  refine g_aload_n X 0 rfl d_Mod_functions_0 ?_
  refine g_get X ck_10 fo_181 (fn_181 hN) 17 (by decide) wd_1759 rfl (fa_fvI rfl) d_Mod_functions_1 ?_
  refine g_aload_n X 0 rfl d_Mod_functions_4 ?_
  refine g_get X ck_10 fo_181 (fn_181 hN) 18 (by decide) wd_1760 rfl (fa_fvI rfl) d_Mod_functions_5 ?_
  refine g_iadd X d_Mod_functions_8 ?_
  subst hM
  exact g_iret X d_Mod_functions_9
theorem d_Mod_type2_0 : decode prog_12_method_42_code 0 = .ok (.aload_n 0, 1) := by decide +kernel
theorem d_Mod_type2_1 : decode prog_12_method_42_code 1 = .ok (.getfield 233, 3) := by decide +kernel
theorem d_Mod_type2_4 : decode prog_12_method_42_code 4 = .ok (.aload_n 0, 1) := by decide +kernel
theorem d_Mod_type2_5 : decode prog_12_method_42_code 5 = .ok (.getfield 236, 3) := by decide +kernel
theorem d_Mod_type2_8 : decode prog_12_method_42_code 8 = .ok (.iload_n 1, 1) := by decide +kernel
theorem d_Mod_type2_9 : decode prog_12_method_42_code 9 = .ok (.iastore, 1) := by decide +kernel
theorem d_Mod_type2_10 : decode prog_12_method_42_code 10 = .ok (.aload_n 0, 1) := by decide +kernel
theorem d_Mod_type2_11 : decode prog_12_method_42_code 11 = .ok (.getfield 239, 3) := by decide +kernel
theorem d_Mod_type2_14 : decode prog_12_method_42_code 14 = .ok (.aload_n 0, 1) := by decide +kernel
theorem d_Mod_type2_15 : decode prog_12_method_42_code 15 = .ok (.getfield 236, 3) := by decide +kernel
theorem d_Mod_type2_18 : decode prog_12_method_42_code 18 = .ok (.iload_n 2, 1) := by decide +kernel
theorem d_Mod_type2_19 : decode prog_12_method_42_code 19 = .ok (.iastore, 1) := by decide +kernel
theorem d_Mod_type2_20 : decode prog_12_method_42_code 20 = .ok (.aload_n 0, 1) := by decide +kernel
theorem d_Mod_type2_21 : decode prog_12_method_42_code 21 = .ok (.getfield 242, 3) := by decide +kernel
theorem d_Mod_type2_24 : decode prog_12_method_42_code 24 = .ok (.aload_n 0, 1) := by decide +kernel
theorem d_Mod_type2_25 : decode prog_12_method_42_code 25 = .ok (.getfield 236, 3) := by decide +kernel
theorem d_Mod_type2_28 : decode prog_12_method_42_code 28 = .ok (.iload_n 3, 1) := by decide +kernel
theorem d_Mod_type2_29 : decode prog_12_method_42_code 29 = .ok (.iastore, 1) := by decide +kernel
theorem d_Mod_type2_30 : decode prog_12_method_42_code 30 = .ok (.aload_n 0, 1) := by decide +kernel
theorem d_Mod_type2_31 : decode prog_12_method_42_code 31 = .ok (.getfield 245, 3) := by decide +kernel
theorem d_Mod_type2_34 : decode prog_12_method_42_code 34 = .ok (.aload_n 0, 1) := by decide +kernel
theorem d_Mod_type2_35 : decode prog_12_method_42_code 35 = .ok (.getfield 236, 3) := by decide +kernel
theorem d_Mod_type2_38 : decode prog_12_method_42_code 38 = .ok (.aload_n 0, 1) := by decide +kernel
theorem d_Mod_type2_39 : decode prog_12_method_42_code 39 = .ok (.getfield 236, 3) := by decide +kernel
theorem d_Mod_type2_42 : decode prog_12_method_42_code 42 = .ok (.iastore, 1) := by decide +kernel
theorem d_Mod_type2_43 : decode prog_12_method_42_code 43 = .ok (.aload_n 0, 1) := by decide +kernel
theorem d_Mod_type2_44 : decode prog_12_method_42_code 44 = .ok (.dup, 1) := by decide +kernel
theorem d_Mod_type2_45 : decode prog_12_method_42_code 45 = .ok (.getfield 236, 3) := by decide +kernel
theorem d_Mod_type2_48 : decode prog_12_method_42_code 48 = .ok (.iconst 1, 1) := by decide +kernel
theorem d_Mod_type2_49 : decode prog_12_method_42_code 49 = .ok (.iadd, 1) := by decide +kernel
theorem d_Mod_type2_50 : decode prog_12_method_42_code 50 = .ok (.putfield 236, 3) := by decide +kernel
theorem d_Mod_type2_53 : decode prog_12_method_42_code 53 = .ok (.aload_n 0, 1) := by decide +kernel
theorem d_Mod_type2_54 : decode prog_12_method_42_code 54 = .ok (.getfield 236, 3) := by decide +kernel
theorem d_Mod_type2_57 : decode prog_12_method_42_code 57 = .ok (.iconst 1, 1) := by decide +kernel
theorem d_Mod_type2_58 : decode prog_12_method_42_code 58 = .ok (.isub, 1) := by decide +kernel
theorem d_Mod_type2_59 : decode prog_12_method_42_code 59 = .ok (.ireturn, 1) := by decide +kernel
def fm_Mod_type2 (a1 : Int) (a2 : Int) (a3 : Int) (w : fa_W) : Option (Int × fa_W) :=
  (fa_ix (w 181 43) 1200).bind fun j1 =>
  fa_let (fa_st w 199 j1 a1) fun w2 =>
  (fa_ix (w2 181 43) 1200).bind fun j3 =>
  fa_let (fa_st w2 200 j3 a2) fun w4 =>
  (fa_ix (w4 181 43) 1200).bind fun j5 =>
  fa_let (fa_st w4 201 j5 a3) fun w6 =>
  (fa_ix (w6 181 43) 1200).bind fun j7 =>
  fa_let (fa_st w6 202 j7 (w6 181 43)) fun w8 =>
  fa_let (fa_st w8 181 43 ((w8 181 43) + 1)) fun w9 =>
  some ((w9 181 43) - 1, w9)
set_option maxHeartbeats 4000000 in
set_option maxRecDepth 100000 in
theorem c_Mod_type2 {l : Launch} {D : va_G} {b : Nat} {aC : Nat → ClassId} {H0 : Heap} {N T : Nat} (hN : fa_NM ≤ N) (hT : fa_TM ≤ T) (a1 : Int) (a2 : Int) (a3 : Int)  (w : fa_W) (r : Int × fa_W) (hM : fm_Mod_type2 a1 a2 a3 w = some r) : fa_MC l D b aC H0 N T y_Mod_type2 prog_12_method_42_code 4 ((Option.some Jvm.ClassFile.FieldType.int)) (0) [.ref (b + 181), .int (fa_I a1), .int (fa_I a2), .int (fa_I a3)] w (some (.int (fa_I r.1))) r.2 := by
  refine fa_enter (lv := [(0, .ref (b + 181)), (1, .int (fa_I a1)), (2, .int (fa_I a2)), (3, .int (fa_I a3))]) (by decide +kernel) (Nat.le_of_ble_eq_true rfl) rfl (fun hh hle hnm X => ?_)
  unfold fm_Mod_type2 at hM
  refine g_aload_n X 0 rfl d_Mod_type2_0 ?_
  refine g_get X ck_10 fo_181 (fn_181 hN) 36 (by decide) wd_1777 rfl (fr_181_36 rfl hT) d_Mod_type2_1 ?_
  refine g_aload_n X 0 rfl d_Mod_type2_4 ?_
  refine g_get X ck_10 fo_181 (fn_181 hN) 43 (by decide) wd_1784 rfl (fa_fvI rfl) d_Mod_type2_5 ?_
  refine g_iload_n X 1 rfl d_Mod_type2_8 ?_
  obtain ⟨j1, ej1, hM⟩ := fa_ob hM
  refine g_iast X fs_199 (fn_199 hN) ej1 d_Mod_type2_9 (fun w2 ew2 => ?_)
  have hM := fa_let_to hM ew2
  refine g_aload_n X 0 rfl d_Mod_type2_10 ?_
  refine g_get X ck_10 fo_181 (fn_181 hN) 37 (by decide) wd_1778 rfl (fr_181_37 rfl hT) d_Mod_type2_11 ?_
  refine g_aload_n X 0 rfl d_Mod_type2_14 ?_
  refine g_get X ck_10 fo_181 (fn_181 hN) 43 (by decide) wd_1784 rfl (fa_fvI rfl) d_Mod_type2_15 ?_
  refine g_iload_n X 2 rfl d_Mod_type2_18 ?_
  obtain ⟨j3, ej3, hM⟩ := fa_ob hM
  refine g_iast X fs_200 (fn_200 hN) ej3 d_Mod_type2_19 (fun w4 ew4 => ?_)
  have hM := fa_let_to hM ew4
  refine g_aload_n X 0 rfl d_Mod_type2_20 ?_
  refine g_get X ck_10 fo_181 (fn_181 hN) 38 (by decide) wd_1779 rfl (fr_181_38 rfl hT) d_Mod_type2_21 ?_
  refine g_aload_n X 0 rfl d_Mod_type2_24 ?_
  refine g_get X ck_10 fo_181 (fn_181 hN) 43 (by decide) wd_1784 rfl (fa_fvI rfl) d_Mod_type2_25 ?_
  refine g_iload_n X 3 rfl d_Mod_type2_28 ?_
  obtain ⟨j5, ej5, hM⟩ := fa_ob hM
  refine g_iast X fs_201 (fn_201 hN) ej5 d_Mod_type2_29 (fun w6 ew6 => ?_)
  have hM := fa_let_to hM ew6
  refine g_aload_n X 0 rfl d_Mod_type2_30 ?_
  refine g_get X ck_10 fo_181 (fn_181 hN) 39 (by decide) wd_1780 rfl (fr_181_39 rfl hT) d_Mod_type2_31 ?_
  refine g_aload_n X 0 rfl d_Mod_type2_34 ?_
  refine g_get X ck_10 fo_181 (fn_181 hN) 43 (by decide) wd_1784 rfl (fa_fvI rfl) d_Mod_type2_35 ?_
  refine g_aload_n X 0 rfl d_Mod_type2_38 ?_
  refine g_get X ck_10 fo_181 (fn_181 hN) 43 (by decide) wd_1784 rfl (fa_fvI rfl) d_Mod_type2_39 ?_
  obtain ⟨j7, ej7, hM⟩ := fa_ob hM
  refine g_iast X fs_202 (fn_202 hN) ej7 d_Mod_type2_42 (fun w8 ew8 => ?_)
  have hM := fa_let_to hM ew8
  refine g_aload_n X 0 rfl d_Mod_type2_43 ?_
  refine g_dup X rfl d_Mod_type2_44 ?_
  refine g_get X ck_10 fo_181 (fn_181 hN) 43 (by decide) wd_1784 rfl (fa_fvI rfl) d_Mod_type2_45 ?_
  refine g_iconst X d_Mod_type2_48 ?_
  refine g_iadd X d_Mod_type2_49 ?_
  refine g_put X ck_10 fo_181 (fn_181 hN) 43 (z := ((w8 181 43) + 1)) (by decide) wd_1784 rfl (fa_fvI' rfl) rfl rfl rfl d_Mod_type2_50 (fun w9 ew9 => ?_)
  have hM := fa_let_to hM ew9
  refine g_aload_n X 0 rfl d_Mod_type2_53 ?_
  refine g_get X ck_10 fo_181 (fn_181 hN) 43 (by decide) wd_1784 rfl (fa_fvI rfl) d_Mod_type2_54 ?_
  refine g_iconst X d_Mod_type2_57 ?_
  refine g_isub X d_Mod_type2_58 ?_
  cases hM
  exact g_iret X d_Mod_type2_59
theorem d_Mod_find_0 : decode prog_12_method_43_code 0 = .ok (.iload_n 1, 1) := by decide +kernel
theorem d_Mod_find_1 : decode prog_12_method_43_code 1 = .ok (.istore_n 2, 1) := by decide +kernel
theorem d_Mod_find_2 : decode prog_12_method_43_code 2 = .ok (.aload_n 0, 1) := by decide +kernel
theorem d_Mod_find_3 : decode prog_12_method_43_code 3 = .ok (.getfield 245, 3) := by decide +kernel
theorem d_Mod_find_6 : decode prog_12_method_43_code 6 = .ok (.iload_n 2, 1) := by decide +kernel
theorem d_Mod_find_7 : decode prog_12_method_43_code 7 = .ok (.iaload, 1) := by decide +kernel
theorem d_Mod_find_8 : decode prog_12_method_43_code 8 = .ok (.iload_n 2, 1) := by decide +kernel
theorem d_Mod_find_9 : decode prog_12_method_43_code 9 = .ok (.if_icmp .eq 13, 3) := by decide +kernel
theorem d_Mod_find_12 : decode prog_12_method_43_code 12 = .ok (.aload_n 0, 1) := by decide +kernel
theorem d_Mod_find_13 : decode prog_12_method_43_code 13 = .ok (.getfield 245, 3) := by decide +kernel
theorem d_Mod_find_16 : decode prog_12_method_43_code 16 = .ok (.iload_n 2, 1) := by decide +kernel
theorem d_Mod_find_17 : decode prog_12_method_43_code 17 = .ok (.iaload, 1) := by decide +kernel
theorem d_Mod_find_18 : decode prog_12_method_43_code 18 = .ok (.istore_n 2, 1) := by decide +kernel
theorem d_Mod_find_19 : decode prog_12_method_43_code 19 = .ok (.goto (-17), 3) := by decide +kernel
theorem d_Mod_find_22 : decode prog_12_method_43_code 22 = .ok (.iload_n 2, 1) := by decide +kernel
theorem d_Mod_find_23 : decode prog_12_method_43_code 23 = .ok (.ireturn, 1) := by decide +kernel
def fm_Mod_find_l2 (a1 : Int) (w : fa_W) : Nat → Int → Option Int
  | 0, _ => none
  | n + 1, x2 => (fa_ix x2 1200).bind fun j1 =>
  if fa_wr (w 202 j1) = fa_wr x2 then
  some x2
  else
  ((fa_ix x2 1200).bind fun j3 =>
  fa_let (w 202 j3) fun x2_4 =>
  fm_Mod_find_l2 a1 w n x2_4)
set_option maxHeartbeats 4000000 in
set_option maxRecDepth 100000 in
theorem c_Mod_find_l2 {p : Program} {l : Launch} {e : Env} {s : State} {m : MethodId} {args : Array Value} {below : List Frame} {meth : Method} {c : Code} {hh : Nat} {D : va_G} {b : Nat} {aC : Nat → ClassId} {H0 : Heap} {N T : Nat} (X : fa_GX p s m args meth c prog_12_method_43_code 3 ((Option.some Jvm.ClassFile.FieldType.int)) y_Mod_find.cls D b aC) (hle : 0 ≤ hh) (hN : fa_NM ≤ N) (hT : fa_TM ≤ T) (a1 : Int) {r : Int} (w : fa_W) : ∀ (n : Nat) (x2 : Int), fm_Mod_find_l2 a1 w n x2 = some r → fa_GJ p l e (fa_rm hh) s m args below meth c 0 0 (MQ below (fa_Qc D b aC H0 N T (some (.int (fa_I r))) w) args s 0 0 (fun q => b ≤ q)) D b aC H0 N T 3 w 2 [(0, .ref (b + 181)), (2, .int (fa_I x2))] [] := by
  intro n
  induction n with
  | zero => intro x2 hM; exact fa_no hM
  | succ n ih =>
    intro x2 hM
    rw [fm_Mod_find_l2] at hM
    refine g_aload_n X 0 rfl d_Mod_find_2 ?_
    refine g_get X ck_10 fo_181 (fn_181 hN) 39 (by decide) wd_1780 rfl (fr_181_39 rfl hT) d_Mod_find_3 ?_
    refine g_iload_n X 1 rfl d_Mod_find_6 ?_
    obtain ⟨j1, ej1, hM⟩ := fa_ob hM
    refine g_iald X fs_202 (fn_202 hN) ej1 d_Mod_find_7 ?_
    refine g_iload_n X 1 rfl d_Mod_find_8 ?_
    refine g_icmp_eq X 22 d_Mod_find_9 (by decide) (fun hc2 => ?_) (fun hc2 => ?_)
    · have hM := fa_if_t hM hc2
      refine g_iload_n X 1 rfl d_Mod_find_22 ?_
      cases hM
      exact g_iret X d_Mod_find_23
    · have hM := fa_if_f hM hc2
      refine g_aload_n X 0 rfl d_Mod_find_12 ?_
      refine g_get X ck_10 fo_181 (fn_181 hN) 39 (by decide) wd_1780 rfl (fr_181_39 rfl hT) d_Mod_find_13 ?_
      refine g_iload_n X 1 rfl d_Mod_find_16 ?_
      obtain ⟨j3, ej3, hM⟩ := fa_ob hM
      refine g_iald X fs_202 (fn_202 hN) ej3 d_Mod_find_17 ?_
      refine g_istore_n X (fun x2_4 => [(2, .int (fa_I x2_4)), (0, .ref (b + 181))]) d_Mod_find_18 (by decide) (fun _ => rfl) (fun x2_4 ex2_4 => ?_)
      have hM := fa_let_to hM ex2_4
      refine g_goto X 2 d_Mod_find_19 (by decide) ?_
      exact g_lv [1, 0] rfl (ih _ hM)
def fm_Mod_find (a1 : Int) (w : fa_W) : Option Int :=
  fm_Mod_find_l2 a1 w fa_FU a1
set_option maxHeartbeats 4000000 in
set_option maxRecDepth 100000 in
theorem c_Mod_find {l : Launch} {D : va_G} {b : Nat} {aC : Nat → ClassId} {H0 : Heap} {N T : Nat} (hN : fa_NM ≤ N) (hT : fa_TM ≤ T) (a1 : Int)  (w : fa_W) (r : Int) (hM : fm_Mod_find a1 w = some r) : fa_MC l D b aC H0 N T y_Mod_find prog_12_method_43_code 3 ((Option.some Jvm.ClassFile.FieldType.int)) (0) [.ref (b + 181), .int (fa_I a1)] w (some (.int (fa_I r))) w := by
  refine fa_enter (lv := [(0, .ref (b + 181)), (1, .int (fa_I a1))]) (by decide +kernel) (Nat.le_of_ble_eq_true rfl) rfl (fun hh hle hnm X => ?_)
  unfold fm_Mod_find at hM
  refine g_iload_n X 1 rfl d_Mod_find_0 ?_
  refine g_istorec_n X [(2, .int (fa_I a1)), (0, .ref (b + 181)), (1, .int (fa_I a1))] d_Mod_find_1 (by decide) rfl ?_
  exact g_lv [1, 0] rfl (c_Mod_find_l2 X hle hN hT a1 w  fa_FU _ hM)
theorem d_Mod_joins_0 : decode prog_12_method_44_code 0 = .ok (.aload_n 0, 1) := by decide +kernel
theorem d_Mod_joins_1 : decode prog_12_method_44_code 1 = .ok (.iload_n 1, 1) := by decide +kernel
theorem d_Mod_joins_2 : decode prog_12_method_44_code 2 = .ok (.invokevirtual 248, 3) := by decide +kernel
theorem d_Mod_joins_5 : decode prog_12_method_44_code 5 = .ok (.istore_n 3, 1) := by decide +kernel
theorem d_Mod_joins_6 : decode prog_12_method_44_code 6 = .ok (.aload_n 0, 1) := by decide +kernel
theorem d_Mod_joins_7 : decode prog_12_method_44_code 7 = .ok (.iload_n 2, 1) := by decide +kernel
theorem d_Mod_joins_8 : decode prog_12_method_44_code 8 = .ok (.invokevirtual 248, 3) := by decide +kernel
theorem d_Mod_joins_11 : decode prog_12_method_44_code 11 = .ok (.istore 4, 2) := by decide +kernel
theorem d_Mod_joins_13 : decode prog_12_method_44_code 13 = .ok (.iload_n 3, 1) := by decide +kernel
theorem d_Mod_joins_14 : decode prog_12_method_44_code 14 = .ok (.iload 4, 2) := by decide +kernel
theorem d_Mod_joins_16 : decode prog_12_method_44_code 16 = .ok (.if_icmp .ne 4, 3) := by decide +kernel
theorem d_Mod_joins_19 : decode prog_12_method_44_code 19 = .ok (.return_, 1) := by decide +kernel
theorem d_Mod_joins_20 : decode prog_12_method_44_code 20 = .ok (.aload_n 0, 1) := by decide +kernel
theorem d_Mod_joins_21 : decode prog_12_method_44_code 21 = .ok (.getfield 233, 3) := by decide +kernel
theorem d_Mod_joins_24 : decode prog_12_method_44_code 24 = .ok (.iload_n 3, 1) := by decide +kernel
theorem d_Mod_joins_25 : decode prog_12_method_44_code 25 = .ok (.iaload, 1) := by decide +kernel
theorem d_Mod_joins_26 : decode prog_12_method_44_code 26 = .ok (.ifCond .ne 12, 3) := by decide +kernel
theorem d_Mod_joins_29 : decode prog_12_method_44_code 29 = .ok (.aload_n 0, 1) := by decide +kernel
theorem d_Mod_joins_30 : decode prog_12_method_44_code 30 = .ok (.getfield 245, 3) := by decide +kernel
theorem d_Mod_joins_33 : decode prog_12_method_44_code 33 = .ok (.iload_n 3, 1) := by decide +kernel
theorem d_Mod_joins_34 : decode prog_12_method_44_code 34 = .ok (.iload 4, 2) := by decide +kernel
theorem d_Mod_joins_36 : decode prog_12_method_44_code 36 = .ok (.iastore, 1) := by decide +kernel
theorem d_Mod_joins_37 : decode prog_12_method_44_code 37 = .ok (.return_, 1) := by decide +kernel
theorem d_Mod_joins_38 : decode prog_12_method_44_code 38 = .ok (.aload_n 0, 1) := by decide +kernel
theorem d_Mod_joins_39 : decode prog_12_method_44_code 39 = .ok (.getfield 233, 3) := by decide +kernel
theorem d_Mod_joins_42 : decode prog_12_method_44_code 42 = .ok (.iload 4, 2) := by decide +kernel
theorem d_Mod_joins_44 : decode prog_12_method_44_code 44 = .ok (.iaload, 1) := by decide +kernel
theorem d_Mod_joins_45 : decode prog_12_method_44_code 45 = .ok (.ifCond .eq 25, 3) := by decide +kernel
theorem d_Mod_joins_48 : decode prog_12_method_44_code 48 = .ok (.aload_n 0, 1) := by decide +kernel
theorem d_Mod_joins_49 : decode prog_12_method_44_code 49 = .ok (.getfield 233, 3) := by decide +kernel
theorem d_Mod_joins_52 : decode prog_12_method_44_code 52 = .ok (.iload_n 3, 1) := by decide +kernel
theorem d_Mod_joins_53 : decode prog_12_method_44_code 53 = .ok (.iaload, 1) := by decide +kernel
theorem d_Mod_joins_54 : decode prog_12_method_44_code 54 = .ok (.aload_n 0, 1) := by decide +kernel
theorem d_Mod_joins_55 : decode prog_12_method_44_code 55 = .ok (.getfield 233, 3) := by decide +kernel
theorem d_Mod_joins_58 : decode prog_12_method_44_code 58 = .ok (.iload 4, 2) := by decide +kernel
theorem d_Mod_joins_60 : decode prog_12_method_44_code 60 = .ok (.iaload, 1) := by decide +kernel
theorem d_Mod_joins_61 : decode prog_12_method_44_code 61 = .ok (.if_icmp .eq 9, 3) := by decide +kernel
theorem d_Mod_joins_64 : decode prog_12_method_44_code 64 = .ok (.aload_n 0, 1) := by decide +kernel
theorem d_Mod_joins_65 : decode prog_12_method_44_code 65 = .ok (.iconst 0, 1) := by decide +kernel
theorem d_Mod_joins_66 : decode prog_12_method_44_code 66 = .ok (.putfield 251, 3) := by decide +kernel
theorem d_Mod_joins_69 : decode prog_12_method_44_code 69 = .ok (.return_, 1) := by decide +kernel
theorem d_Mod_joins_70 : decode prog_12_method_44_code 70 = .ok (.aload_n 0, 1) := by decide +kernel
theorem d_Mod_joins_71 : decode prog_12_method_44_code 71 = .ok (.getfield 245, 3) := by decide +kernel
theorem d_Mod_joins_74 : decode prog_12_method_44_code 74 = .ok (.iload 4, 2) := by decide +kernel
theorem d_Mod_joins_76 : decode prog_12_method_44_code 76 = .ok (.iload_n 3, 1) := by decide +kernel
theorem d_Mod_joins_77 : decode prog_12_method_44_code 77 = .ok (.iastore, 1) := by decide +kernel
theorem d_Mod_joins_78 : decode prog_12_method_44_code 78 = .ok (.aload_n 0, 1) := by decide +kernel
theorem d_Mod_joins_79 : decode prog_12_method_44_code 79 = .ok (.getfield 233, 3) := by decide +kernel
theorem d_Mod_joins_82 : decode prog_12_method_44_code 82 = .ok (.iload 4, 2) := by decide +kernel
theorem d_Mod_joins_84 : decode prog_12_method_44_code 84 = .ok (.iaload, 1) := by decide +kernel
theorem d_Mod_joins_85 : decode prog_12_method_44_code 85 = .ok (.iconst 2, 1) := by decide +kernel
theorem d_Mod_joins_86 : decode prog_12_method_44_code 86 = .ok (.if_icmp .eq 4, 3) := by decide +kernel
theorem d_Mod_joins_89 : decode prog_12_method_44_code 89 = .ok (.return_, 1) := by decide +kernel
theorem d_Mod_joins_90 : decode prog_12_method_44_code 90 = .ok (.aload_n 0, 1) := by decide +kernel
theorem d_Mod_joins_91 : decode prog_12_method_44_code 91 = .ok (.aload_n 0, 1) := by decide +kernel
theorem d_Mod_joins_92 : decode prog_12_method_44_code 92 = .ok (.getfield 239, 3) := by decide +kernel
theorem d_Mod_joins_95 : decode prog_12_method_44_code 95 = .ok (.iload_n 3, 1) := by decide +kernel
theorem d_Mod_joins_96 : decode prog_12_method_44_code 96 = .ok (.iaload, 1) := by decide +kernel
theorem d_Mod_joins_97 : decode prog_12_method_44_code 97 = .ok (.aload_n 0, 1) := by decide +kernel
theorem d_Mod_joins_98 : decode prog_12_method_44_code 98 = .ok (.getfield 239, 3) := by decide +kernel
theorem d_Mod_joins_101 : decode prog_12_method_44_code 101 = .ok (.iload 4, 2) := by decide +kernel
theorem d_Mod_joins_103 : decode prog_12_method_44_code 103 = .ok (.iaload, 1) := by decide +kernel
theorem d_Mod_joins_104 : decode prog_12_method_44_code 104 = .ok (.invokevirtual 254, 3) := by decide +kernel
theorem d_Mod_joins_107 : decode prog_12_method_44_code 107 = .ok (.aload_n 0, 1) := by decide +kernel
theorem d_Mod_joins_108 : decode prog_12_method_44_code 108 = .ok (.aload_n 0, 1) := by decide +kernel
theorem d_Mod_joins_109 : decode prog_12_method_44_code 109 = .ok (.getfield 242, 3) := by decide +kernel
theorem d_Mod_joins_112 : decode prog_12_method_44_code 112 = .ok (.iload_n 3, 1) := by decide +kernel
theorem d_Mod_joins_113 : decode prog_12_method_44_code 113 = .ok (.iaload, 1) := by decide +kernel
theorem d_Mod_joins_114 : decode prog_12_method_44_code 114 = .ok (.aload_n 0, 1) := by decide +kernel
theorem d_Mod_joins_115 : decode prog_12_method_44_code 115 = .ok (.getfield 242, 3) := by decide +kernel
theorem d_Mod_joins_118 : decode prog_12_method_44_code 118 = .ok (.iload 4, 2) := by decide +kernel
theorem d_Mod_joins_120 : decode prog_12_method_44_code 120 = .ok (.iaload, 1) := by decide +kernel
theorem d_Mod_joins_121 : decode prog_12_method_44_code 121 = .ok (.invokevirtual 254, 3) := by decide +kernel
theorem d_Mod_joins_124 : decode prog_12_method_44_code 124 = .ok (.return_, 1) := by decide +kernel
def fm_Mod_joins_j70 (a1 : Int) (a2 : Int) (rc_joins : Int → Int → fa_W → Option fa_W) (x3 : Int) (x4 : Int) (w : fa_W) : Option fa_W :=
  (fa_ix x4 1200).bind fun j10 =>
  fa_let (fa_st w 202 j10 x3) fun w11 =>
  (fa_ix x4 1200).bind fun j12 =>
  if fa_wr (w11 199 j12) = 2 then
  ((fa_ix x3 1200).bind fun j14 =>
  (fa_ix x4 1200).bind fun j15 =>
  (rc_joins (w11 200 j14) (w11 200 j15) w11).bind fun w17 =>
  (fa_ix x3 1200).bind fun j18 =>
  (fa_ix x4 1200).bind fun j19 =>
  (rc_joins (w17 201 j18) (w17 201 j19) w17).bind fun w21 =>
  some w21)
  else
  some w11
set_option maxHeartbeats 4000000 in
set_option maxRecDepth 100000 in
theorem c_Mod_joins_j70 {p : Program} {l : Launch} {e : Env} {s : State} {m : MethodId} {args : Array Value} {below : List Frame} {meth : Method} {c : Code} {hh : Nat} {D : va_G} {b : Nat} {aC : Nat → ClassId} {H0 : Heap} {N T : Nat} {dd : Nat} (X : fa_GX p s m args meth c prog_12_method_44_code 5 ((Option.none : Option Jvm.ClassFile.FieldType)) y_Mod_joins.cls D b aC) (hle : 1 + dd + 1 ≤ hh) (hN : fa_NM ≤ N) (hT : fa_TM ≤ T) (a1 : Int) (a2 : Int) {r : fa_W} (rc_joins : Int → Int → fa_W → Option fa_W) (Rrc_joins : ∀ (a1 : Int) (a2 : Int) (w : fa_W) (r : fa_W), rc_joins a1 a2 w = some r → fa_MC l D b aC H0 N T y_Mod_joins prog_12_method_44_code 5 ((Option.none : Option Jvm.ClassFile.FieldType)) (1 + dd) [.ref (b + 181), .int (fa_I a1), .int (fa_I a2)] w (none) r) : ∀ (x3 : Int) (x4 : Int) (w : fa_W) (_ : fm_Mod_joins_j70 a1 a2 rc_joins x3 x4 w = some r), fa_GJ p l e (fa_rm hh) s m args below meth c 0 0 (MQ below (fa_Qc D b aC H0 N T (none) r) args s 0 0 (fun q => b ≤ q)) D b aC H0 N T 5 w 70 [(0, .ref (b + 181)), (3, .int (fa_I x3)), (4, .int (fa_I x4))] [] := by
  intro x3 x4 w hM
  unfold fm_Mod_joins_j70 at hM
  refine g_aload_n X 0 rfl d_Mod_joins_70 ?_
  refine g_get X ck_10 fo_181 (fn_181 hN) 39 (by decide) wd_1780 rfl (fr_181_39 rfl hT) d_Mod_joins_71 ?_
  refine g_iload X 2 rfl d_Mod_joins_74 ?_
  refine g_iload_n X 1 rfl d_Mod_joins_76 ?_
  obtain ⟨j10, ej10, hM⟩ := fa_ob hM
  refine g_iast X fs_202 (fn_202 hN) ej10 d_Mod_joins_77 (fun w11 ew11 => ?_)
  have hM := fa_let_to hM ew11
  refine g_aload_n X 0 rfl d_Mod_joins_78 ?_
  refine g_get X ck_10 fo_181 (fn_181 hN) 36 (by decide) wd_1777 rfl (fr_181_36 rfl hT) d_Mod_joins_79 ?_
  refine g_iload X 2 rfl d_Mod_joins_82 ?_
  obtain ⟨j12, ej12, hM⟩ := fa_ob hM
  refine g_iald X fs_199 (fn_199 hN) ej12 d_Mod_joins_84 ?_
  refine g_iconst X d_Mod_joins_85 ?_
  refine g_icmp_eq X 90 d_Mod_joins_86 (by decide) (fun hc13 => ?_) (fun hc13 => ?_)
  · have hM := fa_if_t hM hc13
    refine g_aload_n X 0 rfl d_Mod_joins_90 ?_
    refine g_aload_n X 0 rfl d_Mod_joins_91 ?_
    refine g_get X ck_10 fo_181 (fn_181 hN) 37 (by decide) wd_1778 rfl (fr_181_37 rfl hT) d_Mod_joins_92 ?_
    refine g_iload_n X 1 rfl d_Mod_joins_95 ?_
    obtain ⟨j14, ej14, hM⟩ := fa_ob hM
    refine g_iald X fs_200 (fn_200 hN) ej14 d_Mod_joins_96 ?_
    refine g_aload_n X 0 rfl d_Mod_joins_97 ?_
    refine g_get X ck_10 fo_181 (fn_181 hN) 37 (by decide) wd_1778 rfl (fr_181_37 rfl hT) d_Mod_joins_98 ?_
    refine g_iload X 2 rfl d_Mod_joins_101 ?_
    obtain ⟨j15, ej15, hM⟩ := fa_ob hM
    refine g_iald X fs_200 (fn_200 hN) ej15 d_Mod_joins_103 ?_
    obtain ⟨w17, e16, hM⟩ := fa_ob hM
    refine g_callV_v X ck_10 fo_181 (fn_181 hN) rfl mi_Mod_joins (Rrc_joins (w11 200 j14) (w11 200 j15) w11 _ e16) wd_1656 rfl (by omega) (st := []) (Nat.le_of_ble_eq_true rfl) rfl d_Mod_joins_104 ?_
    refine g_aload_n X 0 rfl d_Mod_joins_107 ?_
    refine g_aload_n X 0 rfl d_Mod_joins_108 ?_
    refine g_get X ck_10 fo_181 (fn_181 hN) 38 (by decide) wd_1779 rfl (fr_181_38 rfl hT) d_Mod_joins_109 ?_
    refine g_iload_n X 1 rfl d_Mod_joins_112 ?_
    obtain ⟨j18, ej18, hM⟩ := fa_ob hM
    refine g_iald X fs_201 (fn_201 hN) ej18 d_Mod_joins_113 ?_
    refine g_aload_n X 0 rfl d_Mod_joins_114 ?_
    refine g_get X ck_10 fo_181 (fn_181 hN) 38 (by decide) wd_1779 rfl (fr_181_38 rfl hT) d_Mod_joins_115 ?_
    refine g_iload X 2 rfl d_Mod_joins_118 ?_
    obtain ⟨j19, ej19, hM⟩ := fa_ob hM
    refine g_iald X fs_201 (fn_201 hN) ej19 d_Mod_joins_120 ?_
    obtain ⟨w21, e20, hM⟩ := fa_ob hM
    refine g_callV_v X ck_10 fo_181 (fn_181 hN) rfl mi_Mod_joins (Rrc_joins (w17 201 j18) (w17 201 j19) w17 _ e20) wd_1656 rfl (by omega) (st := []) (Nat.le_of_ble_eq_true rfl) rfl d_Mod_joins_121 ?_
    cases hM
    exact g_vret X d_Mod_joins_124
  · have hM := fa_if_f hM hc13
    cases hM
    exact g_vret X d_Mod_joins_89
def fm_Mod_joins_b (rc_joins : Int → Int → fa_W → Option fa_W) (a1 : Int) (a2 : Int) (w : fa_W) : Option fa_W :=
  (fm_Mod_find a1 w).bind fun v2 =>
  (fm_Mod_find a2 w).bind fun v4 =>
  if fa_wr v2 = fa_wr v4 then
  some w
  else
  ((fa_ix v2 1200).bind fun j6 =>
  if fa_wr (w 199 j6) = 0 then
  ((fa_ix v2 1200).bind fun j26 =>
  fa_let (fa_st w 202 j26 v4) fun w27 =>
  some w27)
  else
  ((fa_ix v4 1200).bind fun j8 =>
  if fa_wr (w 199 j8) = 0 then
  fm_Mod_joins_j70 a1 a2 rc_joins v2 v4 w
  else
  ((fa_ix v2 1200).bind fun j22 =>
  (fa_ix v4 1200).bind fun j23 =>
  if fa_wr (w 199 j22) = fa_wr (w 199 j23) then
  fm_Mod_joins_j70 a1 a2 rc_joins v2 v4 w
  else
  (fa_let (fa_st w 181 44 (fa_bi false)) fun w25 =>
  some w25))))
set_option maxHeartbeats 4000000 in
set_option maxRecDepth 100000 in
theorem c_Mod_joins_b {l : Launch} {D : va_G} {b : Nat} {aC : Nat → ClassId} {H0 : Heap} {N T : Nat} (hN : fa_NM ≤ N) (hT : fa_TM ≤ T) (dd : Nat) (rc_joins : Int → Int → fa_W → Option fa_W) (Rrc_joins : ∀ (a1 : Int) (a2 : Int) (w : fa_W) (r : fa_W), rc_joins a1 a2 w = some r → fa_MC l D b aC H0 N T y_Mod_joins prog_12_method_44_code 5 ((Option.none : Option Jvm.ClassFile.FieldType)) (1 + dd) [.ref (b + 181), .int (fa_I a1), .int (fa_I a2)] w (none) r) (a1 : Int) (a2 : Int)  (w : fa_W) (r : fa_W) (hM : fm_Mod_joins_b rc_joins a1 a2 w = some r) : fa_MC l D b aC H0 N T y_Mod_joins prog_12_method_44_code 5 ((Option.none : Option Jvm.ClassFile.FieldType)) (1 + dd + 1) [.ref (b + 181), .int (fa_I a1), .int (fa_I a2)] w (none) r := by
  refine fa_enter (lv := [(0, .ref (b + 181)), (1, .int (fa_I a1)), (2, .int (fa_I a2))]) (by decide +kernel) (Nat.le_of_ble_eq_true rfl) rfl (fun hh hle hnm X => ?_)
  unfold fm_Mod_joins_b at hM
  refine g_aload_n X 0 rfl d_Mod_joins_0 ?_
  refine g_iload_n X 1 rfl d_Mod_joins_1 ?_
  obtain ⟨v2, e1, hM⟩ := fa_ob hM
  refine g_callV_i X ck_10 fo_181 (fn_181 hN) rfl mi_Mod_find (c_Mod_find hN hT a1 w _ e1) wd_1660 rfl (by omega) (st := []) (Nat.le_of_ble_eq_true rfl) rfl d_Mod_joins_2 ?_
  refine g_istorec_n X [(3, .int (fa_I v2)), (0, .ref (b + 181)), (1, .int (fa_I a1)), (2, .int (fa_I a2))] d_Mod_joins_5 (by decide) rfl ?_
  refine g_aload_n X 1 rfl d_Mod_joins_6 ?_
  refine g_iload_n X 3 rfl d_Mod_joins_7 ?_
  obtain ⟨v4, e3, hM⟩ := fa_ob hM
  refine g_callV_i X ck_10 fo_181 (fn_181 hN) rfl mi_Mod_find (c_Mod_find hN hT a2 w _ e3) wd_1660 rfl (by omega) (st := []) (Nat.le_of_ble_eq_true rfl) rfl d_Mod_joins_8 ?_
  refine g_istorec X [(4, .int (fa_I v4)), (3, .int (fa_I v2)), (0, .ref (b + 181)), (1, .int (fa_I a1)), (2, .int (fa_I a2))] d_Mod_joins_11 (by decide) rfl ?_
  refine g_iload_n X 1 rfl d_Mod_joins_13 ?_
  refine g_iload X 0 rfl d_Mod_joins_14 ?_
  refine g_icmp_ne X 20 d_Mod_joins_16 (by decide) (fun hc5 => ?_) (fun hc5 => ?_)
  · have hM := fa_if_f hM hc5
    refine g_aload_n X 2 rfl d_Mod_joins_20 ?_
    refine g_get X ck_10 fo_181 (fn_181 hN) 36 (by decide) wd_1777 rfl (fr_181_36 rfl hT) d_Mod_joins_21 ?_
    refine g_iload_n X 1 rfl d_Mod_joins_24 ?_
    obtain ⟨j6, ej6, hM⟩ := fa_ob hM
    refine g_iald X fs_199 (fn_199 hN) ej6 d_Mod_joins_25 ?_
    refine g_if_ne X 38 d_Mod_joins_26 (by decide) (fun hc7 => ?_) (fun hc7 => ?_)
    · have hM := fa_if_f hM hc7
      refine g_aload_n X 2 rfl d_Mod_joins_38 ?_
      refine g_get X ck_10 fo_181 (fn_181 hN) 36 (by decide) wd_1777 rfl (fr_181_36 rfl hT) d_Mod_joins_39 ?_
      refine g_iload X 0 rfl d_Mod_joins_42 ?_
      obtain ⟨j8, ej8, hM⟩ := fa_ob hM
      refine g_iald X fs_199 (fn_199 hN) ej8 d_Mod_joins_44 ?_
      refine g_if_eq X 70 d_Mod_joins_45 (by decide) (fun hc9 => ?_) (fun hc9 => ?_)
      · have hM := fa_if_t hM hc9
        exact g_lv [2, 1, 0] rfl (c_Mod_joins_j70 X hle hN hT a1 a2 rc_joins Rrc_joins   _ _ _ hM)
      · have hM := fa_if_f hM hc9
        refine g_aload_n X 2 rfl d_Mod_joins_48 ?_
        refine g_get X ck_10 fo_181 (fn_181 hN) 36 (by decide) wd_1777 rfl (fr_181_36 rfl hT) d_Mod_joins_49 ?_
        refine g_iload_n X 1 rfl d_Mod_joins_52 ?_
        obtain ⟨j22, ej22, hM⟩ := fa_ob hM
        refine g_iald X fs_199 (fn_199 hN) ej22 d_Mod_joins_53 ?_
        refine g_aload_n X 2 rfl d_Mod_joins_54 ?_
        refine g_get X ck_10 fo_181 (fn_181 hN) 36 (by decide) wd_1777 rfl (fr_181_36 rfl hT) d_Mod_joins_55 ?_
        refine g_iload X 0 rfl d_Mod_joins_58 ?_
        obtain ⟨j23, ej23, hM⟩ := fa_ob hM
        refine g_iald X fs_199 (fn_199 hN) ej23 d_Mod_joins_60 ?_
        refine g_icmp_eq X 70 d_Mod_joins_61 (by decide) (fun hc24 => ?_) (fun hc24 => ?_)
        · have hM := fa_if_t hM hc24
          exact g_lv [2, 1, 0] rfl (c_Mod_joins_j70 X hle hN hT a1 a2 rc_joins Rrc_joins   _ _ _ hM)
        · have hM := fa_if_f hM hc24
          refine g_aload_n X 2 rfl d_Mod_joins_64 ?_
          refine g_iconst X d_Mod_joins_65 ?_
          refine g_put X ck_10 fo_181 (fn_181 hN) 44 (z := (fa_bi false)) (by decide) wd_1785 rfl (fa_fvB' rfl) rfl (fa_nb false).1 (fa_nb false).2 d_Mod_joins_66 (fun w25 ew25 => ?_)
          have hM := fa_let_to hM ew25
          cases hM
          exact g_vret X d_Mod_joins_69
    · have hM := fa_if_t hM hc7
      refine g_aload_n X 2 rfl d_Mod_joins_29 ?_
      refine g_get X ck_10 fo_181 (fn_181 hN) 39 (by decide) wd_1780 rfl (fr_181_39 rfl hT) d_Mod_joins_30 ?_
      refine g_iload_n X 1 rfl d_Mod_joins_33 ?_
      refine g_iload X 0 rfl d_Mod_joins_34 ?_
      obtain ⟨j26, ej26, hM⟩ := fa_ob hM
      refine g_iast X fs_202 (fn_202 hN) ej26 d_Mod_joins_36 (fun w27 ew27 => ?_)
      have hM := fa_let_to hM ew27
      cases hM
      exact g_vret X d_Mod_joins_37
  · have hM := fa_if_t hM hc5
    cases hM
    exact g_vret X d_Mod_joins_19
def fm_Mod_joins : Nat → Int → Int → fa_W → Option fa_W
  | 0, _, _, _ => none
  | n + 1, a1, a2, w => fm_Mod_joins_b (fm_Mod_joins n) a1 a2 w
set_option maxHeartbeats 4000000 in
set_option maxRecDepth 100000 in
theorem c_Mod_joins {l : Launch} {D : va_G} {b : Nat} {aC : Nat → ClassId} {H0 : Heap} {N T : Nat} (hN : fa_NM ≤ N) (hT : fa_TM ≤ T) : ∀ (n : Nat) (a1 : Int) (a2 : Int) (w : fa_W) (r : fa_W), fm_Mod_joins n a1 a2 w = some r → fa_MC l D b aC H0 N T y_Mod_joins prog_12_method_44_code 5 ((Option.none : Option Jvm.ClassFile.FieldType)) (1 + n) [.ref (b + 181), .int (fa_I a1), .int (fa_I a2)] w (none) r := by
  intro n
  induction n with
  | zero => intro a1 a2 w r hM; exact fa_no hM
  | succ n ih => intro a1 a2 w r hM; exact c_Mod_joins_b hN hT n (fm_Mod_joins n) ih a1 a2 w r hM
theorem d_Mod_functionType_0 : decode prog_12_method_45_code 0 = .ok (.aload_n 0, 1) := by decide +kernel
theorem d_Mod_functionType_1 : decode prog_12_method_45_code 1 = .ok (.iconst 2, 1) := by decide +kernel
theorem d_Mod_functionType_2 : decode prog_12_method_45_code 2 = .ok (.aload_n 0, 1) := by decide +kernel
theorem d_Mod_functionType_3 : decode prog_12_method_45_code 3 = .ok (.getfield 258, 3) := by decide +kernel
theorem d_Mod_functionType_6 : decode prog_12_method_45_code 6 = .ok (.iload_n 1, 1) := by decide +kernel
theorem d_Mod_functionType_7 : decode prog_12_method_45_code 7 = .ok (.iaload, 1) := by decide +kernel
theorem d_Mod_functionType_8 : decode prog_12_method_45_code 8 = .ok (.aload_n 0, 1) := by decide +kernel
theorem d_Mod_functionType_9 : decode prog_12_method_45_code 9 = .ok (.getfield 261, 3) := by decide +kernel
theorem d_Mod_functionType_12 : decode prog_12_method_45_code 12 = .ok (.aload_n 0, 1) := by decide +kernel
theorem d_Mod_functionType_13 : decode prog_12_method_45_code 13 = .ok (.getfield 166, 3) := by decide +kernel
theorem d_Mod_functionType_16 : decode prog_12_method_45_code 16 = .ok (.iload_n 1, 1) := by decide +kernel
theorem d_Mod_functionType_17 : decode prog_12_method_45_code 17 = .ok (.iaload, 1) := by decide +kernel
theorem d_Mod_functionType_18 : decode prog_12_method_45_code 18 = .ok (.iaload, 1) := by decide +kernel
theorem d_Mod_functionType_19 : decode prog_12_method_45_code 19 = .ok (.invokevirtual 264, 3) := by decide +kernel
theorem d_Mod_functionType_22 : decode prog_12_method_45_code 22 = .ok (.ireturn, 1) := by decide +kernel
def fm_Mod_functionType (a1 : Int) (w : fa_W) : Option (Int × fa_W) :=
  (fa_ix a1 124).bind fun j1 =>
  (fa_ix a1 24).bind fun j2 =>
  (fa_ix (w 189 j2) 101).bind fun j3 =>
  fa_bd (fm_Mod_type2 2 (w 204 j1) (w 203 j3) w) fun v5 w6 =>
  some (v5, w6)
set_option maxHeartbeats 4000000 in
set_option maxRecDepth 100000 in
theorem c_Mod_functionType {l : Launch} {D : va_G} {b : Nat} {aC : Nat → ClassId} {H0 : Heap} {N T : Nat} (hN : fa_NM ≤ N) (hT : fa_TM ≤ T) (a1 : Int)  (w : fa_W) (r : Int × fa_W) (hM : fm_Mod_functionType a1 w = some r) : fa_MC l D b aC H0 N T y_Mod_functionType prog_12_method_45_code 2 ((Option.some Jvm.ClassFile.FieldType.int)) (1) [.ref (b + 181), .int (fa_I a1)] w (some (.int (fa_I r.1))) r.2 := by
  refine fa_enter (lv := [(0, .ref (b + 181)), (1, .int (fa_I a1))]) (by decide +kernel) (Nat.le_of_ble_eq_true rfl) rfl (fun hh hle hnm X => ?_)
  unfold fm_Mod_functionType at hM
  refine g_aload_n X 0 rfl d_Mod_functionType_0 ?_
  refine g_iconst X d_Mod_functionType_1 ?_
  refine g_aload_n X 0 rfl d_Mod_functionType_2 ?_
  refine g_get X ck_10 fo_181 (fn_181 hN) 41 (by decide) wd_1782 rfl (fr_181_41 rfl hT) d_Mod_functionType_3 ?_
  refine g_iload_n X 1 rfl d_Mod_functionType_6 ?_
  obtain ⟨j1, ej1, hM⟩ := fa_ob hM
  refine g_iald X fs_204 (fn_204 hN) ej1 d_Mod_functionType_7 ?_
  refine g_aload_n X 0 rfl d_Mod_functionType_8 ?_
  refine g_get X ck_10 fo_181 (fn_181 hN) 40 (by decide) wd_1781 rfl (fr_181_40 rfl hT) d_Mod_functionType_9 ?_
  refine g_aload_n X 0 rfl d_Mod_functionType_12 ?_
  refine g_get X ck_10 fo_181 (fn_181 hN) 9 (by decide) wd_1751 rfl (fr_181_9 rfl hT) d_Mod_functionType_13 ?_
  refine g_iload_n X 1 rfl d_Mod_functionType_16 ?_
  obtain ⟨j2, ej2, hM⟩ := fa_ob hM
  refine g_iald X fs_189 (fn_189 hN) ej2 d_Mod_functionType_17 ?_
  obtain ⟨j3, ej3, hM⟩ := fa_ob hM
  refine g_iald X fs_203 (fn_203 hN) ej3 d_Mod_functionType_18 ?_
  obtain ⟨v5, w6, e4, hM⟩ := fa_obd hM
  refine g_callV_i X ck_10 fo_181 (fn_181 hN) rfl mi_Mod_type2 (c_Mod_type2 hN hT 2 (w 204 j1) (w 203 j3) w _ e4) wd_1636 rfl (Nat.le_trans (Nat.le_of_ble_eq_true rfl) hle) (st := []) (Nat.le_of_ble_eq_true rfl) rfl d_Mod_functionType_19 ?_
  cases hM
  exact g_iret X d_Mod_functionType_22
theorem d_Mod_typesNode_0 : decode prog_12_method_46_code 0 = .ok (.aload_n 0, 1) := by decide +kernel
theorem d_Mod_typesNode_1 : decode prog_12_method_46_code 1 = .ok (.getfield 261, 3) := by decide +kernel
theorem d_Mod_typesNode_4 : decode prog_12_method_46_code 4 = .ok (.iload_n 1, 1) := by decide +kernel
theorem d_Mod_typesNode_5 : decode prog_12_method_46_code 5 = .ok (.aload_n 0, 1) := by decide +kernel
theorem d_Mod_typesNode_6 : decode prog_12_method_46_code 6 = .ok (.iconst 0, 1) := by decide +kernel
theorem d_Mod_typesNode_7 : decode prog_12_method_46_code 7 = .ok (.iconst (-1), 1) := by decide +kernel
theorem d_Mod_typesNode_8 : decode prog_12_method_46_code 8 = .ok (.iconst (-1), 1) := by decide +kernel
theorem d_Mod_typesNode_9 : decode prog_12_method_46_code 9 = .ok (.invokevirtual 264, 3) := by decide +kernel
theorem d_Mod_typesNode_12 : decode prog_12_method_46_code 12 = .ok (.iastore, 1) := by decide +kernel
theorem d_Mod_typesNode_13 : decode prog_12_method_46_code 13 = .ok (.return_, 1) := by decide +kernel
def fm_Mod_typesNode (a1 : Int) (w : fa_W) : Option fa_W :=
  fa_bd (fm_Mod_type2 0 (-1) (-1) w) fun v2 w3 =>
  (fa_ix a1 101).bind fun j4 =>
  fa_let (fa_st w3 203 j4 v2) fun w5 =>
  some w5
set_option maxHeartbeats 4000000 in
set_option maxRecDepth 100000 in
theorem c_Mod_typesNode {l : Launch} {D : va_G} {b : Nat} {aC : Nat → ClassId} {H0 : Heap} {N T : Nat} (hN : fa_NM ≤ N) (hT : fa_TM ≤ T) (a1 : Int)  (w : fa_W) (r : fa_W) (hM : fm_Mod_typesNode a1 w = some r) : fa_MC l D b aC H0 N T y_Mod_typesNode prog_12_method_46_code 2 ((Option.none : Option Jvm.ClassFile.FieldType)) (1) [.ref (b + 181), .int (fa_I a1)] w (none) r := by
  refine fa_enter (lv := [(0, .ref (b + 181)), (1, .int (fa_I a1))]) (by decide +kernel) (Nat.le_of_ble_eq_true rfl) rfl (fun hh hle hnm X => ?_)
  unfold fm_Mod_typesNode at hM
  refine g_aload_n X 0 rfl d_Mod_typesNode_0 ?_
  refine g_get X ck_10 fo_181 (fn_181 hN) 40 (by decide) wd_1781 rfl (fr_181_40 rfl hT) d_Mod_typesNode_1 ?_
  refine g_iload_n X 1 rfl d_Mod_typesNode_4 ?_
  refine g_aload_n X 0 rfl d_Mod_typesNode_5 ?_
  refine g_iconst X d_Mod_typesNode_6 ?_
  refine g_iconst X d_Mod_typesNode_7 ?_
  refine g_iconst X d_Mod_typesNode_8 ?_
  obtain ⟨v2, w3, e1, hM⟩ := fa_obd hM
  refine g_callV_i X ck_10 fo_181 (fn_181 hN) rfl mi_Mod_type2 (c_Mod_type2 hN hT 0 (-1) (-1) w _ e1) wd_1636 rfl (Nat.le_trans (Nat.le_of_ble_eq_true rfl) hle) (st := [.int (fa_I a1), .ref (b + 203)]) (Nat.le_of_ble_eq_true rfl) rfl d_Mod_typesNode_9 ?_
  obtain ⟨j4, ej4, hM⟩ := fa_ob hM
  refine g_iast X fs_203 (fn_203 hN) ej4 d_Mod_typesNode_12 (fun w5 ew5 => ?_)
  have hM := fa_let_to hM ew5
  cases hM
  exact g_vret X d_Mod_typesNode_13
theorem d_Mod_typesOne_0 : decode prog_12_method_48_code 0 = .ok (.aload_n 0, 1) := by decide +kernel
theorem d_Mod_typesOne_1 : decode prog_12_method_48_code 1 = .ok (.getfield 261, 3) := by decide +kernel
theorem d_Mod_typesOne_4 : decode prog_12_method_48_code 4 = .ok (.iload_n 1, 1) := by decide +kernel
theorem d_Mod_typesOne_5 : decode prog_12_method_48_code 5 = .ok (.iaload, 1) := by decide +kernel
theorem d_Mod_typesOne_6 : decode prog_12_method_48_code 6 = .ok (.istore_n 3, 1) := by decide +kernel
theorem d_Mod_typesOne_7 : decode prog_12_method_48_code 7 = .ok (.aload_n 0, 1) := by decide +kernel
theorem d_Mod_typesOne_8 : decode prog_12_method_48_code 8 = .ok (.getfield 88, 3) := by decide +kernel
theorem d_Mod_typesOne_11 : decode prog_12_method_48_code 11 = .ok (.iload_n 1, 1) := by decide +kernel
theorem d_Mod_typesOne_12 : decode prog_12_method_48_code 12 = .ok (.iaload, 1) := by decide +kernel
theorem d_Mod_typesOne_13 : decode prog_12_method_48_code 13 = .ok (.tableswitch 289 0 8 #[51, 60, 79, 289, 98, 117, 168, 213, 254], 51) := by decide +kernel
theorem d_Mod_typesOne_64 : decode prog_12_method_48_code 64 = .ok (.aload_n 0, 1) := by decide +kernel
theorem d_Mod_typesOne_65 : decode prog_12_method_48_code 65 = .ok (.iload_n 3, 1) := by decide +kernel
theorem d_Mod_typesOne_66 : decode prog_12_method_48_code 66 = .ok (.iload_n 2, 1) := by decide +kernel
theorem d_Mod_typesOne_67 : decode prog_12_method_48_code 67 = .ok (.invokevirtual 254, 3) := by decide +kernel
theorem d_Mod_typesOne_70 : decode prog_12_method_48_code 70 = .ok (.goto 232, 3) := by decide +kernel
theorem d_Mod_typesOne_73 : decode prog_12_method_48_code 73 = .ok (.aload_n 0, 1) := by decide +kernel
theorem d_Mod_typesOne_74 : decode prog_12_method_48_code 74 = .ok (.iload_n 3, 1) := by decide +kernel
theorem d_Mod_typesOne_75 : decode prog_12_method_48_code 75 = .ok (.aload_n 0, 1) := by decide +kernel
theorem d_Mod_typesOne_76 : decode prog_12_method_48_code 76 = .ok (.getfield 258, 3) := by decide +kernel
theorem d_Mod_typesOne_79 : decode prog_12_method_48_code 79 = .ok (.aload_n 0, 1) := by decide +kernel
theorem d_Mod_typesOne_80 : decode prog_12_method_48_code 80 = .ok (.getfield 94, 3) := by decide +kernel
theorem d_Mod_typesOne_83 : decode prog_12_method_48_code 83 = .ok (.iload_n 1, 1) := by decide +kernel
theorem d_Mod_typesOne_84 : decode prog_12_method_48_code 84 = .ok (.iaload, 1) := by decide +kernel
theorem d_Mod_typesOne_85 : decode prog_12_method_48_code 85 = .ok (.iaload, 1) := by decide +kernel
theorem d_Mod_typesOne_86 : decode prog_12_method_48_code 86 = .ok (.invokevirtual 254, 3) := by decide +kernel
theorem d_Mod_typesOne_89 : decode prog_12_method_48_code 89 = .ok (.goto 213, 3) := by decide +kernel
theorem d_Mod_typesOne_92 : decode prog_12_method_48_code 92 = .ok (.aload_n 0, 1) := by decide +kernel
theorem d_Mod_typesOne_93 : decode prog_12_method_48_code 93 = .ok (.iload_n 3, 1) := by decide +kernel
theorem d_Mod_typesOne_94 : decode prog_12_method_48_code 94 = .ok (.aload_n 0, 1) := by decide +kernel
theorem d_Mod_typesOne_95 : decode prog_12_method_48_code 95 = .ok (.getfield 273, 3) := by decide +kernel
theorem d_Mod_typesOne_98 : decode prog_12_method_48_code 98 = .ok (.aload_n 0, 1) := by decide +kernel
theorem d_Mod_typesOne_99 : decode prog_12_method_48_code 99 = .ok (.getfield 94, 3) := by decide +kernel
theorem d_Mod_typesOne_102 : decode prog_12_method_48_code 102 = .ok (.iload_n 1, 1) := by decide +kernel
theorem d_Mod_typesOne_103 : decode prog_12_method_48_code 103 = .ok (.iaload, 1) := by decide +kernel
theorem d_Mod_typesOne_104 : decode prog_12_method_48_code 104 = .ok (.iaload, 1) := by decide +kernel
theorem d_Mod_typesOne_105 : decode prog_12_method_48_code 105 = .ok (.invokevirtual 254, 3) := by decide +kernel
theorem d_Mod_typesOne_108 : decode prog_12_method_48_code 108 = .ok (.goto 194, 3) := by decide +kernel
theorem d_Mod_typesOne_111 : decode prog_12_method_48_code 111 = .ok (.aload_n 0, 1) := by decide +kernel
theorem d_Mod_typesOne_112 : decode prog_12_method_48_code 112 = .ok (.iload_n 3, 1) := by decide +kernel
theorem d_Mod_typesOne_113 : decode prog_12_method_48_code 113 = .ok (.aload_n 0, 1) := by decide +kernel
theorem d_Mod_typesOne_114 : decode prog_12_method_48_code 114 = .ok (.getfield 273, 3) := by decide +kernel
theorem d_Mod_typesOne_117 : decode prog_12_method_48_code 117 = .ok (.aload_n 0, 1) := by decide +kernel
theorem d_Mod_typesOne_118 : decode prog_12_method_48_code 118 = .ok (.getfield 94, 3) := by decide +kernel
theorem d_Mod_typesOne_121 : decode prog_12_method_48_code 121 = .ok (.iload_n 1, 1) := by decide +kernel
theorem d_Mod_typesOne_122 : decode prog_12_method_48_code 122 = .ok (.iaload, 1) := by decide +kernel
theorem d_Mod_typesOne_123 : decode prog_12_method_48_code 123 = .ok (.iaload, 1) := by decide +kernel
theorem d_Mod_typesOne_124 : decode prog_12_method_48_code 124 = .ok (.invokevirtual 254, 3) := by decide +kernel
theorem d_Mod_typesOne_127 : decode prog_12_method_48_code 127 = .ok (.goto 175, 3) := by decide +kernel
theorem d_Mod_typesOne_130 : decode prog_12_method_48_code 130 = .ok (.aload_n 0, 1) := by decide +kernel
theorem d_Mod_typesOne_131 : decode prog_12_method_48_code 131 = .ok (.aload_n 0, 1) := by decide +kernel
theorem d_Mod_typesOne_132 : decode prog_12_method_48_code 132 = .ok (.getfield 261, 3) := by decide +kernel
theorem d_Mod_typesOne_135 : decode prog_12_method_48_code 135 = .ok (.aload_n 0, 1) := by decide +kernel
theorem d_Mod_typesOne_136 : decode prog_12_method_48_code 136 = .ok (.getfield 94, 3) := by decide +kernel
theorem d_Mod_typesOne_139 : decode prog_12_method_48_code 139 = .ok (.iload_n 1, 1) := by decide +kernel
theorem d_Mod_typesOne_140 : decode prog_12_method_48_code 140 = .ok (.iaload, 1) := by decide +kernel
theorem d_Mod_typesOne_141 : decode prog_12_method_48_code 141 = .ok (.iaload, 1) := by decide +kernel
theorem d_Mod_typesOne_142 : decode prog_12_method_48_code 142 = .ok (.iload_n 2, 1) := by decide +kernel
theorem d_Mod_typesOne_143 : decode prog_12_method_48_code 143 = .ok (.invokevirtual 254, 3) := by decide +kernel
theorem d_Mod_typesOne_146 : decode prog_12_method_48_code 146 = .ok (.aload_n 0, 1) := by decide +kernel
theorem d_Mod_typesOne_147 : decode prog_12_method_48_code 147 = .ok (.iload_n 3, 1) := by decide +kernel
theorem d_Mod_typesOne_148 : decode prog_12_method_48_code 148 = .ok (.aload_n 0, 1) := by decide +kernel
theorem d_Mod_typesOne_149 : decode prog_12_method_48_code 149 = .ok (.getfield 261, 3) := by decide +kernel
theorem d_Mod_typesOne_152 : decode prog_12_method_48_code 152 = .ok (.aload_n 0, 1) := by decide +kernel
theorem d_Mod_typesOne_153 : decode prog_12_method_48_code 153 = .ok (.getfield 97, 3) := by decide +kernel
theorem d_Mod_typesOne_156 : decode prog_12_method_48_code 156 = .ok (.iload_n 1, 1) := by decide +kernel
theorem d_Mod_typesOne_157 : decode prog_12_method_48_code 157 = .ok (.iaload, 1) := by decide +kernel
theorem d_Mod_typesOne_158 : decode prog_12_method_48_code 158 = .ok (.iaload, 1) := by decide +kernel
theorem d_Mod_typesOne_159 : decode prog_12_method_48_code 159 = .ok (.invokevirtual 254, 3) := by decide +kernel
theorem d_Mod_typesOne_162 : decode prog_12_method_48_code 162 = .ok (.aload_n 0, 1) := by decide +kernel
theorem d_Mod_typesOne_163 : decode prog_12_method_48_code 163 = .ok (.iload_n 3, 1) := by decide +kernel
theorem d_Mod_typesOne_164 : decode prog_12_method_48_code 164 = .ok (.aload_n 0, 1) := by decide +kernel
theorem d_Mod_typesOne_165 : decode prog_12_method_48_code 165 = .ok (.getfield 261, 3) := by decide +kernel
theorem d_Mod_typesOne_168 : decode prog_12_method_48_code 168 = .ok (.aload_n 0, 1) := by decide +kernel
theorem d_Mod_typesOne_169 : decode prog_12_method_48_code 169 = .ok (.getfield 100, 3) := by decide +kernel
theorem d_Mod_typesOne_172 : decode prog_12_method_48_code 172 = .ok (.iload_n 1, 1) := by decide +kernel
theorem d_Mod_typesOne_173 : decode prog_12_method_48_code 173 = .ok (.iaload, 1) := by decide +kernel
theorem d_Mod_typesOne_174 : decode prog_12_method_48_code 174 = .ok (.iaload, 1) := by decide +kernel
theorem d_Mod_typesOne_175 : decode prog_12_method_48_code 175 = .ok (.invokevirtual 254, 3) := by decide +kernel
theorem d_Mod_typesOne_178 : decode prog_12_method_48_code 178 = .ok (.goto 124, 3) := by decide +kernel
theorem d_Mod_typesOne_181 : decode prog_12_method_48_code 181 = .ok (.aload_n 0, 1) := by decide +kernel
theorem d_Mod_typesOne_182 : decode prog_12_method_48_code 182 = .ok (.aload_n 0, 1) := by decide +kernel
theorem d_Mod_typesOne_183 : decode prog_12_method_48_code 183 = .ok (.getfield 258, 3) := by decide +kernel
theorem d_Mod_typesOne_186 : decode prog_12_method_48_code 186 = .ok (.aload_n 0, 1) := by decide +kernel
theorem d_Mod_typesOne_187 : decode prog_12_method_48_code 187 = .ok (.getfield 100, 3) := by decide +kernel
theorem d_Mod_typesOne_190 : decode prog_12_method_48_code 190 = .ok (.iload_n 1, 1) := by decide +kernel
theorem d_Mod_typesOne_191 : decode prog_12_method_48_code 191 = .ok (.iaload, 1) := by decide +kernel
theorem d_Mod_typesOne_192 : decode prog_12_method_48_code 192 = .ok (.iaload, 1) := by decide +kernel
theorem d_Mod_typesOne_193 : decode prog_12_method_48_code 193 = .ok (.aload_n 0, 1) := by decide +kernel
theorem d_Mod_typesOne_194 : decode prog_12_method_48_code 194 = .ok (.getfield 261, 3) := by decide +kernel
theorem d_Mod_typesOne_197 : decode prog_12_method_48_code 197 = .ok (.aload_n 0, 1) := by decide +kernel
theorem d_Mod_typesOne_198 : decode prog_12_method_48_code 198 = .ok (.getfield 94, 3) := by decide +kernel
theorem d_Mod_typesOne_201 : decode prog_12_method_48_code 201 = .ok (.iload_n 1, 1) := by decide +kernel
theorem d_Mod_typesOne_202 : decode prog_12_method_48_code 202 = .ok (.iaload, 1) := by decide +kernel
theorem d_Mod_typesOne_203 : decode prog_12_method_48_code 203 = .ok (.iaload, 1) := by decide +kernel
theorem d_Mod_typesOne_204 : decode prog_12_method_48_code 204 = .ok (.invokevirtual 254, 3) := by decide +kernel
theorem d_Mod_typesOne_207 : decode prog_12_method_48_code 207 = .ok (.aload_n 0, 1) := by decide +kernel
theorem d_Mod_typesOne_208 : decode prog_12_method_48_code 208 = .ok (.iload_n 3, 1) := by decide +kernel
theorem d_Mod_typesOne_209 : decode prog_12_method_48_code 209 = .ok (.aload_n 0, 1) := by decide +kernel
theorem d_Mod_typesOne_210 : decode prog_12_method_48_code 210 = .ok (.getfield 261, 3) := by decide +kernel
theorem d_Mod_typesOne_213 : decode prog_12_method_48_code 213 = .ok (.aload_n 0, 1) := by decide +kernel
theorem d_Mod_typesOne_214 : decode prog_12_method_48_code 214 = .ok (.getfield 97, 3) := by decide +kernel
theorem d_Mod_typesOne_217 : decode prog_12_method_48_code 217 = .ok (.iload_n 1, 1) := by decide +kernel
theorem d_Mod_typesOne_218 : decode prog_12_method_48_code 218 = .ok (.iaload, 1) := by decide +kernel
theorem d_Mod_typesOne_219 : decode prog_12_method_48_code 219 = .ok (.iaload, 1) := by decide +kernel
theorem d_Mod_typesOne_220 : decode prog_12_method_48_code 220 = .ok (.invokevirtual 254, 3) := by decide +kernel
theorem d_Mod_typesOne_223 : decode prog_12_method_48_code 223 = .ok (.goto 79, 3) := by decide +kernel
theorem d_Mod_typesOne_226 : decode prog_12_method_48_code 226 = .ok (.aload_n 0, 1) := by decide +kernel
theorem d_Mod_typesOne_227 : decode prog_12_method_48_code 227 = .ok (.aload_n 0, 1) := by decide +kernel
theorem d_Mod_typesOne_228 : decode prog_12_method_48_code 228 = .ok (.getfield 261, 3) := by decide +kernel
theorem d_Mod_typesOne_231 : decode prog_12_method_48_code 231 = .ok (.aload_n 0, 1) := by decide +kernel
theorem d_Mod_typesOne_232 : decode prog_12_method_48_code 232 = .ok (.getfield 94, 3) := by decide +kernel
theorem d_Mod_typesOne_235 : decode prog_12_method_48_code 235 = .ok (.iload_n 1, 1) := by decide +kernel
theorem d_Mod_typesOne_236 : decode prog_12_method_48_code 236 = .ok (.iaload, 1) := by decide +kernel
theorem d_Mod_typesOne_237 : decode prog_12_method_48_code 237 = .ok (.iaload, 1) := by decide +kernel
theorem d_Mod_typesOne_238 : decode prog_12_method_48_code 238 = .ok (.iload_n 2, 1) := by decide +kernel
theorem d_Mod_typesOne_239 : decode prog_12_method_48_code 239 = .ok (.invokevirtual 254, 3) := by decide +kernel
theorem d_Mod_typesOne_242 : decode prog_12_method_48_code 242 = .ok (.aload_n 0, 1) := by decide +kernel
theorem d_Mod_typesOne_243 : decode prog_12_method_48_code 243 = .ok (.aload_n 0, 1) := by decide +kernel
theorem d_Mod_typesOne_244 : decode prog_12_method_48_code 244 = .ok (.getfield 261, 3) := by decide +kernel
theorem d_Mod_typesOne_247 : decode prog_12_method_48_code 247 = .ok (.aload_n 0, 1) := by decide +kernel
theorem d_Mod_typesOne_248 : decode prog_12_method_48_code 248 = .ok (.getfield 97, 3) := by decide +kernel
theorem d_Mod_typesOne_251 : decode prog_12_method_48_code 251 = .ok (.iload_n 1, 1) := by decide +kernel
theorem d_Mod_typesOne_252 : decode prog_12_method_48_code 252 = .ok (.iaload, 1) := by decide +kernel
theorem d_Mod_typesOne_253 : decode prog_12_method_48_code 253 = .ok (.iaload, 1) := by decide +kernel
theorem d_Mod_typesOne_254 : decode prog_12_method_48_code 254 = .ok (.iload_n 2, 1) := by decide +kernel
theorem d_Mod_typesOne_255 : decode prog_12_method_48_code 255 = .ok (.invokevirtual 254, 3) := by decide +kernel
theorem d_Mod_typesOne_258 : decode prog_12_method_48_code 258 = .ok (.aload_n 0, 1) := by decide +kernel
theorem d_Mod_typesOne_259 : decode prog_12_method_48_code 259 = .ok (.iload_n 3, 1) := by decide +kernel
theorem d_Mod_typesOne_260 : decode prog_12_method_48_code 260 = .ok (.iload_n 2, 1) := by decide +kernel
theorem d_Mod_typesOne_261 : decode prog_12_method_48_code 261 = .ok (.invokevirtual 254, 3) := by decide +kernel
theorem d_Mod_typesOne_264 : decode prog_12_method_48_code 264 = .ok (.goto 38, 3) := by decide +kernel
theorem d_Mod_typesOne_267 : decode prog_12_method_48_code 267 = .ok (.aload_n 0, 1) := by decide +kernel
theorem d_Mod_typesOne_268 : decode prog_12_method_48_code 268 = .ok (.aload_n 0, 1) := by decide +kernel
theorem d_Mod_typesOne_269 : decode prog_12_method_48_code 269 = .ok (.getfield 261, 3) := by decide +kernel
theorem d_Mod_typesOne_272 : decode prog_12_method_48_code 272 = .ok (.aload_n 0, 1) := by decide +kernel
theorem d_Mod_typesOne_273 : decode prog_12_method_48_code 273 = .ok (.getfield 94, 3) := by decide +kernel
theorem d_Mod_typesOne_276 : decode prog_12_method_48_code 276 = .ok (.iload_n 1, 1) := by decide +kernel
theorem d_Mod_typesOne_277 : decode prog_12_method_48_code 277 = .ok (.iaload, 1) := by decide +kernel
theorem d_Mod_typesOne_278 : decode prog_12_method_48_code 278 = .ok (.iaload, 1) := by decide +kernel
theorem d_Mod_typesOne_279 : decode prog_12_method_48_code 279 = .ok (.aload_n 0, 1) := by decide +kernel
theorem d_Mod_typesOne_280 : decode prog_12_method_48_code 280 = .ok (.iconst 2, 1) := by decide +kernel
theorem d_Mod_typesOne_281 : decode prog_12_method_48_code 281 = .ok (.aload_n 0, 1) := by decide +kernel
theorem d_Mod_typesOne_282 : decode prog_12_method_48_code 282 = .ok (.getfield 261, 3) := by decide +kernel
theorem d_Mod_typesOne_285 : decode prog_12_method_48_code 285 = .ok (.aload_n 0, 1) := by decide +kernel
theorem d_Mod_typesOne_286 : decode prog_12_method_48_code 286 = .ok (.getfield 97, 3) := by decide +kernel
theorem d_Mod_typesOne_289 : decode prog_12_method_48_code 289 = .ok (.iload_n 1, 1) := by decide +kernel
theorem d_Mod_typesOne_290 : decode prog_12_method_48_code 290 = .ok (.iaload, 1) := by decide +kernel
theorem d_Mod_typesOne_291 : decode prog_12_method_48_code 291 = .ok (.iaload, 1) := by decide +kernel
theorem d_Mod_typesOne_292 : decode prog_12_method_48_code 292 = .ok (.iload_n 3, 1) := by decide +kernel
theorem d_Mod_typesOne_293 : decode prog_12_method_48_code 293 = .ok (.invokevirtual 264, 3) := by decide +kernel
theorem d_Mod_typesOne_296 : decode prog_12_method_48_code 296 = .ok (.invokevirtual 254, 3) := by decide +kernel
theorem d_Mod_typesOne_299 : decode prog_12_method_48_code 299 = .ok (.goto 3, 3) := by decide +kernel
theorem d_Mod_typesOne_302 : decode prog_12_method_48_code 302 = .ok (.return_, 1) := by decide +kernel
def fm_Mod_typesOne (a1 : Int) (a2 : Int) (w : fa_W) : Option fa_W :=
  (fa_ix a1 101).bind fun j1 =>
  fa_let (w 203 j1) fun x3_2 =>
  (fa_ix a1 101).bind fun j3 =>
  if fa_wr (w 184 j3) = 0 then
  ((fm_Mod_joins 900 x3_2 a2 w).bind fun w6 =>
  some w6)
  else
  if fa_wr (w 184 j3) = 1 then
  ((fa_ix a1 101).bind fun j8 =>
  (fa_ix (w 185 j8) 124).bind fun j9 =>
  (fm_Mod_joins 900 x3_2 (w 204 j9) w).bind fun w11 =>
  some w11)
  else
  if fa_wr (w 184 j3) = 2 then
  ((fa_ix a1 101).bind fun j13 =>
  (fa_ix (w 185 j13) 24).bind fun j14 =>
  (fm_Mod_joins 900 x3_2 (w 206 j14) w).bind fun w16 =>
  some w16)
  else
  if fa_wr (w 184 j3) = 4 then
  ((fa_ix a1 101).bind fun j18 =>
  (fa_ix (w 185 j18) 24).bind fun j19 =>
  (fm_Mod_joins 900 x3_2 (w 206 j19) w).bind fun w21 =>
  some w21)
  else
  if fa_wr (w 184 j3) = 5 then
  ((fa_ix a1 101).bind fun j23 =>
  (fa_ix (w 185 j23) 101).bind fun j24 =>
  (fm_Mod_joins 900 (w 203 j24) a2 w).bind fun w26 =>
  (fa_ix a1 101).bind fun j27 =>
  (fa_ix (w26 186 j27) 101).bind fun j28 =>
  (fm_Mod_joins 900 x3_2 (w26 203 j28) w26).bind fun w30 =>
  (fa_ix a1 101).bind fun j31 =>
  (fa_ix (w30 187 j31) 101).bind fun j32 =>
  (fm_Mod_joins 900 x3_2 (w30 203 j32) w30).bind fun w34 =>
  some w34)
  else
  if fa_wr (w 184 j3) = 6 then
  ((fa_ix a1 101).bind fun j36 =>
  (fa_ix (w 187 j36) 124).bind fun j37 =>
  (fa_ix a1 101).bind fun j38 =>
  (fa_ix (w 185 j38) 101).bind fun j39 =>
  (fm_Mod_joins 900 (w 204 j37) (w 203 j39) w).bind fun w41 =>
  (fa_ix a1 101).bind fun j42 =>
  (fa_ix (w41 186 j42) 101).bind fun j43 =>
  (fm_Mod_joins 900 x3_2 (w41 203 j43) w41).bind fun w45 =>
  some w45)
  else
  if fa_wr (w 184 j3) = 7 then
  ((fa_ix a1 101).bind fun j47 =>
  (fa_ix (w 185 j47) 101).bind fun j48 =>
  (fm_Mod_joins 900 (w 203 j48) a2 w).bind fun w50 =>
  (fa_ix a1 101).bind fun j51 =>
  (fa_ix (w50 186 j51) 101).bind fun j52 =>
  (fm_Mod_joins 900 (w50 203 j52) a2 w50).bind fun w54 =>
  (fm_Mod_joins 900 x3_2 a2 w54).bind fun w56 =>
  some w56)
  else
  if fa_wr (w 184 j3) = 8 then
  ((fa_ix a1 101).bind fun j58 =>
  (fa_ix (w 185 j58) 101).bind fun j59 =>
  (fa_ix a1 101).bind fun j60 =>
  (fa_ix (w 186 j60) 101).bind fun j61 =>
  fa_bd (fm_Mod_type2 2 (w 203 j61) x3_2 w) fun v63 w64 =>
  (fm_Mod_joins 900 (w 203 j59) v63 w64).bind fun w66 =>
  some w66)
  else
  some w
set_option maxHeartbeats 4000000 in
set_option maxRecDepth 100000 in
theorem c_Mod_typesOne {l : Launch} {D : va_G} {b : Nat} {aC : Nat → ClassId} {H0 : Heap} {N T : Nat} (hN : fa_NM ≤ N) (hT : fa_TM ≤ T) (a1 : Int) (a2 : Int)  (w : fa_W) (r : fa_W) (hM : fm_Mod_typesOne a1 a2 w = some r) : fa_MC l D b aC H0 N T y_Mod_typesOne prog_12_method_48_code 4 ((Option.none : Option Jvm.ClassFile.FieldType)) (902) [.ref (b + 181), .int (fa_I a1), .int (fa_I a2)] w (none) r := by
  refine fa_enter (lv := [(0, .ref (b + 181)), (1, .int (fa_I a1)), (2, .int (fa_I a2))]) (by decide +kernel) (Nat.le_of_ble_eq_true rfl) rfl (fun hh hle hnm X => ?_)
  unfold fm_Mod_typesOne at hM
  refine g_aload_n X 0 rfl d_Mod_typesOne_0 ?_
  refine g_get X ck_10 fo_181 (fn_181 hN) 40 (by decide) wd_1781 rfl (fr_181_40 rfl hT) d_Mod_typesOne_1 ?_
  refine g_iload_n X 1 rfl d_Mod_typesOne_4 ?_
  obtain ⟨j1, ej1, hM⟩ := fa_ob hM
  refine g_iald X fs_203 (fn_203 hN) ej1 d_Mod_typesOne_5 ?_
  refine g_istore_n X (fun x3_2 => [(3, .int (fa_I x3_2)), (0, .ref (b + 181)), (1, .int (fa_I a1)), (2, .int (fa_I a2))]) d_Mod_typesOne_6 (by decide) (fun _ => rfl) (fun x3_2 ex3_2 => ?_)
  have hM := fa_let_to hM ex3_2
  refine g_aload_n X 1 rfl d_Mod_typesOne_7 ?_
  refine g_get X ck_10 fo_181 (fn_181 hN) 4 (by decide) wd_1746 rfl (fr_181_4 rfl hT) d_Mod_typesOne_8 ?_
  refine g_iload_n X 2 rfl d_Mod_typesOne_11 ?_
  obtain ⟨j3, ej3, hM⟩ := fa_ob hM
  refine g_iald X fs_184 (fn_184 hN) ej3 d_Mod_typesOne_12 ?_
  by_cases hc4 : fa_wr (w 184 j3) = 0
  · have hM := fa_if_t hM hc4
    refine g_tableIn X 0 64 d_Mod_typesOne_13 hc4 (by decide) (by decide) rfl (by decide) ?_
    refine g_aload_n X 1 rfl d_Mod_typesOne_64 ?_
    refine g_iload_n X 0 rfl d_Mod_typesOne_65 ?_
    refine g_iload_n X 3 rfl d_Mod_typesOne_66 ?_
    obtain ⟨w6, e5, hM⟩ := fa_ob hM
    refine g_callV_v X ck_10 fo_181 (fn_181 hN) rfl mi_Mod_joins (c_Mod_joins hN hT 900 x3_2 a2 w _ e5) wd_1656 rfl (Nat.le_trans (Nat.le_of_ble_eq_true rfl) hle) (st := []) (Nat.le_of_ble_eq_true rfl) rfl d_Mod_typesOne_67 ?_
    refine g_goto X 302 d_Mod_typesOne_70 (by decide) ?_
    cases hM
    exact g_vret X d_Mod_typesOne_302
  have hM := fa_if_f hM hc4
  by_cases hc7 : fa_wr (w 184 j3) = 1
  · have hM := fa_if_t hM hc7
    refine g_tableIn X 1 73 d_Mod_typesOne_13 hc7 (by decide) (by decide) rfl (by decide) ?_
    refine g_aload_n X 1 rfl d_Mod_typesOne_73 ?_
    refine g_iload_n X 0 rfl d_Mod_typesOne_74 ?_
    refine g_aload_n X 1 rfl d_Mod_typesOne_75 ?_
    refine g_get X ck_10 fo_181 (fn_181 hN) 41 (by decide) wd_1782 rfl (fr_181_41 rfl hT) d_Mod_typesOne_76 ?_
    refine g_aload_n X 1 rfl d_Mod_typesOne_79 ?_
    refine g_get X ck_10 fo_181 (fn_181 hN) 5 (by decide) wd_1747 rfl (fr_181_5 rfl hT) d_Mod_typesOne_80 ?_
    refine g_iload_n X 2 rfl d_Mod_typesOne_83 ?_
    obtain ⟨j8, ej8, hM⟩ := fa_ob hM
    refine g_iald X fs_185 (fn_185 hN) ej8 d_Mod_typesOne_84 ?_
    obtain ⟨j9, ej9, hM⟩ := fa_ob hM
    refine g_iald X fs_204 (fn_204 hN) ej9 d_Mod_typesOne_85 ?_
    obtain ⟨w11, e10, hM⟩ := fa_ob hM
    refine g_callV_v X ck_10 fo_181 (fn_181 hN) rfl mi_Mod_joins (c_Mod_joins hN hT 900 x3_2 (w 204 j9) w _ e10) wd_1656 rfl (Nat.le_trans (Nat.le_of_ble_eq_true rfl) hle) (st := []) (Nat.le_of_ble_eq_true rfl) rfl d_Mod_typesOne_86 ?_
    refine g_goto X 302 d_Mod_typesOne_89 (by decide) ?_
    cases hM
    exact g_vret X d_Mod_typesOne_302
  have hM := fa_if_f hM hc7
  by_cases hc12 : fa_wr (w 184 j3) = 2
  · have hM := fa_if_t hM hc12
    refine g_tableIn X 2 92 d_Mod_typesOne_13 hc12 (by decide) (by decide) rfl (by decide) ?_
    refine g_aload_n X 1 rfl d_Mod_typesOne_92 ?_
    refine g_iload_n X 0 rfl d_Mod_typesOne_93 ?_
    refine g_aload_n X 1 rfl d_Mod_typesOne_94 ?_
    refine g_get X ck_10 fo_181 (fn_181 hN) 45 (by decide) wd_1786 rfl (fr_181_45 rfl hT) d_Mod_typesOne_95 ?_
    refine g_aload_n X 1 rfl d_Mod_typesOne_98 ?_
    refine g_get X ck_10 fo_181 (fn_181 hN) 5 (by decide) wd_1747 rfl (fr_181_5 rfl hT) d_Mod_typesOne_99 ?_
    refine g_iload_n X 2 rfl d_Mod_typesOne_102 ?_
    obtain ⟨j13, ej13, hM⟩ := fa_ob hM
    refine g_iald X fs_185 (fn_185 hN) ej13 d_Mod_typesOne_103 ?_
    obtain ⟨j14, ej14, hM⟩ := fa_ob hM
    refine g_iald X fs_206 (fn_206 hN) ej14 d_Mod_typesOne_104 ?_
    obtain ⟨w16, e15, hM⟩ := fa_ob hM
    refine g_callV_v X ck_10 fo_181 (fn_181 hN) rfl mi_Mod_joins (c_Mod_joins hN hT 900 x3_2 (w 206 j14) w _ e15) wd_1656 rfl (Nat.le_trans (Nat.le_of_ble_eq_true rfl) hle) (st := []) (Nat.le_of_ble_eq_true rfl) rfl d_Mod_typesOne_105 ?_
    refine g_goto X 302 d_Mod_typesOne_108 (by decide) ?_
    cases hM
    exact g_vret X d_Mod_typesOne_302
  have hM := fa_if_f hM hc12
  by_cases hc17 : fa_wr (w 184 j3) = 4
  · have hM := fa_if_t hM hc17
    refine g_tableIn X 4 111 d_Mod_typesOne_13 hc17 (by decide) (by decide) rfl (by decide) ?_
    refine g_aload_n X 1 rfl d_Mod_typesOne_111 ?_
    refine g_iload_n X 0 rfl d_Mod_typesOne_112 ?_
    refine g_aload_n X 1 rfl d_Mod_typesOne_113 ?_
    refine g_get X ck_10 fo_181 (fn_181 hN) 45 (by decide) wd_1786 rfl (fr_181_45 rfl hT) d_Mod_typesOne_114 ?_
    refine g_aload_n X 1 rfl d_Mod_typesOne_117 ?_
    refine g_get X ck_10 fo_181 (fn_181 hN) 5 (by decide) wd_1747 rfl (fr_181_5 rfl hT) d_Mod_typesOne_118 ?_
    refine g_iload_n X 2 rfl d_Mod_typesOne_121 ?_
    obtain ⟨j18, ej18, hM⟩ := fa_ob hM
    refine g_iald X fs_185 (fn_185 hN) ej18 d_Mod_typesOne_122 ?_
    obtain ⟨j19, ej19, hM⟩ := fa_ob hM
    refine g_iald X fs_206 (fn_206 hN) ej19 d_Mod_typesOne_123 ?_
    obtain ⟨w21, e20, hM⟩ := fa_ob hM
    refine g_callV_v X ck_10 fo_181 (fn_181 hN) rfl mi_Mod_joins (c_Mod_joins hN hT 900 x3_2 (w 206 j19) w _ e20) wd_1656 rfl (Nat.le_trans (Nat.le_of_ble_eq_true rfl) hle) (st := []) (Nat.le_of_ble_eq_true rfl) rfl d_Mod_typesOne_124 ?_
    refine g_goto X 302 d_Mod_typesOne_127 (by decide) ?_
    cases hM
    exact g_vret X d_Mod_typesOne_302
  have hM := fa_if_f hM hc17
  by_cases hc22 : fa_wr (w 184 j3) = 5
  · have hM := fa_if_t hM hc22
    refine g_tableIn X 5 130 d_Mod_typesOne_13 hc22 (by decide) (by decide) rfl (by decide) ?_
    refine g_aload_n X 1 rfl d_Mod_typesOne_130 ?_
    refine g_aload_n X 1 rfl d_Mod_typesOne_131 ?_
    refine g_get X ck_10 fo_181 (fn_181 hN) 40 (by decide) wd_1781 rfl (fr_181_40 rfl hT) d_Mod_typesOne_132 ?_
    refine g_aload_n X 1 rfl d_Mod_typesOne_135 ?_
    refine g_get X ck_10 fo_181 (fn_181 hN) 5 (by decide) wd_1747 rfl (fr_181_5 rfl hT) d_Mod_typesOne_136 ?_
    refine g_iload_n X 2 rfl d_Mod_typesOne_139 ?_
    obtain ⟨j23, ej23, hM⟩ := fa_ob hM
    refine g_iald X fs_185 (fn_185 hN) ej23 d_Mod_typesOne_140 ?_
    obtain ⟨j24, ej24, hM⟩ := fa_ob hM
    refine g_iald X fs_203 (fn_203 hN) ej24 d_Mod_typesOne_141 ?_
    refine g_iload_n X 3 rfl d_Mod_typesOne_142 ?_
    obtain ⟨w26, e25, hM⟩ := fa_ob hM
    refine g_callV_v X ck_10 fo_181 (fn_181 hN) rfl mi_Mod_joins (c_Mod_joins hN hT 900 (w 203 j24) a2 w _ e25) wd_1656 rfl (Nat.le_trans (Nat.le_of_ble_eq_true rfl) hle) (st := []) (Nat.le_of_ble_eq_true rfl) rfl d_Mod_typesOne_143 ?_
    refine g_aload_n X 1 rfl d_Mod_typesOne_146 ?_
    refine g_iload_n X 0 rfl d_Mod_typesOne_147 ?_
    refine g_aload_n X 1 rfl d_Mod_typesOne_148 ?_
    refine g_get X ck_10 fo_181 (fn_181 hN) 40 (by decide) wd_1781 rfl (fr_181_40 rfl hT) d_Mod_typesOne_149 ?_
    refine g_aload_n X 1 rfl d_Mod_typesOne_152 ?_
    refine g_get X ck_10 fo_181 (fn_181 hN) 6 (by decide) wd_1748 rfl (fr_181_6 rfl hT) d_Mod_typesOne_153 ?_
    refine g_iload_n X 2 rfl d_Mod_typesOne_156 ?_
    obtain ⟨j27, ej27, hM⟩ := fa_ob hM
    refine g_iald X fs_186 (fn_186 hN) ej27 d_Mod_typesOne_157 ?_
    obtain ⟨j28, ej28, hM⟩ := fa_ob hM
    refine g_iald X fs_203 (fn_203 hN) ej28 d_Mod_typesOne_158 ?_
    obtain ⟨w30, e29, hM⟩ := fa_ob hM
    refine g_callV_v X ck_10 fo_181 (fn_181 hN) rfl mi_Mod_joins (c_Mod_joins hN hT 900 x3_2 (w26 203 j28) w26 _ e29) wd_1656 rfl (Nat.le_trans (Nat.le_of_ble_eq_true rfl) hle) (st := []) (Nat.le_of_ble_eq_true rfl) rfl d_Mod_typesOne_159 ?_
    refine g_aload_n X 1 rfl d_Mod_typesOne_162 ?_
    refine g_iload_n X 0 rfl d_Mod_typesOne_163 ?_
    refine g_aload_n X 1 rfl d_Mod_typesOne_164 ?_
    refine g_get X ck_10 fo_181 (fn_181 hN) 40 (by decide) wd_1781 rfl (fr_181_40 rfl hT) d_Mod_typesOne_165 ?_
    refine g_aload_n X 1 rfl d_Mod_typesOne_168 ?_
    refine g_get X ck_10 fo_181 (fn_181 hN) 7 (by decide) wd_1749 rfl (fr_181_7 rfl hT) d_Mod_typesOne_169 ?_
    refine g_iload_n X 2 rfl d_Mod_typesOne_172 ?_
    obtain ⟨j31, ej31, hM⟩ := fa_ob hM
    refine g_iald X fs_187 (fn_187 hN) ej31 d_Mod_typesOne_173 ?_
    obtain ⟨j32, ej32, hM⟩ := fa_ob hM
    refine g_iald X fs_203 (fn_203 hN) ej32 d_Mod_typesOne_174 ?_
    obtain ⟨w34, e33, hM⟩ := fa_ob hM
    refine g_callV_v X ck_10 fo_181 (fn_181 hN) rfl mi_Mod_joins (c_Mod_joins hN hT 900 x3_2 (w30 203 j32) w30 _ e33) wd_1656 rfl (Nat.le_trans (Nat.le_of_ble_eq_true rfl) hle) (st := []) (Nat.le_of_ble_eq_true rfl) rfl d_Mod_typesOne_175 ?_
    refine g_goto X 302 d_Mod_typesOne_178 (by decide) ?_
    cases hM
    exact g_vret X d_Mod_typesOne_302
  have hM := fa_if_f hM hc22
  by_cases hc35 : fa_wr (w 184 j3) = 6
  · have hM := fa_if_t hM hc35
    refine g_tableIn X 6 181 d_Mod_typesOne_13 hc35 (by decide) (by decide) rfl (by decide) ?_
    refine g_aload_n X 1 rfl d_Mod_typesOne_181 ?_
    refine g_aload_n X 1 rfl d_Mod_typesOne_182 ?_
    refine g_get X ck_10 fo_181 (fn_181 hN) 41 (by decide) wd_1782 rfl (fr_181_41 rfl hT) d_Mod_typesOne_183 ?_
    refine g_aload_n X 1 rfl d_Mod_typesOne_186 ?_
    refine g_get X ck_10 fo_181 (fn_181 hN) 7 (by decide) wd_1749 rfl (fr_181_7 rfl hT) d_Mod_typesOne_187 ?_
    refine g_iload_n X 2 rfl d_Mod_typesOne_190 ?_
    obtain ⟨j36, ej36, hM⟩ := fa_ob hM
    refine g_iald X fs_187 (fn_187 hN) ej36 d_Mod_typesOne_191 ?_
    obtain ⟨j37, ej37, hM⟩ := fa_ob hM
    refine g_iald X fs_204 (fn_204 hN) ej37 d_Mod_typesOne_192 ?_
    refine g_aload_n X 1 rfl d_Mod_typesOne_193 ?_
    refine g_get X ck_10 fo_181 (fn_181 hN) 40 (by decide) wd_1781 rfl (fr_181_40 rfl hT) d_Mod_typesOne_194 ?_
    refine g_aload_n X 1 rfl d_Mod_typesOne_197 ?_
    refine g_get X ck_10 fo_181 (fn_181 hN) 5 (by decide) wd_1747 rfl (fr_181_5 rfl hT) d_Mod_typesOne_198 ?_
    refine g_iload_n X 2 rfl d_Mod_typesOne_201 ?_
    obtain ⟨j38, ej38, hM⟩ := fa_ob hM
    refine g_iald X fs_185 (fn_185 hN) ej38 d_Mod_typesOne_202 ?_
    obtain ⟨j39, ej39, hM⟩ := fa_ob hM
    refine g_iald X fs_203 (fn_203 hN) ej39 d_Mod_typesOne_203 ?_
    obtain ⟨w41, e40, hM⟩ := fa_ob hM
    refine g_callV_v X ck_10 fo_181 (fn_181 hN) rfl mi_Mod_joins (c_Mod_joins hN hT 900 (w 204 j37) (w 203 j39) w _ e40) wd_1656 rfl (Nat.le_trans (Nat.le_of_ble_eq_true rfl) hle) (st := []) (Nat.le_of_ble_eq_true rfl) rfl d_Mod_typesOne_204 ?_
    refine g_aload_n X 1 rfl d_Mod_typesOne_207 ?_
    refine g_iload_n X 0 rfl d_Mod_typesOne_208 ?_
    refine g_aload_n X 1 rfl d_Mod_typesOne_209 ?_
    refine g_get X ck_10 fo_181 (fn_181 hN) 40 (by decide) wd_1781 rfl (fr_181_40 rfl hT) d_Mod_typesOne_210 ?_
    refine g_aload_n X 1 rfl d_Mod_typesOne_213 ?_
    refine g_get X ck_10 fo_181 (fn_181 hN) 6 (by decide) wd_1748 rfl (fr_181_6 rfl hT) d_Mod_typesOne_214 ?_
    refine g_iload_n X 2 rfl d_Mod_typesOne_217 ?_
    obtain ⟨j42, ej42, hM⟩ := fa_ob hM
    refine g_iald X fs_186 (fn_186 hN) ej42 d_Mod_typesOne_218 ?_
    obtain ⟨j43, ej43, hM⟩ := fa_ob hM
    refine g_iald X fs_203 (fn_203 hN) ej43 d_Mod_typesOne_219 ?_
    obtain ⟨w45, e44, hM⟩ := fa_ob hM
    refine g_callV_v X ck_10 fo_181 (fn_181 hN) rfl mi_Mod_joins (c_Mod_joins hN hT 900 x3_2 (w41 203 j43) w41 _ e44) wd_1656 rfl (Nat.le_trans (Nat.le_of_ble_eq_true rfl) hle) (st := []) (Nat.le_of_ble_eq_true rfl) rfl d_Mod_typesOne_220 ?_
    refine g_goto X 302 d_Mod_typesOne_223 (by decide) ?_
    cases hM
    exact g_vret X d_Mod_typesOne_302
  have hM := fa_if_f hM hc35
  by_cases hc46 : fa_wr (w 184 j3) = 7
  · have hM := fa_if_t hM hc46
    refine g_tableIn X 7 226 d_Mod_typesOne_13 hc46 (by decide) (by decide) rfl (by decide) ?_
    refine g_aload_n X 1 rfl d_Mod_typesOne_226 ?_
    refine g_aload_n X 1 rfl d_Mod_typesOne_227 ?_
    refine g_get X ck_10 fo_181 (fn_181 hN) 40 (by decide) wd_1781 rfl (fr_181_40 rfl hT) d_Mod_typesOne_228 ?_
    refine g_aload_n X 1 rfl d_Mod_typesOne_231 ?_
    refine g_get X ck_10 fo_181 (fn_181 hN) 5 (by decide) wd_1747 rfl (fr_181_5 rfl hT) d_Mod_typesOne_232 ?_
    refine g_iload_n X 2 rfl d_Mod_typesOne_235 ?_
    obtain ⟨j47, ej47, hM⟩ := fa_ob hM
    refine g_iald X fs_185 (fn_185 hN) ej47 d_Mod_typesOne_236 ?_
    obtain ⟨j48, ej48, hM⟩ := fa_ob hM
    refine g_iald X fs_203 (fn_203 hN) ej48 d_Mod_typesOne_237 ?_
    refine g_iload_n X 3 rfl d_Mod_typesOne_238 ?_
    obtain ⟨w50, e49, hM⟩ := fa_ob hM
    refine g_callV_v X ck_10 fo_181 (fn_181 hN) rfl mi_Mod_joins (c_Mod_joins hN hT 900 (w 203 j48) a2 w _ e49) wd_1656 rfl (Nat.le_trans (Nat.le_of_ble_eq_true rfl) hle) (st := []) (Nat.le_of_ble_eq_true rfl) rfl d_Mod_typesOne_239 ?_
    refine g_aload_n X 1 rfl d_Mod_typesOne_242 ?_
    refine g_aload_n X 1 rfl d_Mod_typesOne_243 ?_
    refine g_get X ck_10 fo_181 (fn_181 hN) 40 (by decide) wd_1781 rfl (fr_181_40 rfl hT) d_Mod_typesOne_244 ?_
    refine g_aload_n X 1 rfl d_Mod_typesOne_247 ?_
    refine g_get X ck_10 fo_181 (fn_181 hN) 6 (by decide) wd_1748 rfl (fr_181_6 rfl hT) d_Mod_typesOne_248 ?_
    refine g_iload_n X 2 rfl d_Mod_typesOne_251 ?_
    obtain ⟨j51, ej51, hM⟩ := fa_ob hM
    refine g_iald X fs_186 (fn_186 hN) ej51 d_Mod_typesOne_252 ?_
    obtain ⟨j52, ej52, hM⟩ := fa_ob hM
    refine g_iald X fs_203 (fn_203 hN) ej52 d_Mod_typesOne_253 ?_
    refine g_iload_n X 3 rfl d_Mod_typesOne_254 ?_
    obtain ⟨w54, e53, hM⟩ := fa_ob hM
    refine g_callV_v X ck_10 fo_181 (fn_181 hN) rfl mi_Mod_joins (c_Mod_joins hN hT 900 (w50 203 j52) a2 w50 _ e53) wd_1656 rfl (Nat.le_trans (Nat.le_of_ble_eq_true rfl) hle) (st := []) (Nat.le_of_ble_eq_true rfl) rfl d_Mod_typesOne_255 ?_
    refine g_aload_n X 1 rfl d_Mod_typesOne_258 ?_
    refine g_iload_n X 0 rfl d_Mod_typesOne_259 ?_
    refine g_iload_n X 3 rfl d_Mod_typesOne_260 ?_
    obtain ⟨w56, e55, hM⟩ := fa_ob hM
    refine g_callV_v X ck_10 fo_181 (fn_181 hN) rfl mi_Mod_joins (c_Mod_joins hN hT 900 x3_2 a2 w54 _ e55) wd_1656 rfl (Nat.le_trans (Nat.le_of_ble_eq_true rfl) hle) (st := []) (Nat.le_of_ble_eq_true rfl) rfl d_Mod_typesOne_261 ?_
    refine g_goto X 302 d_Mod_typesOne_264 (by decide) ?_
    cases hM
    exact g_vret X d_Mod_typesOne_302
  have hM := fa_if_f hM hc46
  by_cases hc57 : fa_wr (w 184 j3) = 8
  · have hM := fa_if_t hM hc57
    refine g_tableIn X 8 267 d_Mod_typesOne_13 hc57 (by decide) (by decide) rfl (by decide) ?_
    refine g_aload_n X 1 rfl d_Mod_typesOne_267 ?_
    refine g_aload_n X 1 rfl d_Mod_typesOne_268 ?_
    refine g_get X ck_10 fo_181 (fn_181 hN) 40 (by decide) wd_1781 rfl (fr_181_40 rfl hT) d_Mod_typesOne_269 ?_
    refine g_aload_n X 1 rfl d_Mod_typesOne_272 ?_
    refine g_get X ck_10 fo_181 (fn_181 hN) 5 (by decide) wd_1747 rfl (fr_181_5 rfl hT) d_Mod_typesOne_273 ?_
    refine g_iload_n X 2 rfl d_Mod_typesOne_276 ?_
    obtain ⟨j58, ej58, hM⟩ := fa_ob hM
    refine g_iald X fs_185 (fn_185 hN) ej58 d_Mod_typesOne_277 ?_
    obtain ⟨j59, ej59, hM⟩ := fa_ob hM
    refine g_iald X fs_203 (fn_203 hN) ej59 d_Mod_typesOne_278 ?_
    refine g_aload_n X 1 rfl d_Mod_typesOne_279 ?_
    refine g_iconst X d_Mod_typesOne_280 ?_
    refine g_aload_n X 1 rfl d_Mod_typesOne_281 ?_
    refine g_get X ck_10 fo_181 (fn_181 hN) 40 (by decide) wd_1781 rfl (fr_181_40 rfl hT) d_Mod_typesOne_282 ?_
    refine g_aload_n X 1 rfl d_Mod_typesOne_285 ?_
    refine g_get X ck_10 fo_181 (fn_181 hN) 6 (by decide) wd_1748 rfl (fr_181_6 rfl hT) d_Mod_typesOne_286 ?_
    refine g_iload_n X 2 rfl d_Mod_typesOne_289 ?_
    obtain ⟨j60, ej60, hM⟩ := fa_ob hM
    refine g_iald X fs_186 (fn_186 hN) ej60 d_Mod_typesOne_290 ?_
    obtain ⟨j61, ej61, hM⟩ := fa_ob hM
    refine g_iald X fs_203 (fn_203 hN) ej61 d_Mod_typesOne_291 ?_
    refine g_iload_n X 0 rfl d_Mod_typesOne_292 ?_
    obtain ⟨v63, w64, e62, hM⟩ := fa_obd hM
    refine g_callV_i X ck_10 fo_181 (fn_181 hN) rfl mi_Mod_type2 (c_Mod_type2 hN hT 2 (w 203 j61) x3_2 w _ e62) wd_1636 rfl (Nat.le_trans (Nat.le_of_ble_eq_true rfl) hle) (st := [.int (fa_I (w 203 j59)), .ref (b + 181)]) (Nat.le_of_ble_eq_true rfl) rfl d_Mod_typesOne_293 ?_
    obtain ⟨w66, e65, hM⟩ := fa_ob hM
    refine g_callV_v X ck_10 fo_181 (fn_181 hN) rfl mi_Mod_joins (c_Mod_joins hN hT 900 (w 203 j59) v63 w64 _ e65) wd_1656 rfl (Nat.le_trans (Nat.le_of_ble_eq_true rfl) hle) (st := []) (Nat.le_of_ble_eq_true rfl) rfl d_Mod_typesOne_296 ?_
    refine g_goto X 302 d_Mod_typesOne_299 (by decide) ?_
    cases hM
    exact g_vret X d_Mod_typesOne_302
  have hM := fa_if_f hM hc57
  refine g_tableDef X 302 d_Mod_typesOne_13 (by
    by_cases h9 : fa_wr (w 184 j3) = 3
    · rw [h9]; exact Or.inr ⟨by decide, by decide, _, rfl, by decide⟩
    exact Or.inl (by omega)) (by decide) ?_
  cases hM
  exact g_vret X d_Mod_typesOne_302
theorem d_Mod_isBounded_0 : decode prog_12_method_49_code 0 = .ok (.aload_n 0, 1) := by decide +kernel
theorem d_Mod_isBounded_1 : decode prog_12_method_49_code 1 = .ok (.getfield 282, 3) := by decide +kernel
theorem d_Mod_isBounded_4 : decode prog_12_method_49_code 4 = .ok (.iload_n 1, 1) := by decide +kernel
theorem d_Mod_isBounded_5 : decode prog_12_method_49_code 5 = .ok (.iaload, 1) := by decide +kernel
theorem d_Mod_isBounded_6 : decode prog_12_method_49_code 6 = .ok (.iconst 2, 1) := by decide +kernel
theorem d_Mod_isBounded_7 : decode prog_12_method_49_code 7 = .ok (.if_icmp .eq 13, 3) := by decide +kernel
theorem d_Mod_isBounded_10 : decode prog_12_method_49_code 10 = .ok (.aload_n 0, 1) := by decide +kernel
theorem d_Mod_isBounded_11 : decode prog_12_method_49_code 11 = .ok (.getfield 233, 3) := by decide +kernel
theorem d_Mod_isBounded_14 : decode prog_12_method_49_code 14 = .ok (.iload_n 1, 1) := by decide +kernel
theorem d_Mod_isBounded_15 : decode prog_12_method_49_code 15 = .ok (.iaload, 1) := by decide +kernel
theorem d_Mod_isBounded_16 : decode prog_12_method_49_code 16 = .ok (.iconst 2, 1) := by decide +kernel
theorem d_Mod_isBounded_17 : decode prog_12_method_49_code 17 = .ok (.if_icmp .eq 5, 3) := by decide +kernel
theorem d_Mod_isBounded_20 : decode prog_12_method_49_code 20 = .ok (.iconst 1, 1) := by decide +kernel
theorem d_Mod_isBounded_21 : decode prog_12_method_49_code 21 = .ok (.ireturn, 1) := by decide +kernel
theorem d_Mod_isBounded_22 : decode prog_12_method_49_code 22 = .ok (.aload_n 0, 1) := by decide +kernel
theorem d_Mod_isBounded_23 : decode prog_12_method_49_code 23 = .ok (.getfield 282, 3) := by decide +kernel
theorem d_Mod_isBounded_26 : decode prog_12_method_49_code 26 = .ok (.iload_n 1, 1) := by decide +kernel
theorem d_Mod_isBounded_27 : decode prog_12_method_49_code 27 = .ok (.iaload, 1) := by decide +kernel
theorem d_Mod_isBounded_28 : decode prog_12_method_49_code 28 = .ok (.iconst 1, 1) := by decide +kernel
theorem d_Mod_isBounded_29 : decode prog_12_method_49_code 29 = .ok (.if_icmp .ne 5, 3) := by decide +kernel
theorem d_Mod_isBounded_32 : decode prog_12_method_49_code 32 = .ok (.iconst 0, 1) := by decide +kernel
theorem d_Mod_isBounded_33 : decode prog_12_method_49_code 33 = .ok (.ireturn, 1) := by decide +kernel
theorem d_Mod_isBounded_34 : decode prog_12_method_49_code 34 = .ok (.aload_n 0, 1) := by decide +kernel
theorem d_Mod_isBounded_35 : decode prog_12_method_49_code 35 = .ok (.getfield 282, 3) := by decide +kernel
theorem d_Mod_isBounded_38 : decode prog_12_method_49_code 38 = .ok (.iload_n 1, 1) := by decide +kernel
theorem d_Mod_isBounded_39 : decode prog_12_method_49_code 39 = .ok (.iconst 1, 1) := by decide +kernel
theorem d_Mod_isBounded_40 : decode prog_12_method_49_code 40 = .ok (.iastore, 1) := by decide +kernel
theorem d_Mod_isBounded_41 : decode prog_12_method_49_code 41 = .ok (.aload_n 0, 1) := by decide +kernel
theorem d_Mod_isBounded_42 : decode prog_12_method_49_code 42 = .ok (.aload_n 0, 1) := by decide +kernel
theorem d_Mod_isBounded_43 : decode prog_12_method_49_code 43 = .ok (.aload_n 0, 1) := by decide +kernel
theorem d_Mod_isBounded_44 : decode prog_12_method_49_code 44 = .ok (.getfield 239, 3) := by decide +kernel
theorem d_Mod_isBounded_47 : decode prog_12_method_49_code 47 = .ok (.iload_n 1, 1) := by decide +kernel
theorem d_Mod_isBounded_48 : decode prog_12_method_49_code 48 = .ok (.iaload, 1) := by decide +kernel
theorem d_Mod_isBounded_49 : decode prog_12_method_49_code 49 = .ok (.invokevirtual 248, 3) := by decide +kernel
theorem d_Mod_isBounded_52 : decode prog_12_method_49_code 52 = .ok (.invokevirtual 285, 3) := by decide +kernel
theorem d_Mod_isBounded_55 : decode prog_12_method_49_code 55 = .ok (.ifCond .eq 24, 3) := by decide +kernel
theorem d_Mod_isBounded_58 : decode prog_12_method_49_code 58 = .ok (.aload_n 0, 1) := by decide +kernel
theorem d_Mod_isBounded_59 : decode prog_12_method_49_code 59 = .ok (.aload_n 0, 1) := by decide +kernel
theorem d_Mod_isBounded_60 : decode prog_12_method_49_code 60 = .ok (.aload_n 0, 1) := by decide +kernel
theorem d_Mod_isBounded_61 : decode prog_12_method_49_code 61 = .ok (.getfield 242, 3) := by decide +kernel
theorem d_Mod_isBounded_64 : decode prog_12_method_49_code 64 = .ok (.iload_n 1, 1) := by decide +kernel
theorem d_Mod_isBounded_65 : decode prog_12_method_49_code 65 = .ok (.iaload, 1) := by decide +kernel
theorem d_Mod_isBounded_66 : decode prog_12_method_49_code 66 = .ok (.invokevirtual 248, 3) := by decide +kernel
theorem d_Mod_isBounded_69 : decode prog_12_method_49_code 69 = .ok (.invokevirtual 285, 3) := by decide +kernel
theorem d_Mod_isBounded_72 : decode prog_12_method_49_code 72 = .ok (.ifCond .eq 7, 3) := by decide +kernel
theorem d_Mod_isBounded_75 : decode prog_12_method_49_code 75 = .ok (.iconst 1, 1) := by decide +kernel
theorem d_Mod_isBounded_76 : decode prog_12_method_49_code 76 = .ok (.goto 4, 3) := by decide +kernel
theorem d_Mod_isBounded_79 : decode prog_12_method_49_code 79 = .ok (.iconst 0, 1) := by decide +kernel
theorem d_Mod_isBounded_80 : decode prog_12_method_49_code 80 = .ok (.istore_n 2, 1) := by decide +kernel
theorem d_Mod_isBounded_81 : decode prog_12_method_49_code 81 = .ok (.aload_n 0, 1) := by decide +kernel
theorem d_Mod_isBounded_82 : decode prog_12_method_49_code 82 = .ok (.getfield 282, 3) := by decide +kernel
theorem d_Mod_isBounded_85 : decode prog_12_method_49_code 85 = .ok (.iload_n 1, 1) := by decide +kernel
theorem d_Mod_isBounded_86 : decode prog_12_method_49_code 86 = .ok (.iconst 2, 1) := by decide +kernel
theorem d_Mod_isBounded_87 : decode prog_12_method_49_code 87 = .ok (.iastore, 1) := by decide +kernel
theorem d_Mod_isBounded_88 : decode prog_12_method_49_code 88 = .ok (.iload_n 2, 1) := by decide +kernel
theorem d_Mod_isBounded_89 : decode prog_12_method_49_code 89 = .ok (.ireturn, 1) := by decide +kernel
def fm_Mod_isBounded_j80 (a1 : Int) (rc_isBounded : Int → fa_W → Option (Bool × fa_W)) (s0 : Bool) (w : fa_W) : Option (Bool × fa_W) :=
  (fa_ix a1 1200).bind fun j16 =>
  fa_let (fa_st w 205 j16 2) fun w17 =>
  some (s0, w17)
set_option maxHeartbeats 4000000 in
set_option maxRecDepth 100000 in
theorem c_Mod_isBounded_j80 {p : Program} {l : Launch} {e : Env} {s : State} {m : MethodId} {args : Array Value} {below : List Frame} {meth : Method} {c : Code} {hh : Nat} {D : va_G} {b : Nat} {aC : Nat → ClassId} {H0 : Heap} {N T : Nat} {dd : Nat} (X : fa_GX p s m args meth c prog_12_method_49_code 3 ((Option.some Jvm.ClassFile.FieldType.boolean)) y_Mod_isBounded.cls D b aC) (hle : 1 + dd + 1 ≤ hh) (hN : fa_NM ≤ N) (hT : fa_TM ≤ T) (a1 : Int) {r : Bool × fa_W} (rc_isBounded : Int → fa_W → Option (Bool × fa_W)) (Rrc_isBounded : ∀ (a1 : Int) (w : fa_W) (r : Bool × fa_W), rc_isBounded a1 w = some r → fa_MC l D b aC H0 N T y_Mod_isBounded prog_12_method_49_code 3 ((Option.some Jvm.ClassFile.FieldType.boolean)) (1 + dd) [.ref (b + 181), .int (fa_I a1)] w (some (.int (fa_I (fa_bi r.1)))) r.2) : ∀ (s0 : Bool) (w : fa_W) (_ : fm_Mod_isBounded_j80 a1 rc_isBounded s0 w = some r), fa_GJ p l e (fa_rm hh) s m args below meth c 0 0 (MQ below (fa_Qc D b aC H0 N T (some (.int (fa_I (fa_bi r.1)))) r.2) args s 0 0 (fun q => b ≤ q)) D b aC H0 N T 3 w 80 [(0, .ref (b + 181)), (1, .int (fa_I a1))] [.int (fa_I (fa_bi s0))] := by
  intro s0 w hM
  unfold fm_Mod_isBounded_j80 at hM
  refine g_istorec_n X [(2, .int (fa_I (fa_bi s0))), (0, .ref (b + 181)), (1, .int (fa_I a1))] d_Mod_isBounded_80 (by decide) rfl ?_
  refine g_aload_n X 1 rfl d_Mod_isBounded_81 ?_
  refine g_get X ck_10 fo_181 (fn_181 hN) 42 (by decide) wd_1783 rfl (fr_181_42 rfl hT) d_Mod_isBounded_82 ?_
  refine g_iload_n X 2 rfl d_Mod_isBounded_85 ?_
  refine g_iconst X d_Mod_isBounded_86 ?_
  obtain ⟨j16, ej16, hM⟩ := fa_ob hM
  refine g_iast X fs_205 (fn_205 hN) ej16 d_Mod_isBounded_87 (fun w17 ew17 => ?_)
  have hM := fa_let_to hM ew17
  refine g_iload_n X 0 rfl d_Mod_isBounded_88 ?_
  cases hM
  exact g_zret X rfl d_Mod_isBounded_89
def fm_Mod_isBounded_j79 (a1 : Int) (rc_isBounded : Int → fa_W → Option (Bool × fa_W)) (w : fa_W) : Option (Bool × fa_W) :=
  fm_Mod_isBounded_j80 a1 rc_isBounded false w
set_option maxHeartbeats 4000000 in
set_option maxRecDepth 100000 in
theorem c_Mod_isBounded_j79 {p : Program} {l : Launch} {e : Env} {s : State} {m : MethodId} {args : Array Value} {below : List Frame} {meth : Method} {c : Code} {hh : Nat} {D : va_G} {b : Nat} {aC : Nat → ClassId} {H0 : Heap} {N T : Nat} {dd : Nat} (X : fa_GX p s m args meth c prog_12_method_49_code 3 ((Option.some Jvm.ClassFile.FieldType.boolean)) y_Mod_isBounded.cls D b aC) (hle : 1 + dd + 1 ≤ hh) (hN : fa_NM ≤ N) (hT : fa_TM ≤ T) (a1 : Int) {r : Bool × fa_W} (rc_isBounded : Int → fa_W → Option (Bool × fa_W)) (Rrc_isBounded : ∀ (a1 : Int) (w : fa_W) (r : Bool × fa_W), rc_isBounded a1 w = some r → fa_MC l D b aC H0 N T y_Mod_isBounded prog_12_method_49_code 3 ((Option.some Jvm.ClassFile.FieldType.boolean)) (1 + dd) [.ref (b + 181), .int (fa_I a1)] w (some (.int (fa_I (fa_bi r.1)))) r.2) : ∀ (w : fa_W) (_ : fm_Mod_isBounded_j79 a1 rc_isBounded w = some r), fa_GJ p l e (fa_rm hh) s m args below meth c 0 0 (MQ below (fa_Qc D b aC H0 N T (some (.int (fa_I (fa_bi r.1)))) r.2) args s 0 0 (fun q => b ≤ q)) D b aC H0 N T 3 w 79 [(0, .ref (b + 181)), (1, .int (fa_I a1))] [] := by
  intro w hM
  unfold fm_Mod_isBounded_j79 at hM
  refine g_iconst X d_Mod_isBounded_79 ?_
  exact g_lv [0, 1] rfl (c_Mod_isBounded_j80 X hle hN hT a1 rc_isBounded Rrc_isBounded   _ _ hM)
def fm_Mod_isBounded_b (rc_isBounded : Int → fa_W → Option (Bool × fa_W)) (a1 : Int) (w : fa_W) : Option (Bool × fa_W) :=
  (fa_ix a1 1200).bind fun j1 =>
  if fa_wr (w 205 j1) = 2 then
  some (true, w)
  else
  ((fa_ix a1 1200).bind fun j3 =>
  if fa_wr (w 199 j3) = 2 then
  ((fa_ix a1 1200).bind fun j5 =>
  if fa_wr (w 205 j5) = 1 then
  some (false, w)
  else
  ((fa_ix a1 1200).bind fun j7 =>
  fa_let (fa_st w 205 j7 1) fun w8 =>
  (fa_ix a1 1200).bind fun j9 =>
  (fm_Mod_find (w8 200 j9) w8).bind fun v11 =>
  fa_bd (rc_isBounded v11 w8) fun v13 w14 =>
  if v13 = true then
  ((fa_ix a1 1200).bind fun j18 =>
  (fm_Mod_find (w14 201 j18) w14).bind fun v20 =>
  fa_bd (rc_isBounded v20 w14) fun v22 w23 =>
  if v22 = true then
  fm_Mod_isBounded_j80 a1 rc_isBounded true w23
  else
  fm_Mod_isBounded_j79 a1 rc_isBounded w23)
  else
  fm_Mod_isBounded_j79 a1 rc_isBounded w14))
  else
  some (true, w))
set_option maxHeartbeats 4000000 in
set_option maxRecDepth 100000 in
theorem c_Mod_isBounded_b {l : Launch} {D : va_G} {b : Nat} {aC : Nat → ClassId} {H0 : Heap} {N T : Nat} (hN : fa_NM ≤ N) (hT : fa_TM ≤ T) (dd : Nat) (rc_isBounded : Int → fa_W → Option (Bool × fa_W)) (Rrc_isBounded : ∀ (a1 : Int) (w : fa_W) (r : Bool × fa_W), rc_isBounded a1 w = some r → fa_MC l D b aC H0 N T y_Mod_isBounded prog_12_method_49_code 3 ((Option.some Jvm.ClassFile.FieldType.boolean)) (1 + dd) [.ref (b + 181), .int (fa_I a1)] w (some (.int (fa_I (fa_bi r.1)))) r.2) (a1 : Int)  (w : fa_W) (r : Bool × fa_W) (hM : fm_Mod_isBounded_b rc_isBounded a1 w = some r) : fa_MC l D b aC H0 N T y_Mod_isBounded prog_12_method_49_code 3 ((Option.some Jvm.ClassFile.FieldType.boolean)) (1 + dd + 1) [.ref (b + 181), .int (fa_I a1)] w (some (.int (fa_I (fa_bi r.1)))) r.2 := by
  refine fa_enter (lv := [(0, .ref (b + 181)), (1, .int (fa_I a1))]) (by decide +kernel) (Nat.le_of_ble_eq_true rfl) rfl (fun hh hle hnm X => ?_)
  unfold fm_Mod_isBounded_b at hM
  refine g_aload_n X 0 rfl d_Mod_isBounded_0 ?_
  refine g_get X ck_10 fo_181 (fn_181 hN) 42 (by decide) wd_1783 rfl (fr_181_42 rfl hT) d_Mod_isBounded_1 ?_
  refine g_iload_n X 1 rfl d_Mod_isBounded_4 ?_
  obtain ⟨j1, ej1, hM⟩ := fa_ob hM
  refine g_iald X fs_205 (fn_205 hN) ej1 d_Mod_isBounded_5 ?_
  refine g_iconst X d_Mod_isBounded_6 ?_
  refine g_icmp_eq X 20 d_Mod_isBounded_7 (by decide) (fun hc2 => ?_) (fun hc2 => ?_)
  · have hM := fa_if_t hM hc2
    refine g_iconst X d_Mod_isBounded_20 ?_
    cases hM
    exact g_zret X rfl d_Mod_isBounded_21
  · have hM := fa_if_f hM hc2
    refine g_aload_n X 0 rfl d_Mod_isBounded_10 ?_
    refine g_get X ck_10 fo_181 (fn_181 hN) 36 (by decide) wd_1777 rfl (fr_181_36 rfl hT) d_Mod_isBounded_11 ?_
    refine g_iload_n X 1 rfl d_Mod_isBounded_14 ?_
    obtain ⟨j3, ej3, hM⟩ := fa_ob hM
    refine g_iald X fs_199 (fn_199 hN) ej3 d_Mod_isBounded_15 ?_
    refine g_iconst X d_Mod_isBounded_16 ?_
    refine g_icmp_eq X 22 d_Mod_isBounded_17 (by decide) (fun hc4 => ?_) (fun hc4 => ?_)
    · have hM := fa_if_t hM hc4
      refine g_aload_n X 0 rfl d_Mod_isBounded_22 ?_
      refine g_get X ck_10 fo_181 (fn_181 hN) 42 (by decide) wd_1783 rfl (fr_181_42 rfl hT) d_Mod_isBounded_23 ?_
      refine g_iload_n X 1 rfl d_Mod_isBounded_26 ?_
      obtain ⟨j5, ej5, hM⟩ := fa_ob hM
      refine g_iald X fs_205 (fn_205 hN) ej5 d_Mod_isBounded_27 ?_
      refine g_iconst X d_Mod_isBounded_28 ?_
      refine g_icmp_ne X 34 d_Mod_isBounded_29 (by decide) (fun hc6 => ?_) (fun hc6 => ?_)
      · have hM := fa_if_f hM hc6
        refine g_aload_n X 0 rfl d_Mod_isBounded_34 ?_
        refine g_get X ck_10 fo_181 (fn_181 hN) 42 (by decide) wd_1783 rfl (fr_181_42 rfl hT) d_Mod_isBounded_35 ?_
        refine g_iload_n X 1 rfl d_Mod_isBounded_38 ?_
        refine g_iconst X d_Mod_isBounded_39 ?_
        obtain ⟨j7, ej7, hM⟩ := fa_ob hM
        refine g_iast X fs_205 (fn_205 hN) ej7 d_Mod_isBounded_40 (fun w8 ew8 => ?_)
        have hM := fa_let_to hM ew8
        refine g_aload_n X 0 rfl d_Mod_isBounded_41 ?_
        refine g_aload_n X 0 rfl d_Mod_isBounded_42 ?_
        refine g_aload_n X 0 rfl d_Mod_isBounded_43 ?_
        refine g_get X ck_10 fo_181 (fn_181 hN) 37 (by decide) wd_1778 rfl (fr_181_37 rfl hT) d_Mod_isBounded_44 ?_
        refine g_iload_n X 1 rfl d_Mod_isBounded_47 ?_
        obtain ⟨j9, ej9, hM⟩ := fa_ob hM
        refine g_iald X fs_200 (fn_200 hN) ej9 d_Mod_isBounded_48 ?_
        obtain ⟨v11, e10, hM⟩ := fa_ob hM
        refine g_callV_i X ck_10 fo_181 (fn_181 hN) rfl mi_Mod_find (c_Mod_find hN hT (w8 200 j9) w8 _ e10) wd_1660 rfl (by omega) (st := [.ref (b + 181)]) (Nat.le_of_ble_eq_true rfl) rfl d_Mod_isBounded_49 ?_
        obtain ⟨v13, w14, e12, hM⟩ := fa_obd hM
        refine g_callV_i X ck_10 fo_181 (fn_181 hN) rfl mi_Mod_isBounded (Rrc_isBounded v11 w8 _ e12) wd_1664 rfl (by omega) (st := []) (Nat.le_of_ble_eq_true rfl) rfl d_Mod_isBounded_52 ?_
        refine g_ifb_eq X 79 d_Mod_isBounded_55 (by decide) (fun hc15 => ?_) (fun hc15 => ?_)
        · have hM := fa_ifb_f hM hc15
          exact g_lv [0, 1] rfl (c_Mod_isBounded_j79 X hle hN hT a1 rc_isBounded Rrc_isBounded   _ hM)
        · have hM := fa_ifb_t hM hc15
          refine g_aload_n X 0 rfl d_Mod_isBounded_58 ?_
          refine g_aload_n X 0 rfl d_Mod_isBounded_59 ?_
          refine g_aload_n X 0 rfl d_Mod_isBounded_60 ?_
          refine g_get X ck_10 fo_181 (fn_181 hN) 38 (by decide) wd_1779 rfl (fr_181_38 rfl hT) d_Mod_isBounded_61 ?_
          refine g_iload_n X 1 rfl d_Mod_isBounded_64 ?_
          obtain ⟨j18, ej18, hM⟩ := fa_ob hM
          refine g_iald X fs_201 (fn_201 hN) ej18 d_Mod_isBounded_65 ?_
          obtain ⟨v20, e19, hM⟩ := fa_ob hM
          refine g_callV_i X ck_10 fo_181 (fn_181 hN) rfl mi_Mod_find (c_Mod_find hN hT (w14 201 j18) w14 _ e19) wd_1660 rfl (by omega) (st := [.ref (b + 181)]) (Nat.le_of_ble_eq_true rfl) rfl d_Mod_isBounded_66 ?_
          obtain ⟨v22, w23, e21, hM⟩ := fa_obd hM
          refine g_callV_i X ck_10 fo_181 (fn_181 hN) rfl mi_Mod_isBounded (Rrc_isBounded v20 w14 _ e21) wd_1664 rfl (by omega) (st := []) (Nat.le_of_ble_eq_true rfl) rfl d_Mod_isBounded_69 ?_
          refine g_ifb_eq X 79 d_Mod_isBounded_72 (by decide) (fun hc24 => ?_) (fun hc24 => ?_)
          · have hM := fa_ifb_f hM hc24
            exact g_lv [0, 1] rfl (c_Mod_isBounded_j79 X hle hN hT a1 rc_isBounded Rrc_isBounded   _ hM)
          · have hM := fa_ifb_t hM hc24
            refine g_iconst X d_Mod_isBounded_75 ?_
            refine g_goto X 80 d_Mod_isBounded_76 (by decide) ?_
            exact g_lv [0, 1] rfl (c_Mod_isBounded_j80 X hle hN hT a1 rc_isBounded Rrc_isBounded   _ _ hM)
      · have hM := fa_if_t hM hc6
        refine g_iconst X d_Mod_isBounded_32 ?_
        cases hM
        exact g_zret X rfl d_Mod_isBounded_33
    · have hM := fa_if_f hM hc4
      refine g_iconst X d_Mod_isBounded_20 ?_
      cases hM
      exact g_zret X rfl d_Mod_isBounded_21
def fm_Mod_isBounded : Nat → Int → fa_W → Option (Bool × fa_W)
  | 0, _, _ => none
  | n + 1, a1, w => fm_Mod_isBounded_b (fm_Mod_isBounded n) a1 w
set_option maxHeartbeats 4000000 in
set_option maxRecDepth 100000 in
theorem c_Mod_isBounded {l : Launch} {D : va_G} {b : Nat} {aC : Nat → ClassId} {H0 : Heap} {N T : Nat} (hN : fa_NM ≤ N) (hT : fa_TM ≤ T) : ∀ (n : Nat) (a1 : Int) (w : fa_W) (r : Bool × fa_W), fm_Mod_isBounded n a1 w = some r → fa_MC l D b aC H0 N T y_Mod_isBounded prog_12_method_49_code 3 ((Option.some Jvm.ClassFile.FieldType.boolean)) (1 + n) [.ref (b + 181), .int (fa_I a1)] w (some (.int (fa_I (fa_bi r.1)))) r.2 := by
  intro n
  induction n with
  | zero => intro a1 w r hM; exact fa_no hM
  | succ n ih => intro a1 w r hM; exact c_Mod_isBounded_b hN hT n (fm_Mod_isBounded n) ih a1 w r hM
theorem d_Mod_typesAll_0 : decode prog_12_method_47_code 0 = .ok (.aload_n 0, 1) := by decide +kernel
theorem d_Mod_typesAll_1 : decode prog_12_method_47_code 1 = .ok (.iconst 0, 1) := by decide +kernel
theorem d_Mod_typesAll_2 : decode prog_12_method_47_code 2 = .ok (.putfield 236, 3) := by decide +kernel
theorem d_Mod_typesAll_5 : decode prog_12_method_47_code 5 = .ok (.aload_n 0, 1) := by decide +kernel
theorem d_Mod_typesAll_6 : decode prog_12_method_47_code 6 = .ok (.iconst 1, 1) := by decide +kernel
theorem d_Mod_typesAll_7 : decode prog_12_method_47_code 7 = .ok (.putfield 251, 3) := by decide +kernel
theorem d_Mod_typesAll_10 : decode prog_12_method_47_code 10 = .ok (.aload_n 0, 1) := by decide +kernel
theorem d_Mod_typesAll_11 : decode prog_12_method_47_code 11 = .ok (.iconst 1, 1) := by decide +kernel
theorem d_Mod_typesAll_12 : decode prog_12_method_47_code 12 = .ok (.iconst (-1), 1) := by decide +kernel
theorem d_Mod_typesAll_13 : decode prog_12_method_47_code 13 = .ok (.iconst (-1), 1) := by decide +kernel
theorem d_Mod_typesAll_14 : decode prog_12_method_47_code 14 = .ok (.invokevirtual 264, 3) := by decide +kernel
theorem d_Mod_typesAll_17 : decode prog_12_method_47_code 17 = .ok (.istore_n 1, 1) := by decide +kernel
theorem d_Mod_typesAll_18 : decode prog_12_method_47_code 18 = .ok (.iconst 0, 1) := by decide +kernel
theorem d_Mod_typesAll_19 : decode prog_12_method_47_code 19 = .ok (.istore_n 2, 1) := by decide +kernel
theorem d_Mod_typesAll_20 : decode prog_12_method_47_code 20 = .ok (.iload_n 2, 1) := by decide +kernel
theorem d_Mod_typesAll_21 : decode prog_12_method_47_code 21 = .ok (.bipush 124, 2) := by decide +kernel
theorem d_Mod_typesAll_23 : decode prog_12_method_47_code 23 = .ok (.if_icmp .ge 22, 3) := by decide +kernel
theorem d_Mod_typesAll_26 : decode prog_12_method_47_code 26 = .ok (.aload_n 0, 1) := by decide +kernel
theorem d_Mod_typesAll_27 : decode prog_12_method_47_code 27 = .ok (.getfield 258, 3) := by decide +kernel
theorem d_Mod_typesAll_30 : decode prog_12_method_47_code 30 = .ok (.iload_n 2, 1) := by decide +kernel
theorem d_Mod_typesAll_31 : decode prog_12_method_47_code 31 = .ok (.aload_n 0, 1) := by decide +kernel
theorem d_Mod_typesAll_32 : decode prog_12_method_47_code 32 = .ok (.iconst 0, 1) := by decide +kernel
theorem d_Mod_typesAll_33 : decode prog_12_method_47_code 33 = .ok (.iconst (-1), 1) := by decide +kernel
theorem d_Mod_typesAll_34 : decode prog_12_method_47_code 34 = .ok (.iconst (-1), 1) := by decide +kernel
theorem d_Mod_typesAll_35 : decode prog_12_method_47_code 35 = .ok (.invokevirtual 264, 3) := by decide +kernel
theorem d_Mod_typesAll_38 : decode prog_12_method_47_code 38 = .ok (.iastore, 1) := by decide +kernel
theorem d_Mod_typesAll_39 : decode prog_12_method_47_code 39 = .ok (.iinc 2 1, 3) := by decide +kernel
theorem d_Mod_typesAll_42 : decode prog_12_method_47_code 42 = .ok (.goto (-22), 3) := by decide +kernel
theorem d_Mod_typesAll_45 : decode prog_12_method_47_code 45 = .ok (.iconst 0, 1) := by decide +kernel
theorem d_Mod_typesAll_46 : decode prog_12_method_47_code 46 = .ok (.istore_n 2, 1) := by decide +kernel
theorem d_Mod_typesAll_47 : decode prog_12_method_47_code 47 = .ok (.iload_n 2, 1) := by decide +kernel
theorem d_Mod_typesAll_48 : decode prog_12_method_47_code 48 = .ok (.aload_n 0, 1) := by decide +kernel
theorem d_Mod_typesAll_49 : decode prog_12_method_47_code 49 = .ok (.getfield 91, 3) := by decide +kernel
theorem d_Mod_typesAll_52 : decode prog_12_method_47_code 52 = .ok (.if_icmp .ge 14, 3) := by decide +kernel
theorem d_Mod_typesAll_55 : decode prog_12_method_47_code 55 = .ok (.aload_n 0, 1) := by decide +kernel
theorem d_Mod_typesAll_56 : decode prog_12_method_47_code 56 = .ok (.iload_n 2, 1) := by decide +kernel
theorem d_Mod_typesAll_57 : decode prog_12_method_47_code 57 = .ok (.invokevirtual 267, 3) := by decide +kernel
theorem d_Mod_typesAll_60 : decode prog_12_method_47_code 60 = .ok (.iinc 2 1, 3) := by decide +kernel
theorem d_Mod_typesAll_63 : decode prog_12_method_47_code 63 = .ok (.goto (-16), 3) := by decide +kernel
theorem d_Mod_typesAll_66 : decode prog_12_method_47_code 66 = .ok (.iconst 0, 1) := by decide +kernel
theorem d_Mod_typesAll_67 : decode prog_12_method_47_code 67 = .ok (.istore_n 2, 1) := by decide +kernel
theorem d_Mod_typesAll_68 : decode prog_12_method_47_code 68 = .ok (.iload_n 2, 1) := by decide +kernel
theorem d_Mod_typesAll_69 : decode prog_12_method_47_code 69 = .ok (.aload_n 0, 1) := by decide +kernel
theorem d_Mod_typesAll_70 : decode prog_12_method_47_code 70 = .ok (.invokevirtual 270, 3) := by decide +kernel
theorem d_Mod_typesAll_73 : decode prog_12_method_47_code 73 = .ok (.if_icmp .ge 20, 3) := by decide +kernel
theorem d_Mod_typesAll_76 : decode prog_12_method_47_code 76 = .ok (.aload_n 0, 1) := by decide +kernel
theorem d_Mod_typesAll_77 : decode prog_12_method_47_code 77 = .ok (.getfield 273, 3) := by decide +kernel
theorem d_Mod_typesAll_80 : decode prog_12_method_47_code 80 = .ok (.iload_n 2, 1) := by decide +kernel
theorem d_Mod_typesAll_81 : decode prog_12_method_47_code 81 = .ok (.aload_n 0, 1) := by decide +kernel
theorem d_Mod_typesAll_82 : decode prog_12_method_47_code 82 = .ok (.iload_n 2, 1) := by decide +kernel
theorem d_Mod_typesAll_83 : decode prog_12_method_47_code 83 = .ok (.invokevirtual 276, 3) := by decide +kernel
theorem d_Mod_typesAll_86 : decode prog_12_method_47_code 86 = .ok (.iastore, 1) := by decide +kernel
theorem d_Mod_typesAll_87 : decode prog_12_method_47_code 87 = .ok (.iinc 2 1, 3) := by decide +kernel
theorem d_Mod_typesAll_90 : decode prog_12_method_47_code 90 = .ok (.goto (-22), 3) := by decide +kernel
theorem d_Mod_typesAll_93 : decode prog_12_method_47_code 93 = .ok (.iconst 0, 1) := by decide +kernel
theorem d_Mod_typesAll_94 : decode prog_12_method_47_code 94 = .ok (.istore_n 2, 1) := by decide +kernel
theorem d_Mod_typesAll_95 : decode prog_12_method_47_code 95 = .ok (.iload_n 2, 1) := by decide +kernel
theorem d_Mod_typesAll_96 : decode prog_12_method_47_code 96 = .ok (.aload_n 0, 1) := by decide +kernel
theorem d_Mod_typesAll_97 : decode prog_12_method_47_code 97 = .ok (.getfield 91, 3) := by decide +kernel
theorem d_Mod_typesAll_100 : decode prog_12_method_47_code 100 = .ok (.if_icmp .ge 15, 3) := by decide +kernel
theorem d_Mod_typesAll_103 : decode prog_12_method_47_code 103 = .ok (.aload_n 0, 1) := by decide +kernel
theorem d_Mod_typesAll_104 : decode prog_12_method_47_code 104 = .ok (.iload_n 2, 1) := by decide +kernel
theorem d_Mod_typesAll_105 : decode prog_12_method_47_code 105 = .ok (.iload_n 1, 1) := by decide +kernel
theorem d_Mod_typesAll_106 : decode prog_12_method_47_code 106 = .ok (.invokevirtual 279, 3) := by decide +kernel
theorem d_Mod_typesAll_109 : decode prog_12_method_47_code 109 = .ok (.iinc 2 1, 3) := by decide +kernel
theorem d_Mod_typesAll_112 : decode prog_12_method_47_code 112 = .ok (.goto (-17), 3) := by decide +kernel
theorem d_Mod_typesAll_115 : decode prog_12_method_47_code 115 = .ok (.iconst 0, 1) := by decide +kernel
theorem d_Mod_typesAll_116 : decode prog_12_method_47_code 116 = .ok (.istore_n 2, 1) := by decide +kernel
theorem d_Mod_typesAll_117 : decode prog_12_method_47_code 117 = .ok (.iload_n 2, 1) := by decide +kernel
theorem d_Mod_typesAll_118 : decode prog_12_method_47_code 118 = .ok (.aload_n 0, 1) := by decide +kernel
theorem d_Mod_typesAll_119 : decode prog_12_method_47_code 119 = .ok (.getfield 236, 3) := by decide +kernel
theorem d_Mod_typesAll_122 : decode prog_12_method_47_code 122 = .ok (.if_icmp .ge 16, 3) := by decide +kernel
theorem d_Mod_typesAll_125 : decode prog_12_method_47_code 125 = .ok (.aload_n 0, 1) := by decide +kernel
theorem d_Mod_typesAll_126 : decode prog_12_method_47_code 126 = .ok (.getfield 282, 3) := by decide +kernel
theorem d_Mod_typesAll_129 : decode prog_12_method_47_code 129 = .ok (.iload_n 2, 1) := by decide +kernel
theorem d_Mod_typesAll_130 : decode prog_12_method_47_code 130 = .ok (.iconst 0, 1) := by decide +kernel
theorem d_Mod_typesAll_131 : decode prog_12_method_47_code 131 = .ok (.iastore, 1) := by decide +kernel
theorem d_Mod_typesAll_132 : decode prog_12_method_47_code 132 = .ok (.iinc 2 1, 3) := by decide +kernel
theorem d_Mod_typesAll_135 : decode prog_12_method_47_code 135 = .ok (.goto (-18), 3) := by decide +kernel
theorem d_Mod_typesAll_138 : decode prog_12_method_47_code 138 = .ok (.iconst 0, 1) := by decide +kernel
theorem d_Mod_typesAll_139 : decode prog_12_method_47_code 139 = .ok (.istore_n 2, 1) := by decide +kernel
theorem d_Mod_typesAll_140 : decode prog_12_method_47_code 140 = .ok (.iload_n 2, 1) := by decide +kernel
theorem d_Mod_typesAll_141 : decode prog_12_method_47_code 141 = .ok (.aload_n 0, 1) := by decide +kernel
theorem d_Mod_typesAll_142 : decode prog_12_method_47_code 142 = .ok (.getfield 236, 3) := by decide +kernel
theorem d_Mod_typesAll_145 : decode prog_12_method_47_code 145 = .ok (.if_icmp .ge 29, 3) := by decide +kernel
theorem d_Mod_typesAll_148 : decode prog_12_method_47_code 148 = .ok (.aload_n 0, 1) := by decide +kernel
theorem d_Mod_typesAll_149 : decode prog_12_method_47_code 149 = .ok (.getfield 251, 3) := by decide +kernel
theorem d_Mod_typesAll_152 : decode prog_12_method_47_code 152 = .ok (.ifCond .eq 22, 3) := by decide +kernel
theorem d_Mod_typesAll_155 : decode prog_12_method_47_code 155 = .ok (.aload_n 0, 1) := by decide +kernel
theorem d_Mod_typesAll_156 : decode prog_12_method_47_code 156 = .ok (.aload_n 0, 1) := by decide +kernel
theorem d_Mod_typesAll_157 : decode prog_12_method_47_code 157 = .ok (.aload_n 0, 1) := by decide +kernel
theorem d_Mod_typesAll_158 : decode prog_12_method_47_code 158 = .ok (.iload_n 2, 1) := by decide +kernel
theorem d_Mod_typesAll_159 : decode prog_12_method_47_code 159 = .ok (.invokevirtual 248, 3) := by decide +kernel
theorem d_Mod_typesAll_162 : decode prog_12_method_47_code 162 = .ok (.invokevirtual 285, 3) := by decide +kernel
theorem d_Mod_typesAll_165 : decode prog_12_method_47_code 165 = .ok (.putfield 251, 3) := by decide +kernel
theorem d_Mod_typesAll_168 : decode prog_12_method_47_code 168 = .ok (.iinc 2 1, 3) := by decide +kernel
theorem d_Mod_typesAll_171 : decode prog_12_method_47_code 171 = .ok (.goto (-31), 3) := by decide +kernel
theorem d_Mod_typesAll_174 : decode prog_12_method_47_code 174 = .ok (.return_, 1) := by decide +kernel
def fm_Mod_typesAll_l140  : Nat → Int → fa_W → Option fa_W
  | 0, _, _ => none
  | n + 1, x2, w => if fa_wr (w 181 43) ≤ fa_wr x2 then
  some w
  else
  (if decide (w 181 44 ≠ 0) = true then
  ((fm_Mod_find x2 w).bind fun v15 =>
  fa_bd (fm_Mod_isBounded 900 v15 w) fun v17 w18 =>
  fa_let (fa_st w18 181 44 (fa_bi v17)) fun w19 =>
  fa_let (x2 + 1) fun x2_20 =>
  fm_Mod_typesAll_l140 n x2_20 w19)
  else
  some w)
set_option maxHeartbeats 4000000 in
set_option maxRecDepth 100000 in
theorem c_Mod_typesAll_l140 {p : Program} {l : Launch} {e : Env} {s : State} {m : MethodId} {args : Array Value} {below : List Frame} {meth : Method} {c : Code} {hh : Nat} {D : va_G} {b : Nat} {aC : Nat → ClassId} {H0 : Heap} {N T : Nat} (X : fa_GX p s m args meth c prog_12_method_47_code 3 ((Option.none : Option Jvm.ClassFile.FieldType)) y_Mod_typesAll.cls D b aC) (hle : 903 ≤ hh) (hN : fa_NM ≤ N) (hT : fa_TM ≤ T) {r : fa_W}  : ∀ (n : Nat) (x2 : Int) (w : fa_W), fm_Mod_typesAll_l140 n x2 w = some r → fa_GJ p l e (fa_rm hh) s m args below meth c 0 0 (MQ below (fa_Qc D b aC H0 N T (none) r) args s 0 0 (fun q => b ≤ q)) D b aC H0 N T 3 w 140 [(0, .ref (b + 181)), (2, .int (fa_I x2))] [] := by
  intro n
  induction n with
  | zero => intro x2 w hM; exact fa_no hM
  | succ n ih =>
    intro x2 w hM
    rw [fm_Mod_typesAll_l140] at hM
    refine g_iload_n X 1 rfl d_Mod_typesAll_140 ?_
    refine g_aload_n X 0 rfl d_Mod_typesAll_141 ?_
    refine g_get X ck_10 fo_181 (fn_181 hN) 43 (by decide) wd_1784 rfl (fa_fvI rfl) d_Mod_typesAll_142 ?_
    refine g_icmp_ge X 174 d_Mod_typesAll_145 (by decide) (fun hc12 => ?_) (fun hc12 => ?_)
    · have hM := fa_if_t hM hc12
      cases hM
      exact g_vret X d_Mod_typesAll_174
    · have hM := fa_if_f hM hc12
      refine g_aload_n X 0 rfl d_Mod_typesAll_148 ?_
      refine g_get X ck_10 fo_181 (fn_181 hN) 44 (by decide) wd_1785 rfl (fa_fvB rfl) d_Mod_typesAll_149 ?_
      refine g_ifb_eq X 174 d_Mod_typesAll_152 (by decide) (fun hc13 => ?_) (fun hc13 => ?_)
      · have hM := fa_ifb_f hM hc13
        cases hM
        exact g_vret X d_Mod_typesAll_174
      · have hM := fa_ifb_t hM hc13
        refine g_aload_n X 0 rfl d_Mod_typesAll_155 ?_
        refine g_aload_n X 0 rfl d_Mod_typesAll_156 ?_
        refine g_aload_n X 0 rfl d_Mod_typesAll_157 ?_
        refine g_iload_n X 1 rfl d_Mod_typesAll_158 ?_
        obtain ⟨v15, e14, hM⟩ := fa_ob hM
        refine g_callV_i X ck_10 fo_181 (fn_181 hN) rfl mi_Mod_find (c_Mod_find hN hT x2 w _ e14) wd_1660 rfl (Nat.le_trans (Nat.le_of_ble_eq_true rfl) hle) (st := [.ref (b + 181), .ref (b + 181)]) (Nat.le_of_ble_eq_true rfl) rfl d_Mod_typesAll_159 ?_
        obtain ⟨v17, w18, e16, hM⟩ := fa_obd hM
        refine g_callV_i X ck_10 fo_181 (fn_181 hN) rfl mi_Mod_isBounded (c_Mod_isBounded hN hT 900 v15 w _ e16) wd_1664 rfl (Nat.le_trans (Nat.le_of_ble_eq_true rfl) hle) (st := [.ref (b + 181)]) (Nat.le_of_ble_eq_true rfl) rfl d_Mod_typesAll_162 ?_
        refine g_put X ck_10 fo_181 (fn_181 hN) 44 (z := (fa_bi v17)) (by decide) wd_1785 rfl (fa_fvB' rfl) rfl (fa_nb v17).1 (fa_nb v17).2 d_Mod_typesAll_165 (fun w19 ew19 => ?_)
        have hM := fa_let_to hM ew19
        refine g_iinc X 1 (fun x2_20 => [(2, .int (fa_I x2_20)), (0, .ref (b + 181))]) d_Mod_typesAll_168 rfl (by decide) (fun _ => rfl) (fun x2_20 ex2_20 => ?_)
        have hM := fa_let_to hM ex2_20
        refine g_goto X 140 d_Mod_typesAll_171 (by decide) ?_
        exact g_lv [1, 0] rfl (ih _ _ hM)
def fm_Mod_typesAll_l117  : Nat → Int → fa_W → Option fa_W
  | 0, _, _ => none
  | n + 1, x2, w => if fa_wr (w 181 43) ≤ fa_wr x2 then
  fm_Mod_typesAll_l140 fa_FU 0 w
  else
  ((fa_ix x2 1200).bind fun j21 =>
  fa_let (fa_st w 205 j21 0) fun w22 =>
  fa_let (x2 + 1) fun x2_23 =>
  fm_Mod_typesAll_l117 n x2_23 w22)
set_option maxHeartbeats 4000000 in
set_option maxRecDepth 100000 in
theorem c_Mod_typesAll_l117 {p : Program} {l : Launch} {e : Env} {s : State} {m : MethodId} {args : Array Value} {below : List Frame} {meth : Method} {c : Code} {hh : Nat} {D : va_G} {b : Nat} {aC : Nat → ClassId} {H0 : Heap} {N T : Nat} (X : fa_GX p s m args meth c prog_12_method_47_code 3 ((Option.none : Option Jvm.ClassFile.FieldType)) y_Mod_typesAll.cls D b aC) (hle : 903 ≤ hh) (hN : fa_NM ≤ N) (hT : fa_TM ≤ T) {r : fa_W}  : ∀ (n : Nat) (x2 : Int) (w : fa_W), fm_Mod_typesAll_l117 n x2 w = some r → fa_GJ p l e (fa_rm hh) s m args below meth c 0 0 (MQ below (fa_Qc D b aC H0 N T (none) r) args s 0 0 (fun q => b ≤ q)) D b aC H0 N T 3 w 117 [(0, .ref (b + 181)), (2, .int (fa_I x2))] [] := by
  intro n
  induction n with
  | zero => intro x2 w hM; exact fa_no hM
  | succ n ih =>
    intro x2 w hM
    rw [fm_Mod_typesAll_l117] at hM
    refine g_iload_n X 1 rfl d_Mod_typesAll_117 ?_
    refine g_aload_n X 0 rfl d_Mod_typesAll_118 ?_
    refine g_get X ck_10 fo_181 (fn_181 hN) 43 (by decide) wd_1784 rfl (fa_fvI rfl) d_Mod_typesAll_119 ?_
    refine g_icmp_ge X 138 d_Mod_typesAll_122 (by decide) (fun hc11 => ?_) (fun hc11 => ?_)
    · have hM := fa_if_t hM hc11
      refine g_iconst X d_Mod_typesAll_138 ?_
      refine g_istorec_n X [(2, .int (fa_I 0)), (0, .ref (b + 181))] d_Mod_typesAll_139 (by decide) rfl ?_
      exact g_lv [1, 0] rfl (c_Mod_typesAll_l140 X hle hN hT   fa_FU _ _ hM)
    · have hM := fa_if_f hM hc11
      refine g_aload_n X 0 rfl d_Mod_typesAll_125 ?_
      refine g_get X ck_10 fo_181 (fn_181 hN) 42 (by decide) wd_1783 rfl (fr_181_42 rfl hT) d_Mod_typesAll_126 ?_
      refine g_iload_n X 1 rfl d_Mod_typesAll_129 ?_
      refine g_iconst X d_Mod_typesAll_130 ?_
      obtain ⟨j21, ej21, hM⟩ := fa_ob hM
      refine g_iast X fs_205 (fn_205 hN) ej21 d_Mod_typesAll_131 (fun w22 ew22 => ?_)
      have hM := fa_let_to hM ew22
      refine g_iinc X 1 (fun x2_23 => [(2, .int (fa_I x2_23)), (0, .ref (b + 181))]) d_Mod_typesAll_132 rfl (by decide) (fun _ => rfl) (fun x2_23 ex2_23 => ?_)
      have hM := fa_let_to hM ex2_23
      refine g_goto X 117 d_Mod_typesAll_135 (by decide) ?_
      exact g_lv [1, 0] rfl (ih _ _ hM)
def fm_Mod_typesAll_l95  : Nat → Int → Int → fa_W → Option fa_W
  | 0, _, _, _ => none
  | n + 1, x1, x2, w => if fa_wr (w 181 16) ≤ fa_wr x2 then
  fm_Mod_typesAll_l117 fa_FU 0 w
  else
  ((fm_Mod_typesOne x2 x1 w).bind fun w25 =>
  fa_let (x2 + 1) fun x2_26 =>
  fm_Mod_typesAll_l95 n x1 x2_26 w25)
set_option maxHeartbeats 4000000 in
set_option maxRecDepth 100000 in
theorem c_Mod_typesAll_l95 {p : Program} {l : Launch} {e : Env} {s : State} {m : MethodId} {args : Array Value} {below : List Frame} {meth : Method} {c : Code} {hh : Nat} {D : va_G} {b : Nat} {aC : Nat → ClassId} {H0 : Heap} {N T : Nat} (X : fa_GX p s m args meth c prog_12_method_47_code 3 ((Option.none : Option Jvm.ClassFile.FieldType)) y_Mod_typesAll.cls D b aC) (hle : 903 ≤ hh) (hN : fa_NM ≤ N) (hT : fa_TM ≤ T) {r : fa_W}  : ∀ (n : Nat) (x1 : Int) (x2 : Int) (w : fa_W), fm_Mod_typesAll_l95 n x1 x2 w = some r → fa_GJ p l e (fa_rm hh) s m args below meth c 0 0 (MQ below (fa_Qc D b aC H0 N T (none) r) args s 0 0 (fun q => b ≤ q)) D b aC H0 N T 3 w 95 [(0, .ref (b + 181)), (1, .int (fa_I x1)), (2, .int (fa_I x2))] [] := by
  intro n
  induction n with
  | zero => intro x1 x2 w hM; exact fa_no hM
  | succ n ih =>
    intro x1 x2 w hM
    rw [fm_Mod_typesAll_l95] at hM
    refine g_iload_n X 2 rfl d_Mod_typesAll_95 ?_
    refine g_aload_n X 0 rfl d_Mod_typesAll_96 ?_
    refine g_get X ck_10 fo_181 (fn_181 hN) 16 (by decide) wd_1758 rfl (fa_fvI rfl) d_Mod_typesAll_97 ?_
    refine g_icmp_ge X 115 d_Mod_typesAll_100 (by decide) (fun hc10 => ?_) (fun hc10 => ?_)
    · have hM := fa_if_t hM hc10
      refine g_iconst X d_Mod_typesAll_115 ?_
      refine g_istorec_n X [(2, .int (fa_I 0)), (0, .ref (b + 181)), (1, .int (fa_I x1))] d_Mod_typesAll_116 (by decide) rfl ?_
      exact g_lv [1, 0] rfl (c_Mod_typesAll_l117 X hle hN hT   fa_FU _ _ hM)
    · have hM := fa_if_f hM hc10
      refine g_aload_n X 0 rfl d_Mod_typesAll_103 ?_
      refine g_iload_n X 2 rfl d_Mod_typesAll_104 ?_
      refine g_iload_n X 1 rfl d_Mod_typesAll_105 ?_
      obtain ⟨w25, e24, hM⟩ := fa_ob hM
      refine g_callV_v X ck_10 fo_181 (fn_181 hN) rfl mi_Mod_typesOne (c_Mod_typesOne hN hT x2 x1 w _ e24) wd_1652 rfl (Nat.le_trans (Nat.le_of_ble_eq_true rfl) hle) (st := []) (Nat.le_of_ble_eq_true rfl) rfl d_Mod_typesAll_106 ?_
      refine g_iinc X 2 (fun x2_26 => [(2, .int (fa_I x2_26)), (0, .ref (b + 181)), (1, .int (fa_I x1))]) d_Mod_typesAll_109 rfl (by decide) (fun _ => rfl) (fun x2_26 ex2_26 => ?_)
      have hM := fa_let_to hM ex2_26
      refine g_goto X 95 d_Mod_typesAll_112 (by decide) ?_
      exact g_lv [1, 2, 0] rfl (ih _ _ _ hM)
def fm_Mod_typesAll_l68  : Nat → Int → Int → fa_W → Option fa_W
  | 0, _, _, _ => none
  | n + 1, x1, x2, w => if fa_wr (fm_Mod_functions w) ≤ fa_wr x2 then
  fm_Mod_typesAll_l95 fa_FU x1 0 w
  else
  (fa_bd (fm_Mod_functionType x2 w) fun v28 w29 =>
  (fa_ix x2 24).bind fun j30 =>
  fa_let (fa_st w29 206 j30 v28) fun w31 =>
  fa_let (x2 + 1) fun x2_32 =>
  fm_Mod_typesAll_l68 n x1 x2_32 w31)
set_option maxHeartbeats 4000000 in
set_option maxRecDepth 100000 in
theorem c_Mod_typesAll_l68 {p : Program} {l : Launch} {e : Env} {s : State} {m : MethodId} {args : Array Value} {below : List Frame} {meth : Method} {c : Code} {hh : Nat} {D : va_G} {b : Nat} {aC : Nat → ClassId} {H0 : Heap} {N T : Nat} (X : fa_GX p s m args meth c prog_12_method_47_code 3 ((Option.none : Option Jvm.ClassFile.FieldType)) y_Mod_typesAll.cls D b aC) (hle : 903 ≤ hh) (hN : fa_NM ≤ N) (hT : fa_TM ≤ T) {r : fa_W}  : ∀ (n : Nat) (x1 : Int) (x2 : Int) (w : fa_W), fm_Mod_typesAll_l68 n x1 x2 w = some r → fa_GJ p l e (fa_rm hh) s m args below meth c 0 0 (MQ below (fa_Qc D b aC H0 N T (none) r) args s 0 0 (fun q => b ≤ q)) D b aC H0 N T 3 w 68 [(0, .ref (b + 181)), (1, .int (fa_I x1)), (2, .int (fa_I x2))] [] := by
  intro n
  induction n with
  | zero => intro x1 x2 w hM; exact fa_no hM
  | succ n ih =>
    intro x1 x2 w hM
    rw [fm_Mod_typesAll_l68] at hM
    refine g_iload_n X 2 rfl d_Mod_typesAll_68 ?_
    refine g_aload_n X 0 rfl d_Mod_typesAll_69 ?_
    refine g_callV_i X ck_10 fo_181 (fn_181 hN) rfl mi_Mod_functions (c_Mod_functions hN hT w _ rfl) wd_1644 rfl (Nat.le_trans (Nat.le_of_ble_eq_true rfl) hle) (st := [.int (fa_I x2)]) (Nat.le_of_ble_eq_true rfl) rfl d_Mod_typesAll_70 ?_
    refine g_icmp_ge X 93 d_Mod_typesAll_73 (by decide) (fun hc9 => ?_) (fun hc9 => ?_)
    · have hM := fa_if_t hM hc9
      refine g_iconst X d_Mod_typesAll_93 ?_
      refine g_istorec_n X [(2, .int (fa_I 0)), (0, .ref (b + 181)), (1, .int (fa_I x1))] d_Mod_typesAll_94 (by decide) rfl ?_
      exact g_lv [1, 2, 0] rfl (c_Mod_typesAll_l95 X hle hN hT   fa_FU _ _ _ hM)
    · have hM := fa_if_f hM hc9
      refine g_aload_n X 0 rfl d_Mod_typesAll_76 ?_
      refine g_get X ck_10 fo_181 (fn_181 hN) 45 (by decide) wd_1786 rfl (fr_181_45 rfl hT) d_Mod_typesAll_77 ?_
      refine g_iload_n X 2 rfl d_Mod_typesAll_80 ?_
      refine g_aload_n X 0 rfl d_Mod_typesAll_81 ?_
      refine g_iload_n X 2 rfl d_Mod_typesAll_82 ?_
      obtain ⟨v28, w29, e27, hM⟩ := fa_obd hM
      refine g_callV_i X ck_10 fo_181 (fn_181 hN) rfl mi_Mod_functionType (c_Mod_functionType hN hT x2 w _ e27) wd_1648 rfl (Nat.le_trans (Nat.le_of_ble_eq_true rfl) hle) (st := [.int (fa_I x2), .ref (b + 206)]) (Nat.le_of_ble_eq_true rfl) rfl d_Mod_typesAll_83 ?_
      obtain ⟨j30, ej30, hM⟩ := fa_ob hM
      refine g_iast X fs_206 (fn_206 hN) ej30 d_Mod_typesAll_86 (fun w31 ew31 => ?_)
      have hM := fa_let_to hM ew31
      refine g_iinc X 2 (fun x2_32 => [(2, .int (fa_I x2_32)), (0, .ref (b + 181)), (1, .int (fa_I x1))]) d_Mod_typesAll_87 rfl (by decide) (fun _ => rfl) (fun x2_32 ex2_32 => ?_)
      have hM := fa_let_to hM ex2_32
      refine g_goto X 68 d_Mod_typesAll_90 (by decide) ?_
      exact g_lv [1, 2, 0] rfl (ih _ _ _ hM)
def fm_Mod_typesAll_l47  : Nat → Int → Int → fa_W → Option fa_W
  | 0, _, _, _ => none
  | n + 1, x1, x2, w => if fa_wr (w 181 16) ≤ fa_wr x2 then
  fm_Mod_typesAll_l68 fa_FU x1 0 w
  else
  ((fm_Mod_typesNode x2 w).bind fun w34 =>
  fa_let (x2 + 1) fun x2_35 =>
  fm_Mod_typesAll_l47 n x1 x2_35 w34)
set_option maxHeartbeats 4000000 in
set_option maxRecDepth 100000 in
theorem c_Mod_typesAll_l47 {p : Program} {l : Launch} {e : Env} {s : State} {m : MethodId} {args : Array Value} {below : List Frame} {meth : Method} {c : Code} {hh : Nat} {D : va_G} {b : Nat} {aC : Nat → ClassId} {H0 : Heap} {N T : Nat} (X : fa_GX p s m args meth c prog_12_method_47_code 3 ((Option.none : Option Jvm.ClassFile.FieldType)) y_Mod_typesAll.cls D b aC) (hle : 903 ≤ hh) (hN : fa_NM ≤ N) (hT : fa_TM ≤ T) {r : fa_W}  : ∀ (n : Nat) (x1 : Int) (x2 : Int) (w : fa_W), fm_Mod_typesAll_l47 n x1 x2 w = some r → fa_GJ p l e (fa_rm hh) s m args below meth c 0 0 (MQ below (fa_Qc D b aC H0 N T (none) r) args s 0 0 (fun q => b ≤ q)) D b aC H0 N T 3 w 47 [(0, .ref (b + 181)), (1, .int (fa_I x1)), (2, .int (fa_I x2))] [] := by
  intro n
  induction n with
  | zero => intro x1 x2 w hM; exact fa_no hM
  | succ n ih =>
    intro x1 x2 w hM
    rw [fm_Mod_typesAll_l47] at hM
    refine g_iload_n X 2 rfl d_Mod_typesAll_47 ?_
    refine g_aload_n X 0 rfl d_Mod_typesAll_48 ?_
    refine g_get X ck_10 fo_181 (fn_181 hN) 16 (by decide) wd_1758 rfl (fa_fvI rfl) d_Mod_typesAll_49 ?_
    refine g_icmp_ge X 66 d_Mod_typesAll_52 (by decide) (fun hc7 => ?_) (fun hc7 => ?_)
    · have hM := fa_if_t hM hc7
      refine g_iconst X d_Mod_typesAll_66 ?_
      refine g_istorec_n X [(2, .int (fa_I 0)), (0, .ref (b + 181)), (1, .int (fa_I x1))] d_Mod_typesAll_67 (by decide) rfl ?_
      exact g_lv [1, 2, 0] rfl (c_Mod_typesAll_l68 X hle hN hT   fa_FU _ _ _ hM)
    · have hM := fa_if_f hM hc7
      refine g_aload_n X 0 rfl d_Mod_typesAll_55 ?_
      refine g_iload_n X 2 rfl d_Mod_typesAll_56 ?_
      obtain ⟨w34, e33, hM⟩ := fa_ob hM
      refine g_callV_v X ck_10 fo_181 (fn_181 hN) rfl mi_Mod_typesNode (c_Mod_typesNode hN hT x2 w _ e33) wd_1640 rfl (Nat.le_trans (Nat.le_of_ble_eq_true rfl) hle) (st := []) (Nat.le_of_ble_eq_true rfl) rfl d_Mod_typesAll_57 ?_
      refine g_iinc X 2 (fun x2_35 => [(2, .int (fa_I x2_35)), (0, .ref (b + 181)), (1, .int (fa_I x1))]) d_Mod_typesAll_60 rfl (by decide) (fun _ => rfl) (fun x2_35 ex2_35 => ?_)
      have hM := fa_let_to hM ex2_35
      refine g_goto X 47 d_Mod_typesAll_63 (by decide) ?_
      exact g_lv [1, 2, 0] rfl (ih _ _ _ hM)
def fm_Mod_typesAll_l20  : Nat → Int → Int → fa_W → Option fa_W
  | 0, _, _, _ => none
  | n + 1, x1, x2, w => if 124 ≤ fa_wr x2 then
  fm_Mod_typesAll_l47 fa_FU x1 0 w
  else
  (fa_bd (fm_Mod_type2 0 (-1) (-1) w) fun v37 w38 =>
  (fa_ix x2 124).bind fun j39 =>
  fa_let (fa_st w38 204 j39 v37) fun w40 =>
  fa_let (x2 + 1) fun x2_41 =>
  fm_Mod_typesAll_l20 n x1 x2_41 w40)
set_option maxHeartbeats 4000000 in
set_option maxRecDepth 100000 in
theorem c_Mod_typesAll_l20 {p : Program} {l : Launch} {e : Env} {s : State} {m : MethodId} {args : Array Value} {below : List Frame} {meth : Method} {c : Code} {hh : Nat} {D : va_G} {b : Nat} {aC : Nat → ClassId} {H0 : Heap} {N T : Nat} (X : fa_GX p s m args meth c prog_12_method_47_code 3 ((Option.none : Option Jvm.ClassFile.FieldType)) y_Mod_typesAll.cls D b aC) (hle : 903 ≤ hh) (hN : fa_NM ≤ N) (hT : fa_TM ≤ T) {r : fa_W}  : ∀ (n : Nat) (x1 : Int) (x2 : Int) (w : fa_W), fm_Mod_typesAll_l20 n x1 x2 w = some r → fa_GJ p l e (fa_rm hh) s m args below meth c 0 0 (MQ below (fa_Qc D b aC H0 N T (none) r) args s 0 0 (fun q => b ≤ q)) D b aC H0 N T 3 w 20 [(0, .ref (b + 181)), (1, .int (fa_I x1)), (2, .int (fa_I x2))] [] := by
  intro n
  induction n with
  | zero => intro x1 x2 w hM; exact fa_no hM
  | succ n ih =>
    intro x1 x2 w hM
    rw [fm_Mod_typesAll_l20] at hM
    refine g_iload_n X 2 rfl d_Mod_typesAll_20 ?_
    refine g_bipush X (by decide) d_Mod_typesAll_21 ?_
    refine g_icmp_ge X 45 d_Mod_typesAll_23 (by decide) (fun hc6 => ?_) (fun hc6 => ?_)
    · have hM := fa_if_t hM hc6
      refine g_iconst X d_Mod_typesAll_45 ?_
      refine g_istorec_n X [(2, .int (fa_I 0)), (0, .ref (b + 181)), (1, .int (fa_I x1))] d_Mod_typesAll_46 (by decide) rfl ?_
      exact g_lv [1, 2, 0] rfl (c_Mod_typesAll_l47 X hle hN hT   fa_FU _ _ _ hM)
    · have hM := fa_if_f hM hc6
      refine g_aload_n X 0 rfl d_Mod_typesAll_26 ?_
      refine g_get X ck_10 fo_181 (fn_181 hN) 41 (by decide) wd_1782 rfl (fr_181_41 rfl hT) d_Mod_typesAll_27 ?_
      refine g_iload_n X 2 rfl d_Mod_typesAll_30 ?_
      refine g_aload_n X 0 rfl d_Mod_typesAll_31 ?_
      refine g_iconst X d_Mod_typesAll_32 ?_
      refine g_iconst X d_Mod_typesAll_33 ?_
      refine g_iconst X d_Mod_typesAll_34 ?_
      obtain ⟨v37, w38, e36, hM⟩ := fa_obd hM
      refine g_callV_i X ck_10 fo_181 (fn_181 hN) rfl mi_Mod_type2 (c_Mod_type2 hN hT 0 (-1) (-1) w _ e36) wd_1636 rfl (Nat.le_trans (Nat.le_of_ble_eq_true rfl) hle) (st := [.int (fa_I x2), .ref (b + 204)]) (Nat.le_of_ble_eq_true rfl) rfl d_Mod_typesAll_35 ?_
      obtain ⟨j39, ej39, hM⟩ := fa_ob hM
      refine g_iast X fs_204 (fn_204 hN) ej39 d_Mod_typesAll_38 (fun w40 ew40 => ?_)
      have hM := fa_let_to hM ew40
      refine g_iinc X 2 (fun x2_41 => [(2, .int (fa_I x2_41)), (0, .ref (b + 181)), (1, .int (fa_I x1))]) d_Mod_typesAll_39 rfl (by decide) (fun _ => rfl) (fun x2_41 ex2_41 => ?_)
      have hM := fa_let_to hM ex2_41
      refine g_goto X 20 d_Mod_typesAll_42 (by decide) ?_
      exact g_lv [1, 2, 0] rfl (ih _ _ _ hM)
def fm_Mod_typesAll (w : fa_W) : Option fa_W :=
  fa_let (fa_st w 181 43 0) fun w1 =>
  fa_let (fa_st w1 181 44 (fa_bi true)) fun w2 =>
  fa_bd (fm_Mod_type2 1 (-1) (-1) w2) fun v4 w5 =>
  fm_Mod_typesAll_l20 fa_FU v4 0 w5
set_option maxHeartbeats 4000000 in
set_option maxRecDepth 100000 in
theorem c_Mod_typesAll {l : Launch} {D : va_G} {b : Nat} {aC : Nat → ClassId} {H0 : Heap} {N T : Nat} (hN : fa_NM ≤ N) (hT : fa_TM ≤ T)   (w : fa_W) (r : fa_W) (hM : fm_Mod_typesAll w = some r) : fa_MC l D b aC H0 N T y_Mod_typesAll prog_12_method_47_code 3 ((Option.none : Option Jvm.ClassFile.FieldType)) (903) [.ref (b + 181)] w (none) r := by
  refine fa_enter (lv := [(0, .ref (b + 181))]) (by decide +kernel) (Nat.le_of_ble_eq_true rfl) rfl (fun hh hle hnm X => ?_)
  unfold fm_Mod_typesAll at hM
  refine g_aload_n X 0 rfl d_Mod_typesAll_0 ?_
  refine g_iconst X d_Mod_typesAll_1 ?_
  refine g_put X ck_10 fo_181 (fn_181 hN) 43 (z := 0) (by decide) wd_1784 rfl (fa_fvI' rfl) rfl rfl rfl d_Mod_typesAll_2 (fun w1 ew1 => ?_)
  have hM := fa_let_to hM ew1
  refine g_aload_n X 0 rfl d_Mod_typesAll_5 ?_
  refine g_iconst X d_Mod_typesAll_6 ?_
  refine g_put X ck_10 fo_181 (fn_181 hN) 44 (z := (fa_bi true)) (by decide) wd_1785 rfl (fa_fvB' rfl) rfl (fa_nb true).1 (fa_nb true).2 d_Mod_typesAll_7 (fun w2 ew2 => ?_)
  have hM := fa_let_to hM ew2
  refine g_aload_n X 0 rfl d_Mod_typesAll_10 ?_
  refine g_iconst X d_Mod_typesAll_11 ?_
  refine g_iconst X d_Mod_typesAll_12 ?_
  refine g_iconst X d_Mod_typesAll_13 ?_
  obtain ⟨v4, w5, e3, hM⟩ := fa_obd hM
  refine g_callV_i X ck_10 fo_181 (fn_181 hN) rfl mi_Mod_type2 (c_Mod_type2 hN hT 1 (-1) (-1) w2 _ e3) wd_1636 rfl (Nat.le_trans (Nat.le_of_ble_eq_true rfl) hle) (st := []) (Nat.le_of_ble_eq_true rfl) rfl d_Mod_typesAll_14 ?_
  refine g_istorec_n X [(1, .int (fa_I v4)), (0, .ref (b + 181))] d_Mod_typesAll_17 (by decide) rfl ?_
  refine g_iconst X d_Mod_typesAll_18 ?_
  refine g_istorec_n X [(2, .int (fa_I 0)), (1, .int (fa_I v4)), (0, .ref (b + 181))] d_Mod_typesAll_19 (by decide) rfl ?_
  exact g_lv [2, 1, 0] rfl (c_Mod_typesAll_l20 X hle hN hT   fa_FU _ _ _ hM)
theorem d_Mod_areOne_0 : decode prog_12_method_50_code 0 = .ok (.aload_n 0, 1) := by decide +kernel
theorem d_Mod_areOne_1 : decode prog_12_method_50_code 1 = .ok (.iload_n 1, 1) := by decide +kernel
theorem d_Mod_areOne_2 : decode prog_12_method_50_code 2 = .ok (.invokevirtual 248, 3) := by decide +kernel
theorem d_Mod_areOne_5 : decode prog_12_method_50_code 5 = .ok (.istore_n 3, 1) := by decide +kernel
theorem d_Mod_areOne_6 : decode prog_12_method_50_code 6 = .ok (.aload_n 0, 1) := by decide +kernel
theorem d_Mod_areOne_7 : decode prog_12_method_50_code 7 = .ok (.iload_n 2, 1) := by decide +kernel
theorem d_Mod_areOne_8 : decode prog_12_method_50_code 8 = .ok (.invokevirtual 248, 3) := by decide +kernel
theorem d_Mod_areOne_11 : decode prog_12_method_50_code 11 = .ok (.istore 4, 2) := by decide +kernel
theorem d_Mod_areOne_13 : decode prog_12_method_50_code 13 = .ok (.iload_n 3, 1) := by decide +kernel
theorem d_Mod_areOne_14 : decode prog_12_method_50_code 14 = .ok (.iload 4, 2) := by decide +kernel
theorem d_Mod_areOne_16 : decode prog_12_method_50_code 16 = .ok (.if_icmp .ne 5, 3) := by decide +kernel
theorem d_Mod_areOne_19 : decode prog_12_method_50_code 19 = .ok (.iconst 1, 1) := by decide +kernel
theorem d_Mod_areOne_20 : decode prog_12_method_50_code 20 = .ok (.ireturn, 1) := by decide +kernel
theorem d_Mod_areOne_21 : decode prog_12_method_50_code 21 = .ok (.aload_n 0, 1) := by decide +kernel
theorem d_Mod_areOne_22 : decode prog_12_method_50_code 22 = .ok (.getfield 233, 3) := by decide +kernel
theorem d_Mod_areOne_25 : decode prog_12_method_50_code 25 = .ok (.iload_n 3, 1) := by decide +kernel
theorem d_Mod_areOne_26 : decode prog_12_method_50_code 26 = .ok (.iaload, 1) := by decide +kernel
theorem d_Mod_areOne_27 : decode prog_12_method_50_code 27 = .ok (.aload_n 0, 1) := by decide +kernel
theorem d_Mod_areOne_28 : decode prog_12_method_50_code 28 = .ok (.getfield 233, 3) := by decide +kernel
theorem d_Mod_areOne_31 : decode prog_12_method_50_code 31 = .ok (.iload 4, 2) := by decide +kernel
theorem d_Mod_areOne_33 : decode prog_12_method_50_code 33 = .ok (.iaload, 1) := by decide +kernel
theorem d_Mod_areOne_34 : decode prog_12_method_50_code 34 = .ok (.if_icmp .ne 66, 3) := by decide +kernel
theorem d_Mod_areOne_37 : decode prog_12_method_50_code 37 = .ok (.aload_n 0, 1) := by decide +kernel
theorem d_Mod_areOne_38 : decode prog_12_method_50_code 38 = .ok (.getfield 233, 3) := by decide +kernel
theorem d_Mod_areOne_41 : decode prog_12_method_50_code 41 = .ok (.iload_n 3, 1) := by decide +kernel
theorem d_Mod_areOne_42 : decode prog_12_method_50_code 42 = .ok (.iaload, 1) := by decide +kernel
theorem d_Mod_areOne_43 : decode prog_12_method_50_code 43 = .ok (.ifCond .eq 57, 3) := by decide +kernel
theorem d_Mod_areOne_46 : decode prog_12_method_50_code 46 = .ok (.aload_n 0, 1) := by decide +kernel
theorem d_Mod_areOne_47 : decode prog_12_method_50_code 47 = .ok (.getfield 233, 3) := by decide +kernel
theorem d_Mod_areOne_50 : decode prog_12_method_50_code 50 = .ok (.iload_n 3, 1) := by decide +kernel
theorem d_Mod_areOne_51 : decode prog_12_method_50_code 51 = .ok (.iaload, 1) := by decide +kernel
theorem d_Mod_areOne_52 : decode prog_12_method_50_code 52 = .ok (.iconst 1, 1) := by decide +kernel
theorem d_Mod_areOne_53 : decode prog_12_method_50_code 53 = .ok (.if_icmp .eq 43, 3) := by decide +kernel
theorem d_Mod_areOne_56 : decode prog_12_method_50_code 56 = .ok (.aload_n 0, 1) := by decide +kernel
theorem d_Mod_areOne_57 : decode prog_12_method_50_code 57 = .ok (.aload_n 0, 1) := by decide +kernel
theorem d_Mod_areOne_58 : decode prog_12_method_50_code 58 = .ok (.getfield 239, 3) := by decide +kernel
theorem d_Mod_areOne_61 : decode prog_12_method_50_code 61 = .ok (.iload_n 3, 1) := by decide +kernel
theorem d_Mod_areOne_62 : decode prog_12_method_50_code 62 = .ok (.iaload, 1) := by decide +kernel
theorem d_Mod_areOne_63 : decode prog_12_method_50_code 63 = .ok (.aload_n 0, 1) := by decide +kernel
theorem d_Mod_areOne_64 : decode prog_12_method_50_code 64 = .ok (.getfield 239, 3) := by decide +kernel
theorem d_Mod_areOne_67 : decode prog_12_method_50_code 67 = .ok (.iload 4, 2) := by decide +kernel
theorem d_Mod_areOne_69 : decode prog_12_method_50_code 69 = .ok (.iaload, 1) := by decide +kernel
theorem d_Mod_areOne_70 : decode prog_12_method_50_code 70 = .ok (.invokevirtual 288, 3) := by decide +kernel
theorem d_Mod_areOne_73 : decode prog_12_method_50_code 73 = .ok (.ifCond .eq 27, 3) := by decide +kernel
theorem d_Mod_areOne_76 : decode prog_12_method_50_code 76 = .ok (.aload_n 0, 1) := by decide +kernel
theorem d_Mod_areOne_77 : decode prog_12_method_50_code 77 = .ok (.aload_n 0, 1) := by decide +kernel
theorem d_Mod_areOne_78 : decode prog_12_method_50_code 78 = .ok (.getfield 242, 3) := by decide +kernel
theorem d_Mod_areOne_81 : decode prog_12_method_50_code 81 = .ok (.iload_n 3, 1) := by decide +kernel
theorem d_Mod_areOne_82 : decode prog_12_method_50_code 82 = .ok (.iaload, 1) := by decide +kernel
theorem d_Mod_areOne_83 : decode prog_12_method_50_code 83 = .ok (.aload_n 0, 1) := by decide +kernel
theorem d_Mod_areOne_84 : decode prog_12_method_50_code 84 = .ok (.getfield 242, 3) := by decide +kernel
theorem d_Mod_areOne_87 : decode prog_12_method_50_code 87 = .ok (.iload 4, 2) := by decide +kernel
theorem d_Mod_areOne_89 : decode prog_12_method_50_code 89 = .ok (.iaload, 1) := by decide +kernel
theorem d_Mod_areOne_90 : decode prog_12_method_50_code 90 = .ok (.invokevirtual 288, 3) := by decide +kernel
theorem d_Mod_areOne_93 : decode prog_12_method_50_code 93 = .ok (.ifCond .eq 7, 3) := by decide +kernel
theorem d_Mod_areOne_96 : decode prog_12_method_50_code 96 = .ok (.iconst 1, 1) := by decide +kernel
theorem d_Mod_areOne_97 : decode prog_12_method_50_code 97 = .ok (.goto 4, 3) := by decide +kernel
theorem d_Mod_areOne_100 : decode prog_12_method_50_code 100 = .ok (.iconst 0, 1) := by decide +kernel
theorem d_Mod_areOne_101 : decode prog_12_method_50_code 101 = .ok (.ireturn, 1) := by decide +kernel
def fm_Mod_areOne_b (rc_areOne : Int → Int → fa_W → Option Bool) (a1 : Int) (a2 : Int) (w : fa_W) : Option Bool :=
  (fm_Mod_find a1 w).bind fun v2 =>
  (fm_Mod_find a2 w).bind fun v4 =>
  if fa_wr v2 = fa_wr v4 then
  some true
  else
  ((fa_ix v2 1200).bind fun j6 =>
  (fa_ix v4 1200).bind fun j7 =>
  if fa_wr (w 199 j6) = fa_wr (w 199 j7) then
  ((fa_ix v2 1200).bind fun j9 =>
  if fa_wr (w 199 j9) = 0 then
  some false
  else
  ((fa_ix v2 1200).bind fun j11 =>
  if fa_wr (w 199 j11) = 1 then
  some true
  else
  ((fa_ix v2 1200).bind fun j13 =>
  (fa_ix v4 1200).bind fun j14 =>
  (rc_areOne (w 200 j13) (w 200 j14) w).bind fun v16 =>
  if v16 = true then
  ((fa_ix v2 1200).bind fun j18 =>
  (fa_ix v4 1200).bind fun j19 =>
  (rc_areOne (w 201 j18) (w 201 j19) w).bind fun v21 =>
  if v21 = true then
  some true
  else
  some false)
  else
  some false)))
  else
  some false)
set_option maxHeartbeats 4000000 in
set_option maxRecDepth 100000 in
theorem c_Mod_areOne_b {l : Launch} {D : va_G} {b : Nat} {aC : Nat → ClassId} {H0 : Heap} {N T : Nat} (hN : fa_NM ≤ N) (hT : fa_TM ≤ T) (dd : Nat) (rc_areOne : Int → Int → fa_W → Option Bool) (Rrc_areOne : ∀ (a1 : Int) (a2 : Int) (w : fa_W) (r : Bool), rc_areOne a1 a2 w = some r → fa_MC l D b aC H0 N T y_Mod_areOne prog_12_method_50_code 5 ((Option.some Jvm.ClassFile.FieldType.boolean)) (1 + dd) [.ref (b + 181), .int (fa_I a1), .int (fa_I a2)] w (some (.int (fa_I (fa_bi r)))) w) (a1 : Int) (a2 : Int)  (w : fa_W) (r : Bool) (hM : fm_Mod_areOne_b rc_areOne a1 a2 w = some r) : fa_MC l D b aC H0 N T y_Mod_areOne prog_12_method_50_code 5 ((Option.some Jvm.ClassFile.FieldType.boolean)) (1 + dd + 1) [.ref (b + 181), .int (fa_I a1), .int (fa_I a2)] w (some (.int (fa_I (fa_bi r)))) w := by
  refine fa_enter (lv := [(0, .ref (b + 181)), (1, .int (fa_I a1)), (2, .int (fa_I a2))]) (by decide +kernel) (Nat.le_of_ble_eq_true rfl) rfl (fun hh hle hnm X => ?_)
  unfold fm_Mod_areOne_b at hM
  refine g_aload_n X 0 rfl d_Mod_areOne_0 ?_
  refine g_iload_n X 1 rfl d_Mod_areOne_1 ?_
  obtain ⟨v2, e1, hM⟩ := fa_ob hM
  refine g_callV_i X ck_10 fo_181 (fn_181 hN) rfl mi_Mod_find (c_Mod_find hN hT a1 w _ e1) wd_1660 rfl (by omega) (st := []) (Nat.le_of_ble_eq_true rfl) rfl d_Mod_areOne_2 ?_
  refine g_istorec_n X [(3, .int (fa_I v2)), (0, .ref (b + 181)), (1, .int (fa_I a1)), (2, .int (fa_I a2))] d_Mod_areOne_5 (by decide) rfl ?_
  refine g_aload_n X 1 rfl d_Mod_areOne_6 ?_
  refine g_iload_n X 3 rfl d_Mod_areOne_7 ?_
  obtain ⟨v4, e3, hM⟩ := fa_ob hM
  refine g_callV_i X ck_10 fo_181 (fn_181 hN) rfl mi_Mod_find (c_Mod_find hN hT a2 w _ e3) wd_1660 rfl (by omega) (st := []) (Nat.le_of_ble_eq_true rfl) rfl d_Mod_areOne_8 ?_
  refine g_istorec X [(4, .int (fa_I v4)), (3, .int (fa_I v2)), (0, .ref (b + 181)), (1, .int (fa_I a1)), (2, .int (fa_I a2))] d_Mod_areOne_11 (by decide) rfl ?_
  refine g_iload_n X 1 rfl d_Mod_areOne_13 ?_
  refine g_iload X 0 rfl d_Mod_areOne_14 ?_
  refine g_icmp_ne X 21 d_Mod_areOne_16 (by decide) (fun hc5 => ?_) (fun hc5 => ?_)
  · have hM := fa_if_f hM hc5
    refine g_aload_n X 2 rfl d_Mod_areOne_21 ?_
    refine g_get X ck_10 fo_181 (fn_181 hN) 36 (by decide) wd_1777 rfl (fr_181_36 rfl hT) d_Mod_areOne_22 ?_
    refine g_iload_n X 1 rfl d_Mod_areOne_25 ?_
    obtain ⟨j6, ej6, hM⟩ := fa_ob hM
    refine g_iald X fs_199 (fn_199 hN) ej6 d_Mod_areOne_26 ?_
    refine g_aload_n X 2 rfl d_Mod_areOne_27 ?_
    refine g_get X ck_10 fo_181 (fn_181 hN) 36 (by decide) wd_1777 rfl (fr_181_36 rfl hT) d_Mod_areOne_28 ?_
    refine g_iload X 0 rfl d_Mod_areOne_31 ?_
    obtain ⟨j7, ej7, hM⟩ := fa_ob hM
    refine g_iald X fs_199 (fn_199 hN) ej7 d_Mod_areOne_33 ?_
    refine g_icmp_ne X 100 d_Mod_areOne_34 (by decide) (fun hc8 => ?_) (fun hc8 => ?_)
    · have hM := fa_if_f hM hc8
      refine g_iconst X d_Mod_areOne_100 ?_
      cases hM
      exact g_zret X rfl d_Mod_areOne_101
    · have hM := fa_if_t hM hc8
      refine g_aload_n X 2 rfl d_Mod_areOne_37 ?_
      refine g_get X ck_10 fo_181 (fn_181 hN) 36 (by decide) wd_1777 rfl (fr_181_36 rfl hT) d_Mod_areOne_38 ?_
      refine g_iload_n X 1 rfl d_Mod_areOne_41 ?_
      obtain ⟨j9, ej9, hM⟩ := fa_ob hM
      refine g_iald X fs_199 (fn_199 hN) ej9 d_Mod_areOne_42 ?_
      refine g_if_eq X 100 d_Mod_areOne_43 (by decide) (fun hc10 => ?_) (fun hc10 => ?_)
      · have hM := fa_if_t hM hc10
        refine g_iconst X d_Mod_areOne_100 ?_
        cases hM
        exact g_zret X rfl d_Mod_areOne_101
      · have hM := fa_if_f hM hc10
        refine g_aload_n X 2 rfl d_Mod_areOne_46 ?_
        refine g_get X ck_10 fo_181 (fn_181 hN) 36 (by decide) wd_1777 rfl (fr_181_36 rfl hT) d_Mod_areOne_47 ?_
        refine g_iload_n X 1 rfl d_Mod_areOne_50 ?_
        obtain ⟨j11, ej11, hM⟩ := fa_ob hM
        refine g_iald X fs_199 (fn_199 hN) ej11 d_Mod_areOne_51 ?_
        refine g_iconst X d_Mod_areOne_52 ?_
        refine g_icmp_eq X 96 d_Mod_areOne_53 (by decide) (fun hc12 => ?_) (fun hc12 => ?_)
        · have hM := fa_if_t hM hc12
          refine g_iconst X d_Mod_areOne_96 ?_
          refine g_goto X 101 d_Mod_areOne_97 (by decide) ?_
          cases hM
          exact g_zret X rfl d_Mod_areOne_101
        · have hM := fa_if_f hM hc12
          refine g_aload_n X 2 rfl d_Mod_areOne_56 ?_
          refine g_aload_n X 2 rfl d_Mod_areOne_57 ?_
          refine g_get X ck_10 fo_181 (fn_181 hN) 37 (by decide) wd_1778 rfl (fr_181_37 rfl hT) d_Mod_areOne_58 ?_
          refine g_iload_n X 1 rfl d_Mod_areOne_61 ?_
          obtain ⟨j13, ej13, hM⟩ := fa_ob hM
          refine g_iald X fs_200 (fn_200 hN) ej13 d_Mod_areOne_62 ?_
          refine g_aload_n X 2 rfl d_Mod_areOne_63 ?_
          refine g_get X ck_10 fo_181 (fn_181 hN) 37 (by decide) wd_1778 rfl (fr_181_37 rfl hT) d_Mod_areOne_64 ?_
          refine g_iload X 0 rfl d_Mod_areOne_67 ?_
          obtain ⟨j14, ej14, hM⟩ := fa_ob hM
          refine g_iald X fs_200 (fn_200 hN) ej14 d_Mod_areOne_69 ?_
          obtain ⟨v16, e15, hM⟩ := fa_ob hM
          refine g_callV_i X ck_10 fo_181 (fn_181 hN) rfl mi_Mod_areOne (Rrc_areOne (w 200 j13) (w 200 j14) w _ e15) wd_1718 rfl (by omega) (st := []) (Nat.le_of_ble_eq_true rfl) rfl d_Mod_areOne_70 ?_
          refine g_ifb_eq X 100 d_Mod_areOne_73 (by decide) (fun hc17 => ?_) (fun hc17 => ?_)
          · have hM := fa_ifb_f hM hc17
            refine g_iconst X d_Mod_areOne_100 ?_
            cases hM
            exact g_zret X rfl d_Mod_areOne_101
          · have hM := fa_ifb_t hM hc17
            refine g_aload_n X 2 rfl d_Mod_areOne_76 ?_
            refine g_aload_n X 2 rfl d_Mod_areOne_77 ?_
            refine g_get X ck_10 fo_181 (fn_181 hN) 38 (by decide) wd_1779 rfl (fr_181_38 rfl hT) d_Mod_areOne_78 ?_
            refine g_iload_n X 1 rfl d_Mod_areOne_81 ?_
            obtain ⟨j18, ej18, hM⟩ := fa_ob hM
            refine g_iald X fs_201 (fn_201 hN) ej18 d_Mod_areOne_82 ?_
            refine g_aload_n X 2 rfl d_Mod_areOne_83 ?_
            refine g_get X ck_10 fo_181 (fn_181 hN) 38 (by decide) wd_1779 rfl (fr_181_38 rfl hT) d_Mod_areOne_84 ?_
            refine g_iload X 0 rfl d_Mod_areOne_87 ?_
            obtain ⟨j19, ej19, hM⟩ := fa_ob hM
            refine g_iald X fs_201 (fn_201 hN) ej19 d_Mod_areOne_89 ?_
            obtain ⟨v21, e20, hM⟩ := fa_ob hM
            refine g_callV_i X ck_10 fo_181 (fn_181 hN) rfl mi_Mod_areOne (Rrc_areOne (w 201 j18) (w 201 j19) w _ e20) wd_1718 rfl (by omega) (st := []) (Nat.le_of_ble_eq_true rfl) rfl d_Mod_areOne_90 ?_
            refine g_ifb_eq X 100 d_Mod_areOne_93 (by decide) (fun hc22 => ?_) (fun hc22 => ?_)
            · have hM := fa_ifb_f hM hc22
              refine g_iconst X d_Mod_areOne_100 ?_
              cases hM
              exact g_zret X rfl d_Mod_areOne_101
            · have hM := fa_ifb_t hM hc22
              refine g_iconst X d_Mod_areOne_96 ?_
              refine g_goto X 101 d_Mod_areOne_97 (by decide) ?_
              cases hM
              exact g_zret X rfl d_Mod_areOne_101
  · have hM := fa_if_t hM hc5
    refine g_iconst X d_Mod_areOne_19 ?_
    cases hM
    exact g_zret X rfl d_Mod_areOne_20
def fm_Mod_areOne : Nat → Int → Int → fa_W → Option Bool
  | 0, _, _, _ => none
  | n + 1, a1, a2, w => fm_Mod_areOne_b (fm_Mod_areOne n) a1 a2 w
set_option maxHeartbeats 4000000 in
set_option maxRecDepth 100000 in
theorem c_Mod_areOne {l : Launch} {D : va_G} {b : Nat} {aC : Nat → ClassId} {H0 : Heap} {N T : Nat} (hN : fa_NM ≤ N) (hT : fa_TM ≤ T) : ∀ (n : Nat) (a1 : Int) (a2 : Int) (w : fa_W) (r : Bool), fm_Mod_areOne n a1 a2 w = some r → fa_MC l D b aC H0 N T y_Mod_areOne prog_12_method_50_code 5 ((Option.some Jvm.ClassFile.FieldType.boolean)) (1 + n) [.ref (b + 181), .int (fa_I a1), .int (fa_I a2)] w (some (.int (fa_I (fa_bi r)))) w := by
  intro n
  induction n with
  | zero => intro a1 a2 w r hM; exact fa_no hM
  | succ n ih => intro a1 a2 w r hM; exact c_Mod_areOne_b hN hT n (fm_Mod_areOne n) ih a1 a2 w r hM
theorem d_Mod_more_0 : decode prog_12_method_51_code 0 = .ok (.aload_n 0, 1) := by decide +kernel
theorem d_Mod_more_1 : decode prog_12_method_51_code 1 = .ok (.dup, 1) := by decide +kernel
theorem d_Mod_more_2 : decode prog_12_method_51_code 2 = .ok (.getfield 291, 3) := by decide +kernel
theorem d_Mod_more_5 : decode prog_12_method_51_code 5 = .ok (.iload_n 2, 1) := by decide +kernel
theorem d_Mod_more_6 : decode prog_12_method_51_code 6 = .ok (.iload_n 1, 1) := by decide +kernel
theorem d_Mod_more_7 : decode prog_12_method_51_code 7 = .ok (.iconst (-1), 1) := by decide +kernel
theorem d_Mod_more_8 : decode prog_12_method_51_code 8 = .ok (.ixor, 1) := by decide +kernel
theorem d_Mod_more_9 : decode prog_12_method_51_code 9 = .ok (.iand, 1) := by decide +kernel
theorem d_Mod_more_10 : decode prog_12_method_51_code 10 = .ok (.invokestatic 294, 3) := by decide +kernel
theorem d_Mod_more_13 : decode prog_12_method_51_code 13 = .ok (.iadd, 1) := by decide +kernel
theorem d_Mod_more_14 : decode prog_12_method_51_code 14 = .ok (.putfield 291, 3) := by decide +kernel
theorem d_Mod_more_17 : decode prog_12_method_51_code 17 = .ok (.iload_n 1, 1) := by decide +kernel
theorem d_Mod_more_18 : decode prog_12_method_51_code 18 = .ok (.iload_n 2, 1) := by decide +kernel
theorem d_Mod_more_19 : decode prog_12_method_51_code 19 = .ok (.ior, 1) := by decide +kernel
theorem d_Mod_more_20 : decode prog_12_method_51_code 20 = .ok (.ireturn, 1) := by decide +kernel
def fm_Mod_more (a1 : Int) (a2 : Int) (w : fa_W) : Option (Int × fa_W) :=
  (fm_Mod_bits (fa_iand a2 (fa_ixor a1 (-1))) w).bind fun v2 =>
  fa_let (fa_st w 181 55 ((w 181 55) + v2)) fun w3 =>
  some (fa_ior a1 a2, w3)
set_option maxHeartbeats 4000000 in
set_option maxRecDepth 100000 in
theorem c_Mod_more {l : Launch} {D : va_G} {b : Nat} {aC : Nat → ClassId} {H0 : Heap} {N T : Nat} (hN : fa_NM ≤ N) (hT : fa_TM ≤ T) (a1 : Int) (a2 : Int)  (w : fa_W) (r : Int × fa_W) (hM : fm_Mod_more a1 a2 w = some r) : fa_MC l D b aC H0 N T y_Mod_more prog_12_method_51_code 3 ((Option.some Jvm.ClassFile.FieldType.int)) (1) [.ref (b + 181), .int (fa_I a1), .int (fa_I a2)] w (some (.int (fa_I r.1))) r.2 := by
  refine fa_enter (lv := [(0, .ref (b + 181)), (1, .int (fa_I a1)), (2, .int (fa_I a2))]) (by decide +kernel) (Nat.le_of_ble_eq_true rfl) rfl (fun hh hle hnm X => ?_)
  unfold fm_Mod_more at hM
  refine g_aload_n X 0 rfl d_Mod_more_0 ?_
  refine g_dup X rfl d_Mod_more_1 ?_
  refine g_get X ck_10 fo_181 (fn_181 hN) 55 (by decide) wd_1796 rfl (fa_fvI rfl) d_Mod_more_2 ?_
  refine g_iload_n X 2 rfl d_Mod_more_5 ?_
  refine g_iload_n X 1 rfl d_Mod_more_6 ?_
  refine g_iconst X d_Mod_more_7 ?_
  refine g_ixor X d_Mod_more_8 ?_
  refine g_iand X d_Mod_more_9 ?_
  obtain ⟨v2, e1, hM⟩ := fa_ob hM
  refine g_callS_i X mi_Mod_bits (c_Mod_bits hN hT (fa_iand a2 (fa_ixor a1 (-1))) w _ e1) wd_1684 rfl (Nat.le_trans (Nat.le_of_ble_eq_true rfl) hle) (st := [.int (fa_I (w 181 55)), .ref (b + 181)]) (Nat.le_of_ble_eq_true rfl) rfl d_Mod_more_10 ?_
  refine g_iadd X d_Mod_more_13 ?_
  refine g_put X ck_10 fo_181 (fn_181 hN) 55 (z := ((w 181 55) + v2)) (by decide) wd_1796 rfl (fa_fvI' rfl) rfl rfl rfl d_Mod_more_14 (fun w3 ew3 => ?_)
  have hM := fa_let_to hM ew3
  refine g_iload_n X 1 rfl d_Mod_more_17 ?_
  refine g_iload_n X 2 rfl d_Mod_more_18 ?_
  refine g_ior X d_Mod_more_19 ?_
  cases hM
  exact g_iret X d_Mod_more_20
