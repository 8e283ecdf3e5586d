theorem d_Mod_site_0 : decode prog_12_method_109_code 0 = .ok (.aload_n 0, 1) := by decide +kernel
theorem d_Mod_site_1 : decode prog_12_method_109_code 1 = .ok (.iconst 0, 1) := by decide +kernel
theorem d_Mod_site_2 : decode prog_12_method_109_code 2 = .ok (.putfield 1, 3) := by decide +kernel
theorem d_Mod_site_5 : decode prog_12_method_109_code 5 = .ok (.aload_n 0, 1) := by decide +kernel
theorem d_Mod_site_6 : decode prog_12_method_109_code 6 = .ok (.iload_n 1, 1) := by decide +kernel
theorem d_Mod_site_7 : decode prog_12_method_109_code 7 = .ok (.iconst 0, 1) := by decide +kernel
theorem d_Mod_site_8 : decode prog_12_method_109_code 8 = .ok (.aload_n 0, 1) := by decide +kernel
theorem d_Mod_site_9 : decode prog_12_method_109_code 9 = .ok (.getfield 197, 3) := by decide +kernel
theorem d_Mod_site_12 : decode prog_12_method_109_code 12 = .ok (.iconst 1, 1) := by decide +kernel
theorem d_Mod_site_13 : decode prog_12_method_109_code 13 = .ok (.isub, 1) := by decide +kernel
theorem d_Mod_site_14 : decode prog_12_method_109_code 14 = .ok (.invokestatic 530, 3) := by decide +kernel
theorem d_Mod_site_17 : decode prog_12_method_109_code 17 = .ok (.ifCond .ne 7, 3) := by decide +kernel
theorem d_Mod_site_20 : decode prog_12_method_109_code 20 = .ok (.iconst 1, 1) := by decide +kernel
theorem d_Mod_site_21 : decode prog_12_method_109_code 21 = .ok (.goto 4, 3) := by decide +kernel
theorem d_Mod_site_24 : decode prog_12_method_109_code 24 = .ok (.iconst 0, 1) := by decide +kernel
theorem d_Mod_site_25 : decode prog_12_method_109_code 25 = .ok (.iconst 1, 1) := by decide +kernel
theorem d_Mod_site_26 : decode prog_12_method_109_code 26 = .ok (.invokevirtual 533, 3) := by decide +kernel
theorem d_Mod_site_29 : decode prog_12_method_109_code 29 = .ok (.ifCond .ne 26, 3) := by decide +kernel
theorem d_Mod_site_32 : decode prog_12_method_109_code 32 = .ok (.aload_n 0, 1) := by decide +kernel
theorem d_Mod_site_33 : decode prog_12_method_109_code 33 = .ok (.iload_n 2, 1) := by decide +kernel
theorem d_Mod_site_34 : decode prog_12_method_109_code 34 = .ok (.iconst 0, 1) := by decide +kernel
theorem d_Mod_site_35 : decode prog_12_method_109_code 35 = .ok (.bipush 6, 2) := by decide +kernel
theorem d_Mod_site_37 : decode prog_12_method_109_code 37 = .ok (.invokestatic 530, 3) := by decide +kernel
theorem d_Mod_site_40 : decode prog_12_method_109_code 40 = .ok (.ifCond .ne 7, 3) := by decide +kernel
theorem d_Mod_site_43 : decode prog_12_method_109_code 43 = .ok (.iconst 1, 1) := by decide +kernel
theorem d_Mod_site_44 : decode prog_12_method_109_code 44 = .ok (.goto 4, 3) := by decide +kernel
theorem d_Mod_site_47 : decode prog_12_method_109_code 47 = .ok (.iconst 0, 1) := by decide +kernel
theorem d_Mod_site_48 : decode prog_12_method_109_code 48 = .ok (.iconst 2, 1) := by decide +kernel
theorem d_Mod_site_49 : decode prog_12_method_109_code 49 = .ok (.invokevirtual 533, 3) := by decide +kernel
theorem d_Mod_site_52 : decode prog_12_method_109_code 52 = .ok (.ifCond .eq 5, 3) := by decide +kernel
theorem d_Mod_site_55 : decode prog_12_method_109_code 55 = .ok (.iconst 0, 1) := by decide +kernel
theorem d_Mod_site_56 : decode prog_12_method_109_code 56 = .ok (.ireturn, 1) := by decide +kernel
theorem d_Mod_site_57 : decode prog_12_method_109_code 57 = .ok (.iload_n 2, 1) := by decide +kernel
theorem d_Mod_site_58 : decode prog_12_method_109_code 58 = .ok (.tableswitch 100 0 5 #[38, 45, 52, 59, 66, 72], 38) := by decide +kernel
theorem d_Mod_site_96 : decode prog_12_method_109_code 96 = .ok (.aload_n 0, 1) := by decide +kernel
theorem d_Mod_site_97 : decode prog_12_method_109_code 97 = .ok (.getfield 200, 3) := by decide +kernel
theorem d_Mod_site_100 : decode prog_12_method_109_code 100 = .ok (.iload_n 1, 1) := by decide +kernel
theorem d_Mod_site_101 : decode prog_12_method_109_code 101 = .ok (.iaload, 1) := by decide +kernel
theorem d_Mod_site_102 : decode prog_12_method_109_code 102 = .ok (.ireturn, 1) := by decide +kernel
theorem d_Mod_site_103 : decode prog_12_method_109_code 103 = .ok (.aload_n 0, 1) := by decide +kernel
theorem d_Mod_site_104 : decode prog_12_method_109_code 104 = .ok (.getfield 317, 3) := by decide +kernel
theorem d_Mod_site_107 : decode prog_12_method_109_code 107 = .ok (.iload_n 1, 1) := by decide +kernel
theorem d_Mod_site_108 : decode prog_12_method_109_code 108 = .ok (.iaload, 1) := by decide +kernel
theorem d_Mod_site_109 : decode prog_12_method_109_code 109 = .ok (.ireturn, 1) := by decide +kernel
theorem d_Mod_site_110 : decode prog_12_method_109_code 110 = .ok (.aload_n 0, 1) := by decide +kernel
theorem d_Mod_site_111 : decode prog_12_method_109_code 111 = .ok (.getfield 320, 3) := by decide +kernel
theorem d_Mod_site_114 : decode prog_12_method_109_code 114 = .ok (.iload_n 1, 1) := by decide +kernel
theorem d_Mod_site_115 : decode prog_12_method_109_code 115 = .ok (.iaload, 1) := by decide +kernel
theorem d_Mod_site_116 : decode prog_12_method_109_code 116 = .ok (.ireturn, 1) := by decide +kernel
theorem d_Mod_site_117 : decode prog_12_method_109_code 117 = .ok (.aload_n 0, 1) := by decide +kernel
theorem d_Mod_site_118 : decode prog_12_method_109_code 118 = .ok (.getfield 332, 3) := by decide +kernel
theorem d_Mod_site_121 : decode prog_12_method_109_code 121 = .ok (.iload_n 1, 1) := by decide +kernel
theorem d_Mod_site_122 : decode prog_12_method_109_code 122 = .ok (.iaload, 1) := by decide +kernel
theorem d_Mod_site_123 : decode prog_12_method_109_code 123 = .ok (.ireturn, 1) := by decide +kernel
theorem d_Mod_site_124 : decode prog_12_method_109_code 124 = .ok (.aload_n 0, 1) := by decide +kernel
theorem d_Mod_site_125 : decode prog_12_method_109_code 125 = .ok (.iload_n 1, 1) := by decide +kernel
theorem d_Mod_site_126 : decode prog_12_method_109_code 126 = .ok (.invokevirtual 597, 3) := by decide +kernel
theorem d_Mod_site_129 : decode prog_12_method_109_code 129 = .ok (.ireturn, 1) := by decide +kernel
theorem d_Mod_site_130 : decode prog_12_method_109_code 130 = .ok (.aload_n 0, 1) := by decide +kernel
theorem d_Mod_site_131 : decode prog_12_method_109_code 131 = .ok (.getfield 313, 3) := by decide +kernel
theorem d_Mod_site_134 : decode prog_12_method_109_code 134 = .ok (.iload_n 1, 1) := by decide +kernel
theorem d_Mod_site_135 : decode prog_12_method_109_code 135 = .ok (.baload, 1) := by decide +kernel
theorem d_Mod_site_136 : decode prog_12_method_109_code 136 = .ok (.ifCond .eq 20, 3) := by decide +kernel
theorem d_Mod_site_139 : decode prog_12_method_109_code 139 = .ok (.aload_n 0, 1) := by decide +kernel
theorem d_Mod_site_140 : decode prog_12_method_109_code 140 = .ok (.getfield 317, 3) := by decide +kernel
theorem d_Mod_site_143 : decode prog_12_method_109_code 143 = .ok (.iload_n 1, 1) := by decide +kernel
theorem d_Mod_site_144 : decode prog_12_method_109_code 144 = .ok (.iaload, 1) := by decide +kernel
theorem d_Mod_site_145 : decode prog_12_method_109_code 145 = .ok (.invokestatic 294, 3) := by decide +kernel
theorem d_Mod_site_148 : decode prog_12_method_109_code 148 = .ok (.iconst 1, 1) := by decide +kernel
theorem d_Mod_site_149 : decode prog_12_method_109_code 149 = .ok (.if_icmp .ne 7, 3) := by decide +kernel
theorem d_Mod_site_152 : decode prog_12_method_109_code 152 = .ok (.iconst 1, 1) := by decide +kernel
theorem d_Mod_site_153 : decode prog_12_method_109_code 153 = .ok (.goto 4, 3) := by decide +kernel
theorem d_Mod_site_156 : decode prog_12_method_109_code 156 = .ok (.iconst 0, 1) := by decide +kernel
theorem d_Mod_site_157 : decode prog_12_method_109_code 157 = .ok (.ireturn, 1) := by decide +kernel
theorem d_Mod_site_158 : decode prog_12_method_109_code 158 = .ok (.aload_n 0, 1) := by decide +kernel
theorem d_Mod_site_159 : decode prog_12_method_109_code 159 = .ok (.getfield 313, 3) := by decide +kernel
theorem d_Mod_site_162 : decode prog_12_method_109_code 162 = .ok (.iload_n 1, 1) := by decide +kernel
theorem d_Mod_site_163 : decode prog_12_method_109_code 163 = .ok (.baload, 1) := by decide +kernel
theorem d_Mod_site_164 : decode prog_12_method_109_code 164 = .ok (.ifCond .eq 7, 3) := by decide +kernel
theorem d_Mod_site_167 : decode prog_12_method_109_code 167 = .ok (.iconst 1, 1) := by decide +kernel
theorem d_Mod_site_168 : decode prog_12_method_109_code 168 = .ok (.goto 4, 3) := by decide +kernel
theorem d_Mod_site_171 : decode prog_12_method_109_code 171 = .ok (.iconst 0, 1) := by decide +kernel
theorem d_Mod_site_172 : decode prog_12_method_109_code 172 = .ok (.ireturn, 1) := by decide +kernel
def fm_Mod_site_j48 (a1 : Int) (a2 : Int) (s0 : Bool) (w : fa_W) : Option (Int × fa_W) :=
  fa_l2 (fm_Mod_throwsIf s0 2 w) fun v11 w12 =>
  if v11 = true then
  some (0, w12)
  else
  (if fa_wr a2 = 0 then
  ((fa_ix a1 101).bind fun j15 =>
  some (w12 195 j15, w12))
  else
  if fa_wr a2 = 1 then
  ((fa_ix a1 101).bind fun j17 =>
  some (w12 209 j17, w12))
  else
  if fa_wr a2 = 2 then
  ((fa_ix a1 101).bind fun j19 =>
  some (w12 210 j19, w12))
  else
  if fa_wr a2 = 3 then
  ((fa_ix a1 101).bind fun j21 =>
  some (w12 211 j21, w12))
  else
  if fa_wr a2 = 4 then
  ((fm_Mod_siteGroup a1 w12).bind fun v24 =>
  some (v24, w12))
  else
  if fa_wr a2 = 5 then
  ((fa_ix a1 101).bind fun j26 =>
  if decide (w12 212 j26 ≠ 0) = true then
  ((fa_ix a1 101).bind fun j28 =>
  (fm_Mod_bits (w12 209 j28) w12).bind fun v30 =>
  if fa_wr v30 = 1 then
  some (1, w12)
  else
  some (0, w12))
  else
  some (0, w12))
  else
  ((fa_ix a1 101).bind fun j32 =>
  if decide (w12 212 j32 ≠ 0) = true then
  some (1, w12)
  else
  some (0, w12)))
set_option maxHeartbeats 4000000 in
set_option maxRecDepth 100000 in
theorem c_Mod_site_j48 {p : Program} {l : Launch} {e : Env} {s : State} {m : MethodId} {args : Array Value} {below : List Frame} {meth : Method} {c : Code} {hh : Nat} {D : va_G} {b : Nat} {aC : Nat → ClassId} {H0 : Heap} {N T : Nat} (X : fa_GX p s m args meth c prog_12_method_109_code 3 ((Option.some Jvm.ClassFile.FieldType.int)) y_Mod_site.cls D b aC) (hle : 2 ≤ hh) (hN : fa_NM ≤ N) (hT : fa_TM ≤ T) (a1 : Int) (a2 : Int) {r : Int × fa_W}  : ∀ (s0 : Bool) (w : fa_W) (_ : fm_Mod_site_j48 a1 a2 s0 w = some r), fa_GJ p l e (fa_rm hh) s m args below meth c 0 0 (MQ below (fa_Qc D b aC H0 N T (some (.int (fa_I r.1))) r.2) args s 0 0 (fun q => b ≤ q)) D b aC H0 N T 3 w 48 [(0, .ref (b + 181)), (1, .int (fa_I a1)), (2, .int (fa_I a2))] [.int (fa_I (fa_bi s0)), .ref (b + 181)] := by
  intro s0 w hM
  unfold fm_Mod_site_j48 at hM
  refine g_iconst X d_Mod_site_48 ?_
  obtain ⟨⟨v11, w12⟩, e10⟩ : ∃ q, fm_Mod_throwsIf s0 2 w = q := ⟨_, rfl⟩
  have hM := fa_l2_e hM e10
  refine g_callV_i X ck_10 fo_181 (fn_181 hN) rfl mi_Mod_throwsIf (c_Mod_throwsIf hN hT s0 2 w _ e10) wd_2096 rfl (Nat.le_trans (Nat.le_of_ble_eq_true rfl) hle) (st := []) (Nat.le_of_ble_eq_true rfl) rfl d_Mod_site_49 ?_
  refine g_ifb_eq X 57 d_Mod_site_52 (by decide) (fun hc13 => ?_) (fun hc13 => ?_)
  · have hM := fa_ifb_f hM hc13
    refine g_iload_n X 2 rfl d_Mod_site_57 ?_
    by_cases hc14 : fa_wr a2 = 0
    · have hM := fa_if_t hM hc14
      refine g_tableIn X 0 96 d_Mod_site_58 hc14 (by decide) (by decide) rfl (by decide) ?_
      refine g_aload_n X 0 rfl d_Mod_site_96 ?_
      refine g_get X ck_10 fo_181 (fn_181 hN) 15 (by decide) wd_1757 rfl (fr_181_15 rfl hT) d_Mod_site_97 ?_
      refine g_iload_n X 1 rfl d_Mod_site_100 ?_
      obtain ⟨j15, ej15, hM⟩ := fa_ob hM
      refine g_iald X fs_195 (fn_195 hN) ej15 d_Mod_site_101 ?_
      cases hM
      exact g_iret X d_Mod_site_102
    have hM := fa_if_f hM hc14
    by_cases hc16 : fa_wr a2 = 1
    · have hM := fa_if_t hM hc16
      refine g_tableIn X 1 103 d_Mod_site_58 hc16 (by decide) (by decide) rfl (by decide) ?_
      refine g_aload_n X 0 rfl d_Mod_site_103 ?_
      refine g_get X ck_10 fo_181 (fn_181 hN) 48 (by decide) wd_1789 rfl (fr_181_48 rfl hT) d_Mod_site_104 ?_
      refine g_iload_n X 1 rfl d_Mod_site_107 ?_
      obtain ⟨j17, ej17, hM⟩ := fa_ob hM
      refine g_iald X fs_209 (fn_209 hN) ej17 d_Mod_site_108 ?_
      cases hM
      exact g_iret X d_Mod_site_109
    have hM := fa_if_f hM hc16
    by_cases hc18 : fa_wr a2 = 2
    · have hM := fa_if_t hM hc18
      refine g_tableIn X 2 110 d_Mod_site_58 hc18 (by decide) (by decide) rfl (by decide) ?_
      refine g_aload_n X 0 rfl d_Mod_site_110 ?_
      refine g_get X ck_10 fo_181 (fn_181 hN) 49 (by decide) wd_1790 rfl (fr_181_49 rfl hT) d_Mod_site_111 ?_
      refine g_iload_n X 1 rfl d_Mod_site_114 ?_
      obtain ⟨j19, ej19, hM⟩ := fa_ob hM
      refine g_iald X fs_210 (fn_210 hN) ej19 d_Mod_site_115 ?_
      cases hM
      exact g_iret X d_Mod_site_116
    have hM := fa_if_f hM hc18
    by_cases hc20 : fa_wr a2 = 3
    · have hM := fa_if_t hM hc20
      refine g_tableIn X 3 117 d_Mod_site_58 hc20 (by decide) (by decide) rfl (by decide) ?_
      refine g_aload_n X 0 rfl d_Mod_site_117 ?_
      refine g_get X ck_10 fo_181 (fn_181 hN) 50 (by decide) wd_1791 rfl (fr_181_50 rfl hT) d_Mod_site_118 ?_
      refine g_iload_n X 1 rfl d_Mod_site_121 ?_
      obtain ⟨j21, ej21, hM⟩ := fa_ob hM
      refine g_iald X fs_211 (fn_211 hN) ej21 d_Mod_site_122 ?_
      cases hM
      exact g_iret X d_Mod_site_123
    have hM := fa_if_f hM hc20
    by_cases hc22 : fa_wr a2 = 4
    · have hM := fa_if_t hM hc22
      refine g_tableIn X 4 124 d_Mod_site_58 hc22 (by decide) (by decide) rfl (by decide) ?_
      refine g_aload_n X 0 rfl d_Mod_site_124 ?_
      refine g_iload_n X 1 rfl d_Mod_site_125 ?_
      obtain ⟨v24, e23, hM⟩ := fa_ob hM
      refine g_callV_i X ck_10 fo_181 (fn_181 hN) rfl mi_Mod_siteGroup (c_Mod_siteGroup hN hT a1 w12 _ e23) wd_2196 rfl (Nat.le_trans (Nat.le_of_ble_eq_true rfl) hle) (st := []) (Nat.le_of_ble_eq_true rfl) rfl d_Mod_site_126 ?_
      cases hM
      exact g_iret X d_Mod_site_129
    have hM := fa_if_f hM hc22
    by_cases hc25 : fa_wr a2 = 5
    · have hM := fa_if_t hM hc25
      refine g_tableIn X 5 130 d_Mod_site_58 hc25 (by decide) (by decide) rfl (by decide) ?_
      refine g_aload_n X 0 rfl d_Mod_site_130 ?_
      refine g_get X ck_10 fo_181 (fn_181 hN) 51 (by decide) wd_1792 rfl (fr_181_51 rfl hT) d_Mod_site_131 ?_
      refine g_iload_n X 1 rfl d_Mod_site_134 ?_
      obtain ⟨j26, ej26, hM⟩ := fa_ob hM
      refine g_zald X fs_212 (fn_212 hN) ej26 d_Mod_site_135 ?_
      refine g_ifb_eq X 156 d_Mod_site_136 (by decide) (fun hc27 => ?_) (fun hc27 => ?_)
      · have hM := fa_ifb_f hM hc27
        refine g_iconst X d_Mod_site_156 ?_
        cases hM
        exact g_iret X d_Mod_site_157
      · have hM := fa_ifb_t hM hc27
        refine g_aload_n X 0 rfl d_Mod_site_139 ?_
        refine g_get X ck_10 fo_181 (fn_181 hN) 48 (by decide) wd_1789 rfl (fr_181_48 rfl hT) d_Mod_site_140 ?_
        refine g_iload_n X 1 rfl d_Mod_site_143 ?_
        obtain ⟨j28, ej28, hM⟩ := fa_ob hM
        refine g_iald X fs_209 (fn_209 hN) ej28 d_Mod_site_144 ?_
        obtain ⟨v30, e29, hM⟩ := fa_ob hM
        refine g_callS_i X mi_Mod_bits (c_Mod_bits hN hT (w12 209 j28) w12 _ e29) wd_1684 rfl (Nat.le_trans (Nat.le_of_ble_eq_true rfl) hle) (st := []) (Nat.le_of_ble_eq_true rfl) rfl d_Mod_site_145 ?_
        refine g_iconst X d_Mod_site_148 ?_
        refine g_icmp_ne X 156 d_Mod_site_149 (by decide) (fun hc31 => ?_) (fun hc31 => ?_)
        · have hM := fa_if_f hM hc31
          refine g_iconst X d_Mod_site_156 ?_
          cases hM
          exact g_iret X d_Mod_site_157
        · have hM := fa_if_t hM hc31
          refine g_iconst X d_Mod_site_152 ?_
          refine g_goto X 157 d_Mod_site_153 (by decide) ?_
          cases hM
          exact g_iret X d_Mod_site_157
    have hM := fa_if_f hM hc25
    refine g_tableDef X 158 d_Mod_site_58 (by
    exact Or.inl (by omega)) (by decide) ?_
    refine g_aload_n X 0 rfl d_Mod_site_158 ?_
    refine g_get X ck_10 fo_181 (fn_181 hN) 51 (by decide) wd_1792 rfl (fr_181_51 rfl hT) d_Mod_site_159 ?_
    refine g_iload_n X 1 rfl d_Mod_site_162 ?_
    obtain ⟨j32, ej32, hM⟩ := fa_ob hM
    refine g_zald X fs_212 (fn_212 hN) ej32 d_Mod_site_163 ?_
    refine g_ifb_eq X 171 d_Mod_site_164 (by decide) (fun hc33 => ?_) (fun hc33 => ?_)
    · have hM := fa_ifb_f hM hc33
      refine g_iconst X d_Mod_site_171 ?_
      cases hM
      exact g_iret X d_Mod_site_172
    · have hM := fa_ifb_t hM hc33
      refine g_iconst X d_Mod_site_167 ?_
      refine g_goto X 172 d_Mod_site_168 (by decide) ?_
      cases hM
      exact g_iret X d_Mod_site_172
  · have hM := fa_ifb_t hM hc13
    refine g_iconst X d_Mod_site_55 ?_
    cases hM
    exact g_iret X d_Mod_site_56
def fm_Mod_site_j25 (a1 : Int) (a2 : Int) (s0 : Bool) (w : fa_W) : Option (Int × fa_W) :=
  fa_l2 (fm_Mod_throwsIf s0 1 w) fun v5 w6 =>
  if v5 = true then
  some (0, w6)
  else
  (if fm_Mod_in a2 0 6 w6 = true then
  fm_Mod_site_j48 a1 a2 false w6
  else
  fm_Mod_site_j48 a1 a2 true w6)
set_option maxHeartbeats 4000000 in
set_option maxRecDepth 100000 in
theorem c_Mod_site_j25 {p : Program} {l : Launch} {e : Env} {s : State} {m : MethodId} {args : Array Value} {below : List Frame} {meth : Method} {c : Code} {hh : Nat} {D : va_G} {b : Nat} {aC : Nat → ClassId} {H0 : Heap} {N T : Nat} (X : fa_GX p s m args meth c prog_12_method_109_code 3 ((Option.some Jvm.ClassFile.FieldType.int)) y_Mod_site.cls D b aC) (hle : 2 ≤ hh) (hN : fa_NM ≤ N) (hT : fa_TM ≤ T) (a1 : Int) (a2 : Int) {r : Int × fa_W}  : ∀ (s0 : Bool) (w : fa_W) (_ : fm_Mod_site_j25 a1 a2 s0 w = some r), fa_GJ p l e (fa_rm hh) s m args below meth c 0 0 (MQ below (fa_Qc D b aC H0 N T (some (.int (fa_I r.1))) r.2) args s 0 0 (fun q => b ≤ q)) D b aC H0 N T 3 w 25 [(0, .ref (b + 181)), (1, .int (fa_I a1)), (2, .int (fa_I a2))] [.int (fa_I (fa_bi s0)), .ref (b + 181)] := by
  intro s0 w hM
  unfold fm_Mod_site_j25 at hM
  refine g_iconst X d_Mod_site_25 ?_
  obtain ⟨⟨v5, w6⟩, e4⟩ : ∃ q, fm_Mod_throwsIf s0 1 w = q := ⟨_, rfl⟩
  have hM := fa_l2_e hM e4
  refine g_callV_i X ck_10 fo_181 (fn_181 hN) rfl mi_Mod_throwsIf (c_Mod_throwsIf hN hT s0 1 w _ e4) wd_2096 rfl (Nat.le_trans (Nat.le_of_ble_eq_true rfl) hle) (st := []) (Nat.le_of_ble_eq_true rfl) rfl d_Mod_site_26 ?_
  refine g_ifb_ne X 55 d_Mod_site_29 (by decide) (fun hc7 => ?_) (fun hc7 => ?_)
  · have hM := fa_ifb_t hM hc7
    refine g_iconst X d_Mod_site_55 ?_
    cases hM
    exact g_iret X d_Mod_site_56
  · have hM := fa_ifb_f hM hc7
    refine g_aload_n X 0 rfl d_Mod_site_32 ?_
    refine g_iload_n X 2 rfl d_Mod_site_33 ?_
    refine g_iconst X d_Mod_site_34 ?_
    refine g_bipush X (by decide) d_Mod_site_35 ?_
    refine g_callS_i X mi_Mod_in (c_Mod_in hN hT a2 0 6 w6 _ rfl) wd_2093 rfl (Nat.le_trans (Nat.le_of_ble_eq_true rfl) hle) (st := [.ref (b + 181)]) (Nat.le_of_ble_eq_true rfl) rfl d_Mod_site_37 ?_
    refine g_ifb_ne X 47 d_Mod_site_40 (by decide) (fun hc9 => ?_) (fun hc9 => ?_)
    · have hM := fa_ifb_t hM hc9
      refine g_iconst X d_Mod_site_47 ?_
      exact g_lv [0, 1, 2] rfl (c_Mod_site_j48 X hle hN hT a1 a2    _ _ hM)
    · have hM := fa_ifb_f hM hc9
      refine g_iconst X d_Mod_site_43 ?_
      refine g_goto X 48 d_Mod_site_44 (by decide) ?_
      exact g_lv [0, 1, 2] rfl (c_Mod_site_j48 X hle hN hT a1 a2    _ _ hM)
def fm_Mod_site (a1 : Int) (a2 : Int) (w : fa_W) : Option (Int × fa_W) :=
  fa_let (fa_st w 181 0 0) fun w1 =>
  if fm_Mod_in a1 0 ((w1 181 20) - 1) w1 = true then
  fm_Mod_site_j25 a1 a2 false w1
  else
  fm_Mod_site_j25 a1 a2 true w1
set_option maxHeartbeats 4000000 in
set_option maxRecDepth 100000 in
theorem c_Mod_site {l : Launch} {D : va_G} {b : Nat} {aC : Nat → ClassId} {H0 : Heap} {N T : Nat} (hN : fa_NM ≤ N) (hT : fa_TM ≤ T) (a1 : Int) (a2 : Int)  (w : fa_W) (r : Int × fa_W) (hM : fm_Mod_site a1 a2 w = some r) : fa_MC l D b aC H0 N T y_Mod_site prog_12_method_109_code 3 ((Option.some Jvm.ClassFile.FieldType.int)) (2) [.ref (b + 181), .int (fa_I a1), .int (fa_I a2)] w (some (.int (fa_I r.1))) r.2 := by
  refine fa_enter (lv := [(0, .ref (b + 181)), (1, .int (fa_I a1)), (2, .int (fa_I a2))]) (by decide +kernel) (Nat.le_of_ble_eq_true rfl) rfl (fun hh hle hnm X => ?_)
  unfold fm_Mod_site at hM
  refine g_aload_n X 0 rfl d_Mod_site_0 ?_
  refine g_iconst X d_Mod_site_1 ?_
  refine g_put X ck_10 fo_181 (fn_181 hN) 0 (z := 0) (by decide) wd_1742 rfl (fa_fvI' rfl) rfl rfl rfl d_Mod_site_2 (fun w1 ew1 => ?_)
  have hM := fa_let_to hM ew1
  refine g_aload_n X 0 rfl d_Mod_site_5 ?_
  refine g_iload_n X 1 rfl d_Mod_site_6 ?_
  refine g_iconst X d_Mod_site_7 ?_
  refine g_aload_n X 0 rfl d_Mod_site_8 ?_
  refine g_get X ck_10 fo_181 (fn_181 hN) 20 (by decide) wd_1762 rfl (fa_fvI rfl) d_Mod_site_9 ?_
  refine g_iconst X d_Mod_site_12 ?_
  refine g_isub X d_Mod_site_13 ?_
  refine g_callS_i X mi_Mod_in (c_Mod_in hN hT a1 0 ((w1 181 20) - 1) w1 _ rfl) wd_2093 rfl (Nat.le_trans (Nat.le_of_ble_eq_true rfl) hle) (st := [.ref (b + 181)]) (Nat.le_of_ble_eq_true rfl) rfl d_Mod_site_14 ?_
  refine g_ifb_ne X 24 d_Mod_site_17 (by decide) (fun hc3 => ?_) (fun hc3 => ?_)
  · have hM := fa_ifb_t hM hc3
    refine g_iconst X d_Mod_site_24 ?_
    exact g_lv [0, 1, 2] rfl (c_Mod_site_j25 X hle hN hT a1 a2    _ _ hM)
  · have hM := fa_ifb_f hM hc3
    refine g_iconst X d_Mod_site_20 ?_
    refine g_goto X 25 d_Mod_site_21 (by decide) ?_
    exact g_lv [0, 1, 2] rfl (c_Mod_site_j25 X hle hN hT a1 a2    _ _ hM)
theorem d_Mod_split_0 : decode prog_12_method_111_code 0 = .ok (.aload_n 0, 1) := by decide +kernel
theorem d_Mod_split_1 : decode prog_12_method_111_code 1 = .ok (.iconst 0, 1) := by decide +kernel
theorem d_Mod_split_2 : decode prog_12_method_111_code 2 = .ok (.putfield 1, 3) := by decide +kernel
theorem d_Mod_split_5 : decode prog_12_method_111_code 5 = .ok (.aload_n 0, 1) := by decide +kernel
theorem d_Mod_split_6 : decode prog_12_method_111_code 6 = .ok (.iload_n 2, 1) := by decide +kernel
theorem d_Mod_split_7 : decode prog_12_method_111_code 7 = .ok (.iconst 0, 1) := by decide +kernel
theorem d_Mod_split_8 : decode prog_12_method_111_code 8 = .ok (.iconst 4, 1) := by decide +kernel
theorem d_Mod_split_9 : decode prog_12_method_111_code 9 = .ok (.invokestatic 530, 3) := by decide +kernel
theorem d_Mod_split_12 : decode prog_12_method_111_code 12 = .ok (.ifCond .ne 7, 3) := by decide +kernel
theorem d_Mod_split_15 : decode prog_12_method_111_code 15 = .ok (.iconst 1, 1) := by decide +kernel
theorem d_Mod_split_16 : decode prog_12_method_111_code 16 = .ok (.goto 4, 3) := by decide +kernel
theorem d_Mod_split_19 : decode prog_12_method_111_code 19 = .ok (.iconst 0, 1) := by decide +kernel
theorem d_Mod_split_20 : decode prog_12_method_111_code 20 = .ok (.iconst 1, 1) := by decide +kernel
theorem d_Mod_split_21 : decode prog_12_method_111_code 21 = .ok (.invokevirtual 533, 3) := by decide +kernel
theorem d_Mod_split_24 : decode prog_12_method_111_code 24 = .ok (.ifCond .ne 12, 3) := by decide +kernel
theorem d_Mod_split_27 : decode prog_12_method_111_code 27 = .ok (.aload_n 0, 1) := by decide +kernel
theorem d_Mod_split_28 : decode prog_12_method_111_code 28 = .ok (.iload_n 1, 1) := by decide +kernel
theorem d_Mod_split_29 : decode prog_12_method_111_code 29 = .ok (.iconst 2, 1) := by decide +kernel
theorem d_Mod_split_30 : decode prog_12_method_111_code 30 = .ok (.invokevirtual 543, 3) := by decide +kernel
theorem d_Mod_split_33 : decode prog_12_method_111_code 33 = .ok (.ifCond .eq 5, 3) := by decide +kernel
theorem d_Mod_split_36 : decode prog_12_method_111_code 36 = .ok (.iconst 0, 1) := by decide +kernel
theorem d_Mod_split_37 : decode prog_12_method_111_code 37 = .ok (.ireturn, 1) := by decide +kernel
theorem d_Mod_split_38 : decode prog_12_method_111_code 38 = .ok (.iconst 0, 1) := by decide +kernel
theorem d_Mod_split_39 : decode prog_12_method_111_code 39 = .ok (.istore_n 3, 1) := by decide +kernel
theorem d_Mod_split_40 : decode prog_12_method_111_code 40 = .ok (.iconst 0, 1) := by decide +kernel
theorem d_Mod_split_41 : decode prog_12_method_111_code 41 = .ok (.istore 4, 2) := by decide +kernel
theorem d_Mod_split_43 : decode prog_12_method_111_code 43 = .ok (.iconst 0, 1) := by decide +kernel
theorem d_Mod_split_44 : decode prog_12_method_111_code 44 = .ok (.istore 5, 2) := by decide +kernel
theorem d_Mod_split_46 : decode prog_12_method_111_code 46 = .ok (.iconst 0, 1) := by decide +kernel
theorem d_Mod_split_47 : decode prog_12_method_111_code 47 = .ok (.istore 6, 2) := by decide +kernel
theorem d_Mod_split_49 : decode prog_12_method_111_code 49 = .ok (.iload 6, 2) := by decide +kernel
theorem d_Mod_split_51 : decode prog_12_method_111_code 51 = .ok (.aload_n 0, 1) := by decide +kernel
theorem d_Mod_split_52 : decode prog_12_method_111_code 52 = .ok (.getfield 356, 3) := by decide +kernel
theorem d_Mod_split_55 : decode prog_12_method_111_code 55 = .ok (.iload_n 1, 1) := by decide +kernel
theorem d_Mod_split_56 : decode prog_12_method_111_code 56 = .ok (.iaload, 1) := by decide +kernel
theorem d_Mod_split_57 : decode prog_12_method_111_code 57 = .ok (.if_icmp .ge 62, 3) := by decide +kernel
theorem d_Mod_split_60 : decode prog_12_method_111_code 60 = .ok (.aload_n 0, 1) := by decide +kernel
theorem d_Mod_split_61 : decode prog_12_method_111_code 61 = .ok (.iload_n 1, 1) := by decide +kernel
theorem d_Mod_split_62 : decode prog_12_method_111_code 62 = .ok (.iload 6, 2) := by decide +kernel
theorem d_Mod_split_64 : decode prog_12_method_111_code 64 = .ok (.invokevirtual 522, 3) := by decide +kernel
theorem d_Mod_split_67 : decode prog_12_method_111_code 67 = .ok (.aload_n 0, 1) := by decide +kernel
theorem d_Mod_split_68 : decode prog_12_method_111_code 68 = .ok (.getfield 323, 3) := by decide +kernel
theorem d_Mod_split_71 : decode prog_12_method_111_code 71 = .ok (.iand, 1) := by decide +kernel
theorem d_Mod_split_72 : decode prog_12_method_111_code 72 = .ok (.invokestatic 294, 3) := by decide +kernel
theorem d_Mod_split_75 : decode prog_12_method_111_code 75 = .ok (.istore 7, 2) := by decide +kernel
theorem d_Mod_split_77 : decode prog_12_method_111_code 77 = .ok (.iload_n 3, 1) := by decide +kernel
theorem d_Mod_split_78 : decode prog_12_method_111_code 78 = .ok (.iload 7, 2) := by decide +kernel
theorem d_Mod_split_80 : decode prog_12_method_111_code 80 = .ok (.ifCond .le 7, 3) := by decide +kernel
theorem d_Mod_split_83 : decode prog_12_method_111_code 83 = .ok (.iconst 1, 1) := by decide +kernel
theorem d_Mod_split_84 : decode prog_12_method_111_code 84 = .ok (.goto 4, 3) := by decide +kernel
theorem d_Mod_split_87 : decode prog_12_method_111_code 87 = .ok (.iconst 0, 1) := by decide +kernel
theorem d_Mod_split_88 : decode prog_12_method_111_code 88 = .ok (.iadd, 1) := by decide +kernel
theorem d_Mod_split_89 : decode prog_12_method_111_code 89 = .ok (.istore_n 3, 1) := by decide +kernel
theorem d_Mod_split_90 : decode prog_12_method_111_code 90 = .ok (.iload 4, 2) := by decide +kernel
theorem d_Mod_split_92 : decode prog_12_method_111_code 92 = .ok (.iload 7, 2) := by decide +kernel
theorem d_Mod_split_94 : decode prog_12_method_111_code 94 = .ok (.iadd, 1) := by decide +kernel
theorem d_Mod_split_95 : decode prog_12_method_111_code 95 = .ok (.istore 4, 2) := by decide +kernel
theorem d_Mod_split_97 : decode prog_12_method_111_code 97 = .ok (.iload 7, 2) := by decide +kernel
theorem d_Mod_split_99 : decode prog_12_method_111_code 99 = .ok (.iload 5, 2) := by decide +kernel
theorem d_Mod_split_101 : decode prog_12_method_111_code 101 = .ok (.if_icmp .le 8, 3) := by decide +kernel
theorem d_Mod_split_104 : decode prog_12_method_111_code 104 = .ok (.iload 7, 2) := by decide +kernel
theorem d_Mod_split_106 : decode prog_12_method_111_code 106 = .ok (.goto 5, 3) := by decide +kernel
theorem d_Mod_split_109 : decode prog_12_method_111_code 109 = .ok (.iload 5, 2) := by decide +kernel
theorem d_Mod_split_111 : decode prog_12_method_111_code 111 = .ok (.istore 5, 2) := by decide +kernel
theorem d_Mod_split_113 : decode prog_12_method_111_code 113 = .ok (.iinc 6 1, 3) := by decide +kernel
theorem d_Mod_split_116 : decode prog_12_method_111_code 116 = .ok (.goto (-67), 3) := by decide +kernel
theorem d_Mod_split_119 : decode prog_12_method_111_code 119 = .ok (.iload_n 2, 1) := by decide +kernel
theorem d_Mod_split_120 : decode prog_12_method_111_code 120 = .ok (.ifCond .ne 12, 3) := by decide +kernel
theorem d_Mod_split_123 : decode prog_12_method_111_code 123 = .ok (.aload_n 0, 1) := by decide +kernel
theorem d_Mod_split_124 : decode prog_12_method_111_code 124 = .ok (.getfield 356, 3) := by decide +kernel
theorem d_Mod_split_127 : decode prog_12_method_111_code 127 = .ok (.iload_n 1, 1) := by decide +kernel
theorem d_Mod_split_128 : decode prog_12_method_111_code 128 = .ok (.iaload, 1) := by decide +kernel
theorem d_Mod_split_129 : decode prog_12_method_111_code 129 = .ok (.goto 46, 3) := by decide +kernel
theorem d_Mod_split_132 : decode prog_12_method_111_code 132 = .ok (.iload_n 2, 1) := by decide +kernel
theorem d_Mod_split_133 : decode prog_12_method_111_code 133 = .ok (.iconst 1, 1) := by decide +kernel
theorem d_Mod_split_134 : decode prog_12_method_111_code 134 = .ok (.if_icmp .ne 7, 3) := by decide +kernel
theorem d_Mod_split_137 : decode prog_12_method_111_code 137 = .ok (.iload_n 3, 1) := by decide +kernel
theorem d_Mod_split_138 : decode prog_12_method_111_code 138 = .ok (.goto 37, 3) := by decide +kernel
theorem d_Mod_split_141 : decode prog_12_method_111_code 141 = .ok (.iload_n 2, 1) := by decide +kernel
theorem d_Mod_split_142 : decode prog_12_method_111_code 142 = .ok (.iconst 2, 1) := by decide +kernel
theorem d_Mod_split_143 : decode prog_12_method_111_code 143 = .ok (.if_icmp .ne 8, 3) := by decide +kernel
theorem d_Mod_split_146 : decode prog_12_method_111_code 146 = .ok (.iload 4, 2) := by decide +kernel
theorem d_Mod_split_148 : decode prog_12_method_111_code 148 = .ok (.goto 27, 3) := by decide +kernel
theorem d_Mod_split_151 : decode prog_12_method_111_code 151 = .ok (.iload_n 2, 1) := by decide +kernel
theorem d_Mod_split_152 : decode prog_12_method_111_code 152 = .ok (.iconst 3, 1) := by decide +kernel
theorem d_Mod_split_153 : decode prog_12_method_111_code 153 = .ok (.if_icmp .ne 8, 3) := by decide +kernel
theorem d_Mod_split_156 : decode prog_12_method_111_code 156 = .ok (.iload 5, 2) := by decide +kernel
theorem d_Mod_split_158 : decode prog_12_method_111_code 158 = .ok (.goto 17, 3) := by decide +kernel
theorem d_Mod_split_161 : decode prog_12_method_111_code 161 = .ok (.aload_n 0, 1) := by decide +kernel
theorem d_Mod_split_162 : decode prog_12_method_111_code 162 = .ok (.getfield 300, 3) := by decide +kernel
theorem d_Mod_split_165 : decode prog_12_method_111_code 165 = .ok (.aload_n 0, 1) := by decide +kernel
theorem d_Mod_split_166 : decode prog_12_method_111_code 166 = .ok (.getfield 323, 3) := by decide +kernel
theorem d_Mod_split_169 : decode prog_12_method_111_code 169 = .ok (.iconst (-1), 1) := by decide +kernel
theorem d_Mod_split_170 : decode prog_12_method_111_code 170 = .ok (.ixor, 1) := by decide +kernel
theorem d_Mod_split_171 : decode prog_12_method_111_code 171 = .ok (.iand, 1) := by decide +kernel
theorem d_Mod_split_172 : decode prog_12_method_111_code 172 = .ok (.invokestatic 294, 3) := by decide +kernel
theorem d_Mod_split_175 : decode prog_12_method_111_code 175 = .ok (.ireturn, 1) := by decide +kernel
def fm_Mod_split_j88 (a1 : Int) (a2 : Int) (k49 : Int → Int → Int → Int → fa_W → Option (Int × fa_W)) (x4 : Int) (x5 : Int) (x6 : Int) (x7 : Int) (s0 : Bool) (s1 : Int) (w : fa_W) : Option (Int × fa_W) :=
  fa_let (s1 + (fa_bi s0)) fun x3_26 =>
  fa_let (x4 + x7) fun x4_27 =>
  if fa_wr x7 ≤ fa_wr x5 then
  (fa_let (x6 + 1) fun x6_29 =>
  k49 x3_26 x4_27 x5 x6_29 w)
  else
  (fa_let (x6 + 1) fun x6_30 =>
  k49 x3_26 x4_27 x7 x6_30 w)
set_option maxHeartbeats 4000000 in
set_option maxRecDepth 100000 in
theorem c_Mod_split_j88 {p : Program} {l : Launch} {e : Env} {s : State} {m : MethodId} {args : Array Value} {below : List Frame} {meth : Method} {c : Code} {hh : Nat} {D : va_G} {b : Nat} {aC : Nat → ClassId} {H0 : Heap} {N T : Nat} (X : fa_GX p s m args meth c prog_12_method_111_code 8 ((Option.some Jvm.ClassFile.FieldType.int)) y_Mod_split.cls D b aC) (hle : 2 ≤ hh) (hN : fa_NM ≤ N) (hT : fa_TM ≤ T) (a1 : Int) (a2 : Int) {r : Int × fa_W} (k49 : Int → Int → Int → Int → fa_W → Option (Int × fa_W)) (K49 : ∀ (x3 : Int) (x4 : Int) (x5 : Int) (x6 : Int) (w : fa_W), k49 x3 x4 x5 x6 w = some r → fa_GJ p l e (fa_rm hh) s m args below meth c 0 0 (MQ below (fa_Qc D b aC H0 N T (some (.int (fa_I r.1))) r.2) args s 0 0 (fun q => b ≤ q)) D b aC H0 N T 8 w 49 [(0, .ref (b + 181)), (1, .int (fa_I a1)), (2, .int (fa_I a2)), (3, .int (fa_I x3)), (4, .int (fa_I x4)), (5, .int (fa_I x5)), (6, .int (fa_I x6))] []) : ∀ (x4 : Int) (x5 : Int) (x6 : Int) (x7 : Int) (s0 : Bool) (s1 : Int) (w : fa_W) (_ : fm_Mod_split_j88 a1 a2 k49 x4 x5 x6 x7 s0 s1 w = some r), fa_GJ p l e (fa_rm hh) s m args below meth c 0 0 (MQ below (fa_Qc D b aC H0 N T (some (.int (fa_I r.1))) r.2) args s 0 0 (fun q => b ≤ q)) D b aC H0 N T 8 w 88 [(0, .ref (b + 181)), (1, .int (fa_I a1)), (2, .int (fa_I a2)), (4, .int (fa_I x4)), (5, .int (fa_I x5)), (6, .int (fa_I x6)), (7, .int (fa_I x7))] [.int (fa_I (fa_bi s0)), .int (fa_I s1)] := by
  intro x4 x5 x6 x7 s0 s1 w hM
  unfold fm_Mod_split_j88 at hM
  refine g_iadd X d_Mod_split_88 ?_
  refine g_istore_n X (fun x3_26 => [(3, .int (fa_I x3_26)), (0, .ref (b + 181)), (1, .int (fa_I a1)), (2, .int (fa_I a2)), (4, .int (fa_I x4)), (5, .int (fa_I x5)), (6, .int (fa_I x6)), (7, .int (fa_I x7))]) d_Mod_split_89 (by decide) (fun _ => rfl) (fun x3_26 ex3_26 => ?_)
  have hM := fa_let_to hM ex3_26
  refine g_iload X 4 rfl d_Mod_split_90 ?_
  refine g_iload X 7 rfl d_Mod_split_92 ?_
  refine g_iadd X d_Mod_split_94 ?_
  refine g_istore X (fun x4_27 => [(4, .int (fa_I x4_27)), (3, .int (fa_I x3_26)), (0, .ref (b + 181)), (1, .int (fa_I a1)), (2, .int (fa_I a2)), (5, .int (fa_I x5)), (6, .int (fa_I x6)), (7, .int (fa_I x7))]) d_Mod_split_95 (by decide) (fun _ => rfl) (fun x4_27 ex4_27 => ?_)
  have hM := fa_let_to hM ex4_27
  refine g_iload X 7 rfl d_Mod_split_97 ?_
  refine g_iload X 5 rfl d_Mod_split_99 ?_
  refine g_icmp_le X 109 d_Mod_split_101 (by decide) (fun hc28 => ?_) (fun hc28 => ?_)
  · have hM := fa_if_t hM hc28
    refine g_iload X 5 rfl d_Mod_split_109 ?_
    refine g_istorec X [(5, .int (fa_I x5)), (4, .int (fa_I x4_27)), (3, .int (fa_I x3_26)), (0, .ref (b + 181)), (1, .int (fa_I a1)), (2, .int (fa_I a2)), (6, .int (fa_I x6)), (7, .int (fa_I x7))] d_Mod_split_111 (by decide) rfl ?_
    refine g_iinc X 6 (fun x6_29 => [(6, .int (fa_I x6_29)), (5, .int (fa_I x5)), (4, .int (fa_I x4_27)), (3, .int (fa_I x3_26)), (0, .ref (b + 181)), (1, .int (fa_I a1)), (2, .int (fa_I a2)), (7, .int (fa_I x7))]) d_Mod_split_113 rfl (by decide) (fun _ => rfl) (fun x6_29 ex6_29 => ?_)
    have hM := fa_let_to hM ex6_29
    refine g_goto X 49 d_Mod_split_116 (by decide) ?_
    exact g_lv [4, 5, 6, 3, 2, 1, 0] rfl (K49 _ _ _ _ _ hM)
  · have hM := fa_if_f hM hc28
    refine g_iload X 7 rfl d_Mod_split_104 ?_
    refine g_goto X 111 d_Mod_split_106 (by decide) ?_
    refine g_istorec X [(5, .int (fa_I x7)), (4, .int (fa_I x4_27)), (3, .int (fa_I x3_26)), (0, .ref (b + 181)), (1, .int (fa_I a1)), (2, .int (fa_I a2)), (6, .int (fa_I x6)), (7, .int (fa_I x7))] d_Mod_split_111 (by decide) rfl ?_
    refine g_iinc X 6 (fun x6_30 => [(6, .int (fa_I x6_30)), (5, .int (fa_I x7)), (4, .int (fa_I x4_27)), (3, .int (fa_I x3_26)), (0, .ref (b + 181)), (1, .int (fa_I a1)), (2, .int (fa_I a2)), (7, .int (fa_I x7))]) d_Mod_split_113 rfl (by decide) (fun _ => rfl) (fun x6_30 ex6_30 => ?_)
    have hM := fa_let_to hM ex6_30
    refine g_goto X 49 d_Mod_split_116 (by decide) ?_
    exact g_lv [4, 5, 6, 3, 2, 1, 0] rfl (K49 _ _ _ _ _ hM)
def fm_Mod_split_l49 (a1 : Int) (a2 : Int) : Nat → Int → Int → Int → Int → fa_W → Option (Int × fa_W)
  | 0, _, _, _, _, _ => none
  | n + 1, x3, x4, x5, x6, w => (fa_ix a1 3).bind fun j12 =>
  if fa_wr (w 216 j12) ≤ fa_wr x6 then
  (if fa_wr a2 = 0 then
  ((fa_ix a1 3).bind fun j20 =>
  some (w 216 j20, w))
  else
  (if fa_wr a2 = 1 then
  some (x3, w)
  else
  (if fa_wr a2 = 2 then
  some (x4, w)
  else
  (if fa_wr a2 = 3 then
  some (x5, w)
  else
  ((fm_Mod_bits (fa_iand (w 181 52) (fa_ixor (w 181 53) (-1))) w).bind fun v19 =>
  some (v19, w))))))
  else
  ((fm_Mod_groupSet a1 x6 w).bind fun v22 =>
  (fm_Mod_bits (fa_iand v22 (w 181 53)) w).bind fun v24 =>
  if fa_wr v24 ≤ 0 then
  fm_Mod_split_j88 a1 a2 (fun x3 x4 x5 x6 w9 => fm_Mod_split_l49 a1 a2 n x3 x4 x5 x6 w9) x4 x5 x6 v24 false x3 w
  else
  fm_Mod_split_j88 a1 a2 (fun x3 x4 x5 x6 w9 => fm_Mod_split_l49 a1 a2 n x3 x4 x5 x6 w9) x4 x5 x6 v24 true x3 w)
set_option maxHeartbeats 4000000 in
set_option maxRecDepth 100000 in
theorem c_Mod_split_l49 {p : Program} {l : Launch} {e : Env} {s : State} {m : MethodId} {args : Array Value} {below : List Frame} {meth : Method} {c : Code} {hh : Nat} {D : va_G} {b : Nat} {aC : Nat → ClassId} {H0 : Heap} {N T : Nat} (X : fa_GX p s m args meth c prog_12_method_111_code 8 ((Option.some Jvm.ClassFile.FieldType.int)) y_Mod_split.cls D b aC) (hle : 2 ≤ hh) (hN : fa_NM ≤ N) (hT : fa_TM ≤ T) (a1 : Int) (a2 : Int) {r : Int × fa_W}  : ∀ (n : Nat) (x3 : Int) (x4 : Int) (x5 : Int) (x6 : Int) (w : fa_W), fm_Mod_split_l49 a1 a2 n x3 x4 x5 x6 w = some r → fa_GJ p l e (fa_rm hh) s m args below meth c 0 0 (MQ below (fa_Qc D b aC H0 N T (some (.int (fa_I r.1))) r.2) args s 0 0 (fun q => b ≤ q)) D b aC H0 N T 8 w 49 [(0, .ref (b + 181)), (1, .int (fa_I a1)), (2, .int (fa_I a2)), (3, .int (fa_I x3)), (4, .int (fa_I x4)), (5, .int (fa_I x5)), (6, .int (fa_I x6))] [] := by
  intro n
  induction n with
  | zero => intro x3 x4 x5 x6 w hM; exact fa_no hM
  | succ n ih =>
    intro x3 x4 x5 x6 w hM
    rw [fm_Mod_split_l49] at hM
    refine g_iload X 6 rfl d_Mod_split_49 ?_
    refine g_aload_n X 0 rfl d_Mod_split_51 ?_
    refine g_get X ck_10 fo_181 (fn_181 hN) 59 (by decide) wd_1800 rfl (fr_181_59 rfl hT) d_Mod_split_52 ?_
    refine g_iload_n X 1 rfl d_Mod_split_55 ?_
    obtain ⟨j12, ej12, hM⟩ := fa_ob hM
    refine g_iald X fs_216 (fn_216 hN) ej12 d_Mod_split_56 ?_
    refine g_icmp_ge X 119 d_Mod_split_57 (by decide) (fun hc13 => ?_) (fun hc13 => ?_)
    · have hM := fa_if_t hM hc13
      refine g_iload_n X 2 rfl d_Mod_split_119 ?_
      refine g_if_ne X 132 d_Mod_split_120 (by decide) (fun hc14 => ?_) (fun hc14 => ?_)
      · have hM := fa_if_f hM hc14
        refine g_iload_n X 2 rfl d_Mod_split_132 ?_
        refine g_iconst X d_Mod_split_133 ?_
        refine g_icmp_ne X 141 d_Mod_split_134 (by decide) (fun hc15 => ?_) (fun hc15 => ?_)
        · have hM := fa_if_f hM hc15
          refine g_iload_n X 2 rfl d_Mod_split_141 ?_
          refine g_iconst X d_Mod_split_142 ?_
          refine g_icmp_ne X 151 d_Mod_split_143 (by decide) (fun hc16 => ?_) (fun hc16 => ?_)
          · have hM := fa_if_f hM hc16
            refine g_iload_n X 2 rfl d_Mod_split_151 ?_
            refine g_iconst X d_Mod_split_152 ?_
            refine g_icmp_ne X 161 d_Mod_split_153 (by decide) (fun hc17 => ?_) (fun hc17 => ?_)
            · have hM := fa_if_f hM hc17
              refine g_aload_n X 0 rfl d_Mod_split_161 ?_
              refine g_get X ck_10 fo_181 (fn_181 hN) 52 (by decide) wd_1793 rfl (fa_fvI rfl) d_Mod_split_162 ?_
              refine g_aload_n X 0 rfl d_Mod_split_165 ?_
              refine g_get X ck_10 fo_181 (fn_181 hN) 53 (by decide) wd_1794 rfl (fa_fvI rfl) d_Mod_split_166 ?_
              refine g_iconst X d_Mod_split_169 ?_
              refine g_ixor X d_Mod_split_170 ?_
              refine g_iand X d_Mod_split_171 ?_
              obtain ⟨v19, e18, hM⟩ := fa_ob hM
              refine g_callS_i X mi_Mod_bits (c_Mod_bits hN hT (fa_iand (w 181 52) (fa_ixor (w 181 53) (-1))) w _ e18) wd_1684 rfl (Nat.le_trans (Nat.le_of_ble_eq_true rfl) hle) (st := []) (Nat.le_of_ble_eq_true rfl) rfl d_Mod_split_172 ?_
              cases hM
              exact g_iret X d_Mod_split_175
            · have hM := fa_if_t hM hc17
              refine g_iload X 5 rfl d_Mod_split_156 ?_
              refine g_goto X 175 d_Mod_split_158 (by decide) ?_
              cases hM
              exact g_iret X d_Mod_split_175
          · have hM := fa_if_t hM hc16
            refine g_iload X 4 rfl d_Mod_split_146 ?_
            refine g_goto X 175 d_Mod_split_148 (by decide) ?_
            cases hM
            exact g_iret X d_Mod_split_175
        · have hM := fa_if_t hM hc15
          refine g_iload_n X 3 rfl d_Mod_split_137 ?_
          refine g_goto X 175 d_Mod_split_138 (by decide) ?_
          cases hM
          exact g_iret X d_Mod_split_175
      · have hM := fa_if_t hM hc14
        refine g_aload_n X 0 rfl d_Mod_split_123 ?_
        refine g_get X ck_10 fo_181 (fn_181 hN) 59 (by decide) wd_1800 rfl (fr_181_59 rfl hT) d_Mod_split_124 ?_
        refine g_iload_n X 1 rfl d_Mod_split_127 ?_
        obtain ⟨j20, ej20, hM⟩ := fa_ob hM
        refine g_iald X fs_216 (fn_216 hN) ej20 d_Mod_split_128 ?_
        refine g_goto X 175 d_Mod_split_129 (by decide) ?_
        cases hM
        exact g_iret X d_Mod_split_175
    · have hM := fa_if_f hM hc13
      refine g_aload_n X 0 rfl d_Mod_split_60 ?_
      refine g_iload_n X 1 rfl d_Mod_split_61 ?_
      refine g_iload X 6 rfl d_Mod_split_62 ?_
      obtain ⟨v22, e21, hM⟩ := fa_ob hM
      refine g_callV_i X ck_10 fo_181 (fn_181 hN) rfl mi_Mod_groupSet (c_Mod_groupSet hN hT a1 x6 w _ e21) wd_2132 rfl (Nat.le_trans (Nat.le_of_ble_eq_true rfl) hle) (st := []) (Nat.le_of_ble_eq_true rfl) rfl d_Mod_split_64 ?_
      refine g_aload_n X 0 rfl d_Mod_split_67 ?_
      refine g_get X ck_10 fo_181 (fn_181 hN) 53 (by decide) wd_1794 rfl (fa_fvI rfl) d_Mod_split_68 ?_
      refine g_iand X d_Mod_split_71 ?_
      obtain ⟨v24, e23, hM⟩ := fa_ob hM
      refine g_callS_i X mi_Mod_bits (c_Mod_bits hN hT (fa_iand v22 (w 181 53)) w _ e23) wd_1684 rfl (Nat.le_trans (Nat.le_of_ble_eq_true rfl) hle) (st := []) (Nat.le_of_ble_eq_true rfl) rfl d_Mod_split_72 ?_
      refine g_istorec X [(7, .int (fa_I v24)), (0, .ref (b + 181)), (1, .int (fa_I a1)), (2, .int (fa_I a2)), (3, .int (fa_I x3)), (4, .int (fa_I x4)), (5, .int (fa_I x5)), (6, .int (fa_I x6))] d_Mod_split_75 (by decide) rfl ?_
      refine g_iload_n X 4 rfl d_Mod_split_77 ?_
      refine g_iload X 0 rfl d_Mod_split_78 ?_
      refine g_if_le X 87 d_Mod_split_80 (by decide) (fun hc25 => ?_) (fun hc25 => ?_)
      · have hM := fa_if_t hM hc25
        refine g_iconst X d_Mod_split_87 ?_
        exact g_lv [1, 2, 3, 5, 6, 7, 0] rfl (c_Mod_split_j88 X hle hN hT a1 a2  (fun x3 x4 x5 x6 w9 => fm_Mod_split_l49 a1 a2 n x3 x4 x5 x6 w9) (fun _ _ _ _ _ h => ih _ _ _ _ _ h)  _ _ _ _ _ _ _ hM)
      · have hM := fa_if_f hM hc25
        refine g_iconst X d_Mod_split_83 ?_
        refine g_goto X 88 d_Mod_split_84 (by decide) ?_
        exact g_lv [1, 2, 3, 5, 6, 7, 0] rfl (c_Mod_split_j88 X hle hN hT a1 a2  (fun x3 x4 x5 x6 w9 => fm_Mod_split_l49 a1 a2 n x3 x4 x5 x6 w9) (fun _ _ _ _ _ h => ih _ _ _ _ _ h)  _ _ _ _ _ _ _ hM)
def fm_Mod_split_j20 (a1 : Int) (a2 : Int) (s0 : Bool) (w : fa_W) : Option (Int × fa_W) :=
  fa_l2 (fm_Mod_throwsIf s0 1 w) fun v5 w6 =>
  if v5 = true then
  some (0, w6)
  else
  (fa_l2 (fm_Mod_noSplit a1 2 w6) fun v9 w10 =>
  if v9 = true then
  some (0, w10)
  else
  fm_Mod_split_l49 a1 a2 fa_FU 0 0 0 0 w10)
set_option maxHeartbeats 4000000 in
set_option maxRecDepth 100000 in
theorem c_Mod_split_j20 {p : Program} {l : Launch} {e : Env} {s : State} {m : MethodId} {args : Array Value} {below : List Frame} {meth : Method} {c : Code} {hh : Nat} {D : va_G} {b : Nat} {aC : Nat → ClassId} {H0 : Heap} {N T : Nat} (X : fa_GX p s m args meth c prog_12_method_111_code 8 ((Option.some Jvm.ClassFile.FieldType.int)) y_Mod_split.cls D b aC) (hle : 2 ≤ hh) (hN : fa_NM ≤ N) (hT : fa_TM ≤ T) (a1 : Int) (a2 : Int) {r : Int × fa_W}  : ∀ (s0 : Bool) (w : fa_W) (_ : fm_Mod_split_j20 a1 a2 s0 w = some r), fa_GJ p l e (fa_rm hh) s m args below meth c 0 0 (MQ below (fa_Qc D b aC H0 N T (some (.int (fa_I r.1))) r.2) args s 0 0 (fun q => b ≤ q)) D b aC H0 N T 8 w 20 [(0, .ref (b + 181)), (1, .int (fa_I a1)), (2, .int (fa_I a2))] [.int (fa_I (fa_bi s0)), .ref (b + 181)] := by
  intro s0 w hM
  unfold fm_Mod_split_j20 at hM
  refine g_iconst X d_Mod_split_20 ?_
  obtain ⟨⟨v5, w6⟩, e4⟩ : ∃ q, fm_Mod_throwsIf s0 1 w = q := ⟨_, rfl⟩
  have hM := fa_l2_e hM e4
  refine g_callV_i X ck_10 fo_181 (fn_181 hN) rfl mi_Mod_throwsIf (c_Mod_throwsIf hN hT s0 1 w _ e4) wd_2096 rfl (Nat.le_trans (Nat.le_of_ble_eq_true rfl) hle) (st := []) (Nat.le_of_ble_eq_true rfl) rfl d_Mod_split_21 ?_
  refine g_ifb_ne X 36 d_Mod_split_24 (by decide) (fun hc7 => ?_) (fun hc7 => ?_)
  · have hM := fa_ifb_t hM hc7
    refine g_iconst X d_Mod_split_36 ?_
    cases hM
    exact g_iret X d_Mod_split_37
  · have hM := fa_ifb_f hM hc7
    refine g_aload_n X 0 rfl d_Mod_split_27 ?_
    refine g_iload_n X 1 rfl d_Mod_split_28 ?_
    refine g_iconst X d_Mod_split_29 ?_
    obtain ⟨⟨v9, w10⟩, e8⟩ : ∃ q, fm_Mod_noSplit a1 2 w6 = q := ⟨_, rfl⟩
    have hM := fa_l2_e hM e8
    refine g_callV_i X ck_10 fo_181 (fn_181 hN) rfl mi_Mod_noSplit (c_Mod_noSplit hN hT a1 2 w6 _ e8) wd_2124 rfl (Nat.le_trans (Nat.le_of_ble_eq_true rfl) hle) (st := []) (Nat.le_of_ble_eq_true rfl) rfl d_Mod_split_30 ?_
    refine g_ifb_eq X 38 d_Mod_split_33 (by decide) (fun hc11 => ?_) (fun hc11 => ?_)
    · have hM := fa_ifb_f hM hc11
      refine g_iconst X d_Mod_split_38 ?_
      refine g_istorec_n X [(3, .int (fa_I 0)), (0, .ref (b + 181)), (1, .int (fa_I a1)), (2, .int (fa_I a2))] d_Mod_split_39 (by decide) rfl ?_
      refine g_iconst X d_Mod_split_40 ?_
      refine g_istorec X [(4, .int (fa_I 0)), (3, .int (fa_I 0)), (0, .ref (b + 181)), (1, .int (fa_I a1)), (2, .int (fa_I a2))] d_Mod_split_41 (by decide) rfl ?_
      refine g_iconst X d_Mod_split_43 ?_
      refine g_istorec X [(5, .int (fa_I 0)), (4, .int (fa_I 0)), (3, .int (fa_I 0)), (0, .ref (b + 181)), (1, .int (fa_I a1)), (2, .int (fa_I a2))] d_Mod_split_44 (by decide) rfl ?_
      refine g_iconst X d_Mod_split_46 ?_
      refine g_istorec X [(6, .int (fa_I 0)), (5, .int (fa_I 0)), (4, .int (fa_I 0)), (3, .int (fa_I 0)), (0, .ref (b + 181)), (1, .int (fa_I a1)), (2, .int (fa_I a2))] d_Mod_split_47 (by decide) rfl ?_
      exact g_lv [4, 5, 6, 3, 2, 1, 0] rfl (c_Mod_split_l49 X hle hN hT a1 a2   fa_FU _ _ _ _ _ hM)
    · have hM := fa_ifb_t hM hc11
      refine g_iconst X d_Mod_split_36 ?_
      cases hM
      exact g_iret X d_Mod_split_37
def fm_Mod_split (a1 : Int) (a2 : Int) (w : fa_W) : Option (Int × fa_W) :=
  fa_let (fa_st w 181 0 0) fun w1 =>
  if fm_Mod_in a2 0 4 w1 = true then
  fm_Mod_split_j20 a1 a2 false w1
  else
  fm_Mod_split_j20 a1 a2 true w1
set_option maxHeartbeats 4000000 in
set_option maxRecDepth 100000 in
theorem c_Mod_split {l : Launch} {D : va_G} {b : Nat} {aC : Nat → ClassId} {H0 : Heap} {N T : Nat} (hN : fa_NM ≤ N) (hT : fa_TM ≤ T) (a1 : Int) (a2 : Int)  (w : fa_W) (r : Int × fa_W) (hM : fm_Mod_split a1 a2 w = some r) : fa_MC l D b aC H0 N T y_Mod_split prog_12_method_111_code 8 ((Option.some Jvm.ClassFile.FieldType.int)) (2) [.ref (b + 181), .int (fa_I a1), .int (fa_I a2)] w (some (.int (fa_I r.1))) r.2 := by
  refine fa_enter (lv := [(0, .ref (b + 181)), (1, .int (fa_I a1)), (2, .int (fa_I a2))]) (by decide +kernel) (Nat.le_of_ble_eq_true rfl) rfl (fun hh hle hnm X => ?_)
  unfold fm_Mod_split at hM
  refine g_aload_n X 0 rfl d_Mod_split_0 ?_
  refine g_iconst X d_Mod_split_1 ?_
  refine g_put X ck_10 fo_181 (fn_181 hN) 0 (z := 0) (by decide) wd_1742 rfl (fa_fvI' rfl) rfl rfl rfl d_Mod_split_2 (fun w1 ew1 => ?_)
  have hM := fa_let_to hM ew1
  refine g_aload_n X 0 rfl d_Mod_split_5 ?_
  refine g_iload_n X 2 rfl d_Mod_split_6 ?_
  refine g_iconst X d_Mod_split_7 ?_
  refine g_iconst X d_Mod_split_8 ?_
  refine g_callS_i X mi_Mod_in (c_Mod_in hN hT a2 0 4 w1 _ rfl) wd_2093 rfl (Nat.le_trans (Nat.le_of_ble_eq_true rfl) hle) (st := [.ref (b + 181)]) (Nat.le_of_ble_eq_true rfl) rfl d_Mod_split_9 ?_
  refine g_ifb_ne X 19 d_Mod_split_12 (by decide) (fun hc3 => ?_) (fun hc3 => ?_)
  · have hM := fa_ifb_t hM hc3
    refine g_iconst X d_Mod_split_19 ?_
    exact g_lv [0, 1, 2] rfl (c_Mod_split_j20 X hle hN hT a1 a2    _ _ hM)
  · have hM := fa_ifb_f hM hc3
    refine g_iconst X d_Mod_split_15 ?_
    refine g_goto X 20 d_Mod_split_16 (by decide) ?_
    exact g_lv [0, 1, 2] rfl (c_Mod_split_j20 X hle hN hT a1 a2    _ _ hM)
theorem d_Mod_group_0 : decode prog_12_method_112_code 0 = .ok (.aload_n 0, 1) := by decide +kernel
theorem d_Mod_group_1 : decode prog_12_method_112_code 1 = .ok (.iconst 0, 1) := by decide +kernel
theorem d_Mod_group_2 : decode prog_12_method_112_code 2 = .ok (.putfield 1, 3) := by decide +kernel
theorem d_Mod_group_5 : decode prog_12_method_112_code 5 = .ok (.aload_n 0, 1) := by decide +kernel
theorem d_Mod_group_6 : decode prog_12_method_112_code 6 = .ok (.iload_n 1, 1) := by decide +kernel
theorem d_Mod_group_7 : decode prog_12_method_112_code 7 = .ok (.iconst 1, 1) := by decide +kernel
theorem d_Mod_group_8 : decode prog_12_method_112_code 8 = .ok (.invokevirtual 543, 3) := by decide +kernel
theorem d_Mod_group_11 : decode prog_12_method_112_code 11 = .ok (.ifCond .ne 32, 3) := by decide +kernel
theorem d_Mod_group_14 : decode prog_12_method_112_code 14 = .ok (.aload_n 0, 1) := by decide +kernel
theorem d_Mod_group_15 : decode prog_12_method_112_code 15 = .ok (.iload_n 2, 1) := by decide +kernel
theorem d_Mod_group_16 : decode prog_12_method_112_code 16 = .ok (.iconst 0, 1) := by decide +kernel
theorem d_Mod_group_17 : decode prog_12_method_112_code 17 = .ok (.aload_n 0, 1) := by decide +kernel
theorem d_Mod_group_18 : decode prog_12_method_112_code 18 = .ok (.getfield 356, 3) := by decide +kernel
theorem d_Mod_group_21 : decode prog_12_method_112_code 21 = .ok (.iload_n 1, 1) := by decide +kernel
theorem d_Mod_group_22 : decode prog_12_method_112_code 22 = .ok (.iaload, 1) := by decide +kernel
theorem d_Mod_group_23 : decode prog_12_method_112_code 23 = .ok (.iconst 1, 1) := by decide +kernel
theorem d_Mod_group_24 : decode prog_12_method_112_code 24 = .ok (.isub, 1) := by decide +kernel
theorem d_Mod_group_25 : decode prog_12_method_112_code 25 = .ok (.invokestatic 530, 3) := by decide +kernel
theorem d_Mod_group_28 : decode prog_12_method_112_code 28 = .ok (.ifCond .ne 7, 3) := by decide +kernel
theorem d_Mod_group_31 : decode prog_12_method_112_code 31 = .ok (.iconst 1, 1) := by decide +kernel
theorem d_Mod_group_32 : decode prog_12_method_112_code 32 = .ok (.goto 4, 3) := by decide +kernel
theorem d_Mod_group_35 : decode prog_12_method_112_code 35 = .ok (.iconst 0, 1) := by decide +kernel
theorem d_Mod_group_36 : decode prog_12_method_112_code 36 = .ok (.iconst 2, 1) := by decide +kernel
theorem d_Mod_group_37 : decode prog_12_method_112_code 37 = .ok (.invokevirtual 533, 3) := by decide +kernel
theorem d_Mod_group_40 : decode prog_12_method_112_code 40 = .ok (.ifCond .eq 5, 3) := by decide +kernel
theorem d_Mod_group_43 : decode prog_12_method_112_code 43 = .ok (.iconst 0, 1) := by decide +kernel
theorem d_Mod_group_44 : decode prog_12_method_112_code 44 = .ok (.ireturn, 1) := by decide +kernel
theorem d_Mod_group_45 : decode prog_12_method_112_code 45 = .ok (.aload_n 0, 1) := by decide +kernel
theorem d_Mod_group_46 : decode prog_12_method_112_code 46 = .ok (.iload_n 1, 1) := by decide +kernel
theorem d_Mod_group_47 : decode prog_12_method_112_code 47 = .ok (.iload_n 2, 1) := by decide +kernel
theorem d_Mod_group_48 : decode prog_12_method_112_code 48 = .ok (.invokevirtual 522, 3) := by decide +kernel
theorem d_Mod_group_51 : decode prog_12_method_112_code 51 = .ok (.iload_n 3, 1) := by decide +kernel
theorem d_Mod_group_52 : decode prog_12_method_112_code 52 = .ok (.ifCond .eq 10, 3) := by decide +kernel
theorem d_Mod_group_55 : decode prog_12_method_112_code 55 = .ok (.aload_n 0, 1) := by decide +kernel
theorem d_Mod_group_56 : decode prog_12_method_112_code 56 = .ok (.getfield 323, 3) := by decide +kernel
theorem d_Mod_group_59 : decode prog_12_method_112_code 59 = .ok (.goto 4, 3) := by decide +kernel
theorem d_Mod_group_62 : decode prog_12_method_112_code 62 = .ok (.iconst (-1), 1) := by decide +kernel
theorem d_Mod_group_63 : decode prog_12_method_112_code 63 = .ok (.iand, 1) := by decide +kernel
theorem d_Mod_group_64 : decode prog_12_method_112_code 64 = .ok (.ireturn, 1) := by decide +kernel
def fm_Mod_group_j36 (a1 : Int) (a2 : Int) (a3 : Bool) (s0 : Bool) (w : fa_W) : Option (Int × fa_W) :=
  fa_l2 (fm_Mod_throwsIf s0 2 w) fun v10 w11 =>
  if v10 = true then
  some (0, w11)
  else
  ((fm_Mod_groupSet a1 a2 w11).bind fun v14 =>
  if a3 = true then
  some (fa_iand v14 (w11 181 53), w11)
  else
  some (fa_iand v14 (-1), w11))
set_option maxHeartbeats 4000000 in
set_option maxRecDepth 100000 in
theorem c_Mod_group_j36 {p : Program} {l : Launch} {e : Env} {s : State} {m : MethodId} {args : Array Value} {below : List Frame} {meth : Method} {c : Code} {hh : Nat} {D : va_G} {b : Nat} {aC : Nat → ClassId} {H0 : Heap} {N T : Nat} (X : fa_GX p s m args meth c prog_12_method_112_code 4 ((Option.some Jvm.ClassFile.FieldType.int)) y_Mod_group.cls D b aC) (hle : 2 ≤ hh) (hN : fa_NM ≤ N) (hT : fa_TM ≤ T) (a1 : Int) (a2 : Int) (a3 : Bool) {r : Int × fa_W}  : ∀ (s0 : Bool) (w : fa_W) (_ : fm_Mod_group_j36 a1 a2 a3 s0 w = some r), fa_GJ p l e (fa_rm hh) s m args below meth c 0 0 (MQ below (fa_Qc D b aC H0 N T (some (.int (fa_I r.1))) r.2) args s 0 0 (fun q => b ≤ q)) D b aC H0 N T 4 w 36 [(0, .ref (b + 181)), (1, .int (fa_I a1)), (2, .int (fa_I a2)), (3, .int (fa_I (fa_bi a3)))] [.int (fa_I (fa_bi s0)), .ref (b + 181)] := by
  intro s0 w hM
  unfold fm_Mod_group_j36 at hM
  refine g_iconst X d_Mod_group_36 ?_
  obtain ⟨⟨v10, w11⟩, e9⟩ : ∃ q, fm_Mod_throwsIf s0 2 w = q := ⟨_, rfl⟩
  have hM := fa_l2_e hM e9
  refine g_callV_i X ck_10 fo_181 (fn_181 hN) rfl mi_Mod_throwsIf (c_Mod_throwsIf hN hT s0 2 w _ e9) wd_2096 rfl (Nat.le_trans (Nat.le_of_ble_eq_true rfl) hle) (st := []) (Nat.le_of_ble_eq_true rfl) rfl d_Mod_group_37 ?_
  refine g_ifb_eq X 45 d_Mod_group_40 (by decide) (fun hc12 => ?_) (fun hc12 => ?_)
  · have hM := fa_ifb_f hM hc12
    refine g_aload_n X 0 rfl d_Mod_group_45 ?_
    refine g_iload_n X 1 rfl d_Mod_group_46 ?_
    refine g_iload_n X 2 rfl d_Mod_group_47 ?_
    obtain ⟨v14, e13, hM⟩ := fa_ob hM
    refine g_callV_i X ck_10 fo_181 (fn_181 hN) rfl mi_Mod_groupSet (c_Mod_groupSet hN hT a1 a2 w11 _ e13) wd_2132 rfl (Nat.le_trans (Nat.le_of_ble_eq_true rfl) hle) (st := []) (Nat.le_of_ble_eq_true rfl) rfl d_Mod_group_48 ?_
    refine g_iload_n X 3 rfl d_Mod_group_51 ?_
    refine g_ifb_eq X 62 d_Mod_group_52 (by decide) (fun hc15 => ?_) (fun hc15 => ?_)
    · have hM := fa_ifb_f hM hc15
      refine g_iconst X d_Mod_group_62 ?_
      refine g_iand X d_Mod_group_63 ?_
      cases hM
      exact g_iret X d_Mod_group_64
    · have hM := fa_ifb_t hM hc15
      refine g_aload_n X 0 rfl d_Mod_group_55 ?_
      refine g_get X ck_10 fo_181 (fn_181 hN) 53 (by decide) wd_1794 rfl (fa_fvI rfl) d_Mod_group_56 ?_
      refine g_goto X 63 d_Mod_group_59 (by decide) ?_
      refine g_iand X d_Mod_group_63 ?_
      cases hM
      exact g_iret X d_Mod_group_64
  · have hM := fa_ifb_t hM hc12
    refine g_iconst X d_Mod_group_43 ?_
    cases hM
    exact g_iret X d_Mod_group_44
def fm_Mod_group (a1 : Int) (a2 : Int) (a3 : Bool) (w : fa_W) : Option (Int × fa_W) :=
  fa_let (fa_st w 181 0 0) fun w1 =>
  fa_l2 (fm_Mod_noSplit a1 1 w1) fun v3 w4 =>
  if v3 = true then
  some (0, w4)
  else
  ((fa_ix a1 3).bind fun j6 =>
  if fm_Mod_in a2 0 ((w4 216 j6) - 1) w4 = true then
  fm_Mod_group_j36 a1 a2 a3 false w4
  else
  fm_Mod_group_j36 a1 a2 a3 true w4)
set_option maxHeartbeats 4000000 in
set_option maxRecDepth 100000 in
theorem c_Mod_group {l : Launch} {D : va_G} {b : Nat} {aC : Nat → ClassId} {H0 : Heap} {N T : Nat} (hN : fa_NM ≤ N) (hT : fa_TM ≤ T) (a1 : Int) (a2 : Int) (a3 : Bool)  (w : fa_W) (r : Int × fa_W) (hM : fm_Mod_group a1 a2 a3 w = some r) : fa_MC l D b aC H0 N T y_Mod_group prog_12_method_112_code 4 ((Option.some Jvm.ClassFile.FieldType.int)) (2) [.ref (b + 181), .int (fa_I a1), .int (fa_I a2), .int (fa_I (fa_bi a3))] w (some (.int (fa_I r.1))) r.2 := by
  refine fa_enter (lv := [(0, .ref (b + 181)), (1, .int (fa_I a1)), (2, .int (fa_I a2)), (3, .int (fa_I (fa_bi a3)))]) (by decide +kernel) (Nat.le_of_ble_eq_true rfl) rfl (fun hh hle hnm X => ?_)
  unfold fm_Mod_group at hM
  refine g_aload_n X 0 rfl d_Mod_group_0 ?_
  refine g_iconst X d_Mod_group_1 ?_
  refine g_put X ck_10 fo_181 (fn_181 hN) 0 (z := 0) (by decide) wd_1742 rfl (fa_fvI' rfl) rfl rfl rfl d_Mod_group_2 (fun w1 ew1 => ?_)
  have hM := fa_let_to hM ew1
  refine g_aload_n X 0 rfl d_Mod_group_5 ?_
  refine g_iload_n X 1 rfl d_Mod_group_6 ?_
  refine g_iconst X d_Mod_group_7 ?_
  obtain ⟨⟨v3, w4⟩, e2⟩ : ∃ q, fm_Mod_noSplit a1 1 w1 = q := ⟨_, rfl⟩
  have hM := fa_l2_e hM e2
  refine g_callV_i X ck_10 fo_181 (fn_181 hN) rfl mi_Mod_noSplit (c_Mod_noSplit hN hT a1 1 w1 _ e2) wd_2124 rfl (Nat.le_trans (Nat.le_of_ble_eq_true rfl) hle) (st := []) (Nat.le_of_ble_eq_true rfl) rfl d_Mod_group_8 ?_
  refine g_ifb_ne X 43 d_Mod_group_11 (by decide) (fun hc5 => ?_) (fun hc5 => ?_)
  · have hM := fa_ifb_t hM hc5
    refine g_iconst X d_Mod_group_43 ?_
    cases hM
    exact g_iret X d_Mod_group_44
  · have hM := fa_ifb_f hM hc5
    refine g_aload_n X 0 rfl d_Mod_group_14 ?_
    refine g_iload_n X 2 rfl d_Mod_group_15 ?_
    refine g_iconst X d_Mod_group_16 ?_
    refine g_aload_n X 0 rfl d_Mod_group_17 ?_
    refine g_get X ck_10 fo_181 (fn_181 hN) 59 (by decide) wd_1800 rfl (fr_181_59 rfl hT) d_Mod_group_18 ?_
    refine g_iload_n X 1 rfl d_Mod_group_21 ?_
    obtain ⟨j6, ej6, hM⟩ := fa_ob hM
    refine g_iald X fs_216 (fn_216 hN) ej6 d_Mod_group_22 ?_
    refine g_iconst X d_Mod_group_23 ?_
    refine g_isub X d_Mod_group_24 ?_
    refine g_callS_i X mi_Mod_in (c_Mod_in hN hT a2 0 ((w4 216 j6) - 1) w4 _ rfl) wd_2093 rfl (Nat.le_trans (Nat.le_of_ble_eq_true rfl) hle) (st := [.ref (b + 181)]) (Nat.le_of_ble_eq_true rfl) rfl d_Mod_group_25 ?_
    refine g_ifb_ne X 35 d_Mod_group_28 (by decide) (fun hc8 => ?_) (fun hc8 => ?_)
    · have hM := fa_ifb_t hM hc8
      refine g_iconst X d_Mod_group_35 ?_
      exact g_lv [0, 1, 2, 3] rfl (c_Mod_group_j36 X hle hN hT a1 a2 a3    _ _ hM)
    · have hM := fa_ifb_f hM hc8
      refine g_iconst X d_Mod_group_31 ?_
      refine g_goto X 36 d_Mod_group_32 (by decide) ?_
      exact g_lv [0, 1, 2, 3] rfl (c_Mod_group_j36 X hle hN hT a1 a2 a3    _ _ hM)
theorem d_Mod_ring_0 : decode prog_12_method_113_code 0 = .ok (.aload_n 0, 1) := by decide +kernel
theorem d_Mod_ring_1 : decode prog_12_method_113_code 1 = .ok (.iconst 0, 1) := by decide +kernel
theorem d_Mod_ring_2 : decode prog_12_method_113_code 2 = .ok (.putfield 1, 3) := by decide +kernel
theorem d_Mod_ring_5 : decode prog_12_method_113_code 5 = .ok (.aload_n 0, 1) := by decide +kernel
theorem d_Mod_ring_6 : decode prog_12_method_113_code 6 = .ok (.iload_n 1, 1) := by decide +kernel
theorem d_Mod_ring_7 : decode prog_12_method_113_code 7 = .ok (.iconst 0, 1) := by decide +kernel
theorem d_Mod_ring_8 : decode prog_12_method_113_code 8 = .ok (.aload_n 0, 1) := by decide +kernel
theorem d_Mod_ring_9 : decode prog_12_method_113_code 9 = .ok (.getfield 375, 3) := by decide +kernel
theorem d_Mod_ring_12 : decode prog_12_method_113_code 12 = .ok (.iconst 1, 1) := by decide +kernel
theorem d_Mod_ring_13 : decode prog_12_method_113_code 13 = .ok (.isub, 1) := by decide +kernel
theorem d_Mod_ring_14 : decode prog_12_method_113_code 14 = .ok (.invokestatic 530, 3) := by decide +kernel
theorem d_Mod_ring_17 : decode prog_12_method_113_code 17 = .ok (.ifCond .ne 7, 3) := by decide +kernel
theorem d_Mod_ring_20 : decode prog_12_method_113_code 20 = .ok (.iconst 1, 1) := by decide +kernel
theorem d_Mod_ring_21 : decode prog_12_method_113_code 21 = .ok (.goto 4, 3) := by decide +kernel
theorem d_Mod_ring_24 : decode prog_12_method_113_code 24 = .ok (.iconst 0, 1) := by decide +kernel
theorem d_Mod_ring_25 : decode prog_12_method_113_code 25 = .ok (.iconst 1, 1) := by decide +kernel
theorem d_Mod_ring_26 : decode prog_12_method_113_code 26 = .ok (.invokevirtual 533, 3) := by decide +kernel
theorem d_Mod_ring_29 : decode prog_12_method_113_code 29 = .ok (.ifCond .eq 7, 3) := by decide +kernel
theorem d_Mod_ring_32 : decode prog_12_method_113_code 32 = .ok (.iconst 0, 1) := by decide +kernel
theorem d_Mod_ring_33 : decode prog_12_method_113_code 33 = .ok (.goto 9, 3) := by decide +kernel
theorem d_Mod_ring_36 : decode prog_12_method_113_code 36 = .ok (.aload_n 0, 1) := by decide +kernel
theorem d_Mod_ring_37 : decode prog_12_method_113_code 37 = .ok (.getfield 378, 3) := by decide +kernel
theorem d_Mod_ring_40 : decode prog_12_method_113_code 40 = .ok (.iload_n 1, 1) := by decide +kernel
theorem d_Mod_ring_41 : decode prog_12_method_113_code 41 = .ok (.iaload, 1) := by decide +kernel
theorem d_Mod_ring_42 : decode prog_12_method_113_code 42 = .ok (.ireturn, 1) := by decide +kernel
def fm_Mod_ring_j25 (a1 : Int) (s0 : Bool) (w : fa_W) : Option (Int × fa_W) :=
  fa_l2 (fm_Mod_throwsIf s0 1 w) fun v5 w6 =>
  if v5 = true then
  some (0, w6)
  else
  ((fa_ix a1 24).bind fun j8 =>
  some (w6 220 j8, w6))
set_option maxHeartbeats 4000000 in
set_option maxRecDepth 100000 in
theorem c_Mod_ring_j25 {p : Program} {l : Launch} {e : Env} {s : State} {m : MethodId} {args : Array Value} {below : List Frame} {meth : Method} {c : Code} {hh : Nat} {D : va_G} {b : Nat} {aC : Nat → ClassId} {H0 : Heap} {N T : Nat} (X : fa_GX p s m args meth c prog_12_method_113_code 2 ((Option.some Jvm.ClassFile.FieldType.int)) y_Mod_ring.cls D b aC) (hle : 1 ≤ hh) (hN : fa_NM ≤ N) (hT : fa_TM ≤ T) (a1 : Int) {r : Int × fa_W}  : ∀ (s0 : Bool) (w : fa_W) (_ : fm_Mod_ring_j25 a1 s0 w = some r), fa_GJ p l e (fa_rm hh) s m args below meth c 0 0 (MQ below (fa_Qc D b aC H0 N T (some (.int (fa_I r.1))) r.2) args s 0 0 (fun q => b ≤ q)) D b aC H0 N T 2 w 25 [(0, .ref (b + 181)), (1, .int (fa_I a1))] [.int (fa_I (fa_bi s0)), .ref (b + 181)] := by
  intro s0 w hM
  unfold fm_Mod_ring_j25 at hM
  refine g_iconst X d_Mod_ring_25 ?_
  obtain ⟨⟨v5, w6⟩, e4⟩ : ∃ q, fm_Mod_throwsIf s0 1 w = q := ⟨_, rfl⟩
  have hM := fa_l2_e hM e4
  refine g_callV_i X ck_10 fo_181 (fn_181 hN) rfl mi_Mod_throwsIf (c_Mod_throwsIf hN hT s0 1 w _ e4) wd_2096 rfl (Nat.le_trans (Nat.le_of_ble_eq_true rfl) hle) (st := []) (Nat.le_of_ble_eq_true rfl) rfl d_Mod_ring_26 ?_
  refine g_ifb_eq X 36 d_Mod_ring_29 (by decide) (fun hc7 => ?_) (fun hc7 => ?_)
  · have hM := fa_ifb_f hM hc7
    refine g_aload_n X 0 rfl d_Mod_ring_36 ?_
    refine g_get X ck_10 fo_181 (fn_181 hN) 63 (by decide) wd_1804 rfl (fr_181_63 rfl hT) d_Mod_ring_37 ?_
    refine g_iload_n X 1 rfl d_Mod_ring_40 ?_
    obtain ⟨j8, ej8, hM⟩ := fa_ob hM
    refine g_iald X fs_220 (fn_220 hN) ej8 d_Mod_ring_41 ?_
    cases hM
    exact g_iret X d_Mod_ring_42
  · have hM := fa_ifb_t hM hc7
    refine g_iconst X d_Mod_ring_32 ?_
    refine g_goto X 42 d_Mod_ring_33 (by decide) ?_
    cases hM
    exact g_iret X d_Mod_ring_42
def fm_Mod_ring (a1 : Int) (w : fa_W) : Option (Int × fa_W) :=
  fa_let (fa_st w 181 0 0) fun w1 =>
  if fm_Mod_in a1 0 ((w1 181 64) - 1) w1 = true then
  fm_Mod_ring_j25 a1 false w1
  else
  fm_Mod_ring_j25 a1 true w1
set_option maxHeartbeats 4000000 in
set_option maxRecDepth 100000 in
theorem c_Mod_ring {l : Launch} {D : va_G} {b : Nat} {aC : Nat → ClassId} {H0 : Heap} {N T : Nat} (hN : fa_NM ≤ N) (hT : fa_TM ≤ T) (a1 : Int)  (w : fa_W) (r : Int × fa_W) (hM : fm_Mod_ring a1 w = some r) : fa_MC l D b aC H0 N T y_Mod_ring prog_12_method_113_code 2 ((Option.some Jvm.ClassFile.FieldType.int)) (1) [.ref (b + 181), .int (fa_I a1)] w (some (.int (fa_I r.1))) r.2 := by
  refine fa_enter (lv := [(0, .ref (b + 181)), (1, .int (fa_I a1))]) (by decide +kernel) (Nat.le_of_ble_eq_true rfl) rfl (fun hh hle hnm X => ?_)
  unfold fm_Mod_ring at hM
  refine g_aload_n X 0 rfl d_Mod_ring_0 ?_
  refine g_iconst X d_Mod_ring_1 ?_
  refine g_put X ck_10 fo_181 (fn_181 hN) 0 (z := 0) (by decide) wd_1742 rfl (fa_fvI' rfl) rfl rfl rfl d_Mod_ring_2 (fun w1 ew1 => ?_)
  have hM := fa_let_to hM ew1
  refine g_aload_n X 0 rfl d_Mod_ring_5 ?_
  refine g_iload_n X 1 rfl d_Mod_ring_6 ?_
  refine g_iconst X d_Mod_ring_7 ?_
  refine g_aload_n X 0 rfl d_Mod_ring_8 ?_
  refine g_get X ck_10 fo_181 (fn_181 hN) 64 (by decide) wd_1805 rfl (fa_fvI rfl) d_Mod_ring_9 ?_
  refine g_iconst X d_Mod_ring_12 ?_
  refine g_isub X d_Mod_ring_13 ?_
  refine g_callS_i X mi_Mod_in (c_Mod_in hN hT a1 0 ((w1 181 64) - 1) w1 _ rfl) wd_2093 rfl (Nat.le_trans (Nat.le_of_ble_eq_true rfl) hle) (st := [.ref (b + 181)]) (Nat.le_of_ble_eq_true rfl) rfl d_Mod_ring_14 ?_
  refine g_ifb_ne X 24 d_Mod_ring_17 (by decide) (fun hc3 => ?_) (fun hc3 => ?_)
  · have hM := fa_ifb_t hM hc3
    refine g_iconst X d_Mod_ring_24 ?_
    exact g_lv [0, 1] rfl (c_Mod_ring_j25 X hle hN hT a1    _ _ hM)
  · have hM := fa_ifb_f hM hc3
    refine g_iconst X d_Mod_ring_20 ?_
    refine g_goto X 25 d_Mod_ring_21 (by decide) ?_
    exact g_lv [0, 1] rfl (c_Mod_ring_j25 X hle hN hT a1    _ _ hM)
theorem d_Mod_far_0 : decode prog_12_method_114_code 0 = .ok (.aload_n 0, 1) := by decide +kernel
theorem d_Mod_far_1 : decode prog_12_method_114_code 1 = .ok (.iconst 0, 1) := by decide +kernel
theorem d_Mod_far_2 : decode prog_12_method_114_code 2 = .ok (.putfield 1, 3) := by decide +kernel
theorem d_Mod_far_5 : decode prog_12_method_114_code 5 = .ok (.aload_n 0, 1) := by decide +kernel
theorem d_Mod_far_6 : decode prog_12_method_114_code 6 = .ok (.iload_n 1, 1) := by decide +kernel
theorem d_Mod_far_7 : decode prog_12_method_114_code 7 = .ok (.invokevirtual 537, 3) := by decide +kernel
theorem d_Mod_far_10 : decode prog_12_method_114_code 10 = .ok (.ifCond .ne 33, 3) := by decide +kernel
theorem d_Mod_far_13 : decode prog_12_method_114_code 13 = .ok (.aload_n 0, 1) := by decide +kernel
theorem d_Mod_far_14 : decode prog_12_method_114_code 14 = .ok (.iload_n 2, 1) := by decide +kernel
theorem d_Mod_far_15 : decode prog_12_method_114_code 15 = .ok (.invokevirtual 537, 3) := by decide +kernel
theorem d_Mod_far_18 : decode prog_12_method_114_code 18 = .ok (.ifCond .ne 25, 3) := by decide +kernel
theorem d_Mod_far_21 : decode prog_12_method_114_code 21 = .ok (.aload_n 0, 1) := by decide +kernel
theorem d_Mod_far_22 : decode prog_12_method_114_code 22 = .ok (.getfield 323, 3) := by decide +kernel
theorem d_Mod_far_25 : decode prog_12_method_114_code 25 = .ok (.iload_n 1, 1) := by decide +kernel
theorem d_Mod_far_26 : decode prog_12_method_114_code 26 = .ok (.invokestatic 326, 3) := by decide +kernel
theorem d_Mod_far_29 : decode prog_12_method_114_code 29 = .ok (.ifCond .eq 14, 3) := by decide +kernel
theorem d_Mod_far_32 : decode prog_12_method_114_code 32 = .ok (.aload_n 0, 1) := by decide +kernel
theorem d_Mod_far_33 : decode prog_12_method_114_code 33 = .ok (.getfield 323, 3) := by decide +kernel
theorem d_Mod_far_36 : decode prog_12_method_114_code 36 = .ok (.iload_n 2, 1) := by decide +kernel
theorem d_Mod_far_37 : decode prog_12_method_114_code 37 = .ok (.invokestatic 326, 3) := by decide +kernel
theorem d_Mod_far_40 : decode prog_12_method_114_code 40 = .ok (.ifCond .ne 16, 3) := by decide +kernel
theorem d_Mod_far_43 : decode prog_12_method_114_code 43 = .ok (.aload_n 0, 1) := by decide +kernel
theorem d_Mod_far_44 : decode prog_12_method_114_code 44 = .ok (.getfield 1, 3) := by decide +kernel
theorem d_Mod_far_47 : decode prog_12_method_114_code 47 = .ok (.ifCond .le 7, 3) := by decide +kernel
theorem d_Mod_far_50 : decode prog_12_method_114_code 50 = .ok (.iconst 0, 1) := by decide +kernel
theorem d_Mod_far_51 : decode prog_12_method_114_code 51 = .ok (.goto 4, 3) := by decide +kernel
theorem d_Mod_far_54 : decode prog_12_method_114_code 54 = .ok (.iconst (-1), 1) := by decide +kernel
theorem d_Mod_far_55 : decode prog_12_method_114_code 55 = .ok (.ireturn, 1) := by decide +kernel
theorem d_Mod_far_56 : decode prog_12_method_114_code 56 = .ok (.iconst 1, 1) := by decide +kernel
theorem d_Mod_far_57 : decode prog_12_method_114_code 57 = .ok (.iload_n 1, 1) := by decide +kernel
theorem d_Mod_far_58 : decode prog_12_method_114_code 58 = .ok (.ishl, 1) := by decide +kernel
theorem d_Mod_far_59 : decode prog_12_method_114_code 59 = .ok (.istore_n 3, 1) := by decide +kernel
theorem d_Mod_far_60 : decode prog_12_method_114_code 60 = .ok (.iconst 0, 1) := by decide +kernel
theorem d_Mod_far_61 : decode prog_12_method_114_code 61 = .ok (.istore 4, 2) := by decide +kernel
theorem d_Mod_far_63 : decode prog_12_method_114_code 63 = .ok (.iload 4, 2) := by decide +kernel
theorem d_Mod_far_65 : decode prog_12_method_114_code 65 = .ok (.bipush 24, 2) := by decide +kernel
theorem d_Mod_far_67 : decode prog_12_method_114_code 67 = .ok (.if_icmp .gt 69, 3) := by decide +kernel
theorem d_Mod_far_70 : decode prog_12_method_114_code 70 = .ok (.iload_n 3, 1) := by decide +kernel
theorem d_Mod_far_71 : decode prog_12_method_114_code 71 = .ok (.iload_n 2, 1) := by decide +kernel
theorem d_Mod_far_72 : decode prog_12_method_114_code 72 = .ok (.invokestatic 326, 3) := by decide +kernel
theorem d_Mod_far_75 : decode prog_12_method_114_code 75 = .ok (.ifCond .eq 6, 3) := by decide +kernel
theorem d_Mod_far_78 : decode prog_12_method_114_code 78 = .ok (.iload 4, 2) := by decide +kernel
theorem d_Mod_far_80 : decode prog_12_method_114_code 80 = .ok (.ireturn, 1) := by decide +kernel
theorem d_Mod_far_81 : decode prog_12_method_114_code 81 = .ok (.iload_n 3, 1) := by decide +kernel
theorem d_Mod_far_82 : decode prog_12_method_114_code 82 = .ok (.istore 5, 2) := by decide +kernel
theorem d_Mod_far_84 : decode prog_12_method_114_code 84 = .ok (.iconst 0, 1) := by decide +kernel
theorem d_Mod_far_85 : decode prog_12_method_114_code 85 = .ok (.istore 6, 2) := by decide +kernel
theorem d_Mod_far_87 : decode prog_12_method_114_code 87 = .ok (.iload 6, 2) := by decide +kernel
theorem d_Mod_far_89 : decode prog_12_method_114_code 89 = .ok (.aload_n 0, 1) := by decide +kernel
theorem d_Mod_far_90 : decode prog_12_method_114_code 90 = .ok (.invokevirtual 270, 3) := by decide +kernel
theorem d_Mod_far_93 : decode prog_12_method_114_code 93 = .ok (.if_icmp .ge 34, 3) := by decide +kernel
theorem d_Mod_far_96 : decode prog_12_method_114_code 96 = .ok (.iload 5, 2) := by decide +kernel
theorem d_Mod_far_98 : decode prog_12_method_114_code 98 = .ok (.iload_n 3, 1) := by decide +kernel
theorem d_Mod_far_99 : decode prog_12_method_114_code 99 = .ok (.iload 6, 2) := by decide +kernel
theorem d_Mod_far_101 : decode prog_12_method_114_code 101 = .ok (.invokestatic 326, 3) := by decide +kernel
theorem d_Mod_far_104 : decode prog_12_method_114_code 104 = .ok (.ifCond .eq 13, 3) := by decide +kernel
theorem d_Mod_far_107 : decode prog_12_method_114_code 107 = .ok (.aload_n 0, 1) := by decide +kernel
theorem d_Mod_far_108 : decode prog_12_method_114_code 108 = .ok (.getfield 366, 3) := by decide +kernel
theorem d_Mod_far_111 : decode prog_12_method_114_code 111 = .ok (.iload 6, 2) := by decide +kernel
theorem d_Mod_far_113 : decode prog_12_method_114_code 113 = .ok (.iaload, 1) := by decide +kernel
theorem d_Mod_far_114 : decode prog_12_method_114_code 114 = .ok (.goto 4, 3) := by decide +kernel
theorem d_Mod_far_117 : decode prog_12_method_114_code 117 = .ok (.iconst 0, 1) := by decide +kernel
theorem d_Mod_far_118 : decode prog_12_method_114_code 118 = .ok (.ior, 1) := by decide +kernel
theorem d_Mod_far_119 : decode prog_12_method_114_code 119 = .ok (.istore 5, 2) := by decide +kernel
theorem d_Mod_far_121 : decode prog_12_method_114_code 121 = .ok (.iinc 6 1, 3) := by decide +kernel
theorem d_Mod_far_124 : decode prog_12_method_114_code 124 = .ok (.goto (-37), 3) := by decide +kernel
theorem d_Mod_far_127 : decode prog_12_method_114_code 127 = .ok (.iload 5, 2) := by decide +kernel
theorem d_Mod_far_129 : decode prog_12_method_114_code 129 = .ok (.istore_n 3, 1) := by decide +kernel
theorem d_Mod_far_130 : decode prog_12_method_114_code 130 = .ok (.iinc 4 1, 3) := by decide +kernel
theorem d_Mod_far_133 : decode prog_12_method_114_code 133 = .ok (.goto (-70), 3) := by decide +kernel
theorem d_Mod_far_136 : decode prog_12_method_114_code 136 = .ok (.iconst (-1), 1) := by decide +kernel
theorem d_Mod_far_137 : decode prog_12_method_114_code 137 = .ok (.ireturn, 1) := by decide +kernel
def fm_Mod_far_j43 (a1 : Int) (a2 : Int) (w : fa_W) : Option (Int × fa_W) :=
  if fa_wr (w 181 0) ≤ 0 then
  some ((-1), w)
  else
  some (0, w)
set_option maxHeartbeats 4000000 in
set_option maxRecDepth 100000 in
theorem c_Mod_far_j43 {p : Program} {l : Launch} {e : Env} {s : State} {m : MethodId} {args : Array Value} {below : List Frame} {meth : Method} {c : Code} {hh : Nat} {D : va_G} {b : Nat} {aC : Nat → ClassId} {H0 : Heap} {N T : Nat} (X : fa_GX p s m args meth c prog_12_method_114_code 7 ((Option.some Jvm.ClassFile.FieldType.int)) y_Mod_far.cls D b aC) (hle : 2 ≤ hh) (hN : fa_NM ≤ N) (hT : fa_TM ≤ T) (a1 : Int) (a2 : Int) {r : Int × fa_W}  : ∀ (w : fa_W) (_ : fm_Mod_far_j43 a1 a2 w = some r), fa_GJ p l e (fa_rm hh) s m args below meth c 0 0 (MQ below (fa_Qc D b aC H0 N T (some (.int (fa_I r.1))) r.2) args s 0 0 (fun q => b ≤ q)) D b aC H0 N T 7 w 43 [(0, .ref (b + 181))] [] := by
  intro w hM
  unfold fm_Mod_far_j43 at hM
  refine g_aload_n X 0 rfl d_Mod_far_43 ?_
  refine g_get X ck_10 fo_181 (fn_181 hN) 0 (by decide) wd_1742 rfl (fa_fvI rfl) d_Mod_far_44 ?_
  refine g_if_le X 54 d_Mod_far_47 (by decide) (fun hc6 => ?_) (fun hc6 => ?_)
  · have hM := fa_if_t hM hc6
    refine g_iconst X d_Mod_far_54 ?_
    cases hM
    exact g_iret X d_Mod_far_55
  · have hM := fa_if_f hM hc6
    refine g_iconst X d_Mod_far_50 ?_
    refine g_goto X 55 d_Mod_far_51 (by decide) ?_
    cases hM
    exact g_iret X d_Mod_far_55
def fm_Mod_far_l87 (a1 : Int) (a2 : Int) (k63 : Int → Int → fa_W → Option (Int × fa_W)) : Nat → Int → Int → Int → Int → fa_W → Option (Int × fa_W)
  | 0, _, _, _, _, _ => none
  | n + 1, x3, x4, x5, x6, w => if fa_wr (fm_Mod_functions w) ≤ fa_wr x6 then
  (fa_let (x4 + 1) fun x4_21 =>
  k63 x5 x4_21 w)
  else
  (if fm_Mod_holds x3 x6 w = true then
  ((fa_ix x6 24).bind fun j26 =>
  fa_let (fa_ior x5 (w 217 j26)) fun x5_27 =>
  fa_let (x6 + 1) fun x6_28 =>
  fm_Mod_far_l87 a1 a2 k63 n x3 x4 x5_27 x6_28 w)
  else
  (fa_let (fa_ior x5 0) fun x5_24 =>
  fa_let (x6 + 1) fun x6_25 =>
  fm_Mod_far_l87 a1 a2 k63 n x3 x4 x5_24 x6_25 w))
set_option maxHeartbeats 4000000 in
set_option maxRecDepth 100000 in
theorem c_Mod_far_l87 {p : Program} {l : Launch} {e : Env} {s : State} {m : MethodId} {args : Array Value} {below : List Frame} {meth : Method} {c : Code} {hh : Nat} {D : va_G} {b : Nat} {aC : Nat → ClassId} {H0 : Heap} {N T : Nat} (X : fa_GX p s m args meth c prog_12_method_114_code 7 ((Option.some Jvm.ClassFile.FieldType.int)) y_Mod_far.cls D b aC) (hle : 2 ≤ hh) (hN : fa_NM ≤ N) (hT : fa_TM ≤ T) (a1 : Int) (a2 : Int) {r : Int × fa_W} (k63 : Int → Int → fa_W → Option (Int × fa_W)) (K63 : ∀ (x3 : Int) (x4 : Int) (w : fa_W), k63 x3 x4 w = some r → fa_GJ p l e (fa_rm hh) s m args below meth c 0 0 (MQ below (fa_Qc D b aC H0 N T (some (.int (fa_I r.1))) r.2) args s 0 0 (fun q => b ≤ q)) D b aC H0 N T 7 w 63 [(0, .ref (b + 181)), (2, .int (fa_I a2)), (3, .int (fa_I x3)), (4, .int (fa_I x4))] []) : ∀ (n : Nat) (x3 : Int) (x4 : Int) (x5 : Int) (x6 : Int) (w : fa_W), fm_Mod_far_l87 a1 a2 k63 n x3 x4 x5 x6 w = some r → fa_GJ p l e (fa_rm hh) s m args below meth c 0 0 (MQ below (fa_Qc D b aC H0 N T (some (.int (fa_I r.1))) r.2) args s 0 0 (fun q => b ≤ q)) D b aC H0 N T 7 w 87 [(0, .ref (b + 181)), (2, .int (fa_I a2)), (3, .int (fa_I x3)), (4, .int (fa_I x4)), (5, .int (fa_I x5)), (6, .int (fa_I x6))] [] := by
  intro n
  induction n with
  | zero => intro x3 x4 x5 x6 w hM; exact fa_no hM
  | succ n ih =>
    intro x3 x4 x5 x6 w hM
    rw [fm_Mod_far_l87] at hM
    refine g_iload X 5 rfl d_Mod_far_87 ?_
    refine g_aload_n X 0 rfl d_Mod_far_89 ?_
    refine g_callV_i X ck_10 fo_181 (fn_181 hN) rfl mi_Mod_functions (c_Mod_functions hN hT w _ rfl) wd_1644 rfl (Nat.le_trans (Nat.le_of_ble_eq_true rfl) hle) (st := [.int (fa_I x6)]) (Nat.le_of_ble_eq_true rfl) rfl d_Mod_far_90 ?_
    refine g_icmp_ge X 127 d_Mod_far_93 (by decide) (fun hc20 => ?_) (fun hc20 => ?_)
    · have hM := fa_if_t hM hc20
      refine g_iload X 4 rfl d_Mod_far_127 ?_
      refine g_istorec_n X [(3, .int (fa_I x5)), (0, .ref (b + 181)), (2, .int (fa_I a2)), (4, .int (fa_I x4)), (5, .int (fa_I x5)), (6, .int (fa_I x6))] d_Mod_far_129 (by decide) rfl ?_
      refine g_iinc X 3 (fun x4_21 => [(4, .int (fa_I x4_21)), (3, .int (fa_I x5)), (0, .ref (b + 181)), (2, .int (fa_I a2)), (5, .int (fa_I x5)), (6, .int (fa_I x6))]) d_Mod_far_130 rfl (by decide) (fun _ => rfl) (fun x4_21 ex4_21 => ?_)
      have hM := fa_let_to hM ex4_21
      refine g_goto X 63 d_Mod_far_133 (by decide) ?_
      exact g_lv [2, 3, 1, 0] rfl (K63 _ _ _ hM)
    · have hM := fa_if_f hM hc20
      refine g_iload X 4 rfl d_Mod_far_96 ?_
      refine g_iload_n X 2 rfl d_Mod_far_98 ?_
      refine g_iload X 5 rfl d_Mod_far_99 ?_
      refine g_callS_i X mi_Mod_holds (c_Mod_holds hN hT x3 x6 w _ rfl) wd_1691 rfl (Nat.le_trans (Nat.le_of_ble_eq_true rfl) hle) (st := [.int (fa_I x5)]) (Nat.le_of_ble_eq_true rfl) rfl d_Mod_far_101 ?_
      refine g_ifb_eq X 117 d_Mod_far_104 (by decide) (fun hc23 => ?_) (fun hc23 => ?_)
      · have hM := fa_ifb_f hM hc23
        refine g_iconst X d_Mod_far_117 ?_
        refine g_ior X d_Mod_far_118 ?_
        refine g_istore X (fun x5_24 => [(5, .int (fa_I x5_24)), (0, .ref (b + 181)), (2, .int (fa_I a2)), (3, .int (fa_I x3)), (4, .int (fa_I x4)), (6, .int (fa_I x6))]) d_Mod_far_119 (by decide) (fun _ => rfl) (fun x5_24 ex5_24 => ?_)
        have hM := fa_let_to hM ex5_24
        refine g_iinc X 5 (fun x6_25 => [(6, .int (fa_I x6_25)), (5, .int (fa_I x5_24)), (0, .ref (b + 181)), (2, .int (fa_I a2)), (3, .int (fa_I x3)), (4, .int (fa_I x4))]) d_Mod_far_121 rfl (by decide) (fun _ => rfl) (fun x6_25 ex6_25 => ?_)
        have hM := fa_let_to hM ex6_25
        refine g_goto X 87 d_Mod_far_124 (by decide) ?_
        exact g_lv [2, 3, 4, 5, 1, 0] rfl (ih _ _ _ _ _ hM)
      · have hM := fa_ifb_t hM hc23
        refine g_aload_n X 0 rfl d_Mod_far_107 ?_
        refine g_get X ck_10 fo_181 (fn_181 hN) 60 (by decide) wd_1801 rfl (fr_181_60 rfl hT) d_Mod_far_108 ?_
        refine g_iload X 5 rfl d_Mod_far_111 ?_
        obtain ⟨j26, ej26, hM⟩ := fa_ob hM
        refine g_iald X fs_217 (fn_217 hN) ej26 d_Mod_far_113 ?_
        refine g_goto X 118 d_Mod_far_114 (by decide) ?_
        refine g_ior X d_Mod_far_118 ?_
        refine g_istore X (fun x5_27 => [(5, .int (fa_I x5_27)), (0, .ref (b + 181)), (2, .int (fa_I a2)), (3, .int (fa_I x3)), (4, .int (fa_I x4)), (6, .int (fa_I x6))]) d_Mod_far_119 (by decide) (fun _ => rfl) (fun x5_27 ex5_27 => ?_)
        have hM := fa_let_to hM ex5_27
        refine g_iinc X 5 (fun x6_28 => [(6, .int (fa_I x6_28)), (5, .int (fa_I x5_27)), (0, .ref (b + 181)), (2, .int (fa_I a2)), (3, .int (fa_I x3)), (4, .int (fa_I x4))]) d_Mod_far_121 rfl (by decide) (fun _ => rfl) (fun x6_28 ex6_28 => ?_)
        have hM := fa_let_to hM ex6_28
        refine g_goto X 87 d_Mod_far_124 (by decide) ?_
        exact g_lv [2, 3, 4, 5, 1, 0] rfl (ih _ _ _ _ _ hM)
def fm_Mod_far_l63 (a1 : Int) (a2 : Int) : Nat → Int → Int → fa_W → Option (Int × fa_W)
  | 0, _, _, _ => none
  | n + 1, x3, x4, w => if 24 < fa_wr x4 then
  some ((-1), w)
  else
  (if fm_Mod_holds x3 a2 w = true then
  some (x4, w)
  else
  fm_Mod_far_l87 a1 a2 (fun x3 x4 w9 => fm_Mod_far_l63 a1 a2 n x3 x4 w9) fa_FU x3 x4 x3 0 w)
set_option maxHeartbeats 4000000 in
set_option maxRecDepth 100000 in
theorem c_Mod_far_l63 {p : Program} {l : Launch} {e : Env} {s : State} {m : MethodId} {args : Array Value} {below : List Frame} {meth : Method} {c : Code} {hh : Nat} {D : va_G} {b : Nat} {aC : Nat → ClassId} {H0 : Heap} {N T : Nat} (X : fa_GX p s m args meth c prog_12_method_114_code 7 ((Option.some Jvm.ClassFile.FieldType.int)) y_Mod_far.cls D b aC) (hle : 2 ≤ hh) (hN : fa_NM ≤ N) (hT : fa_TM ≤ T) (a1 : Int) (a2 : Int) {r : Int × fa_W}  : ∀ (n : Nat) (x3 : Int) (x4 : Int) (w : fa_W), fm_Mod_far_l63 a1 a2 n x3 x4 w = some r → fa_GJ p l e (fa_rm hh) s m args below meth c 0 0 (MQ below (fa_Qc D b aC H0 N T (some (.int (fa_I r.1))) r.2) args s 0 0 (fun q => b ≤ q)) D b aC H0 N T 7 w 63 [(0, .ref (b + 181)), (2, .int (fa_I a2)), (3, .int (fa_I x3)), (4, .int (fa_I x4))] [] := by
  intro n
  induction n with
  | zero => intro x3 x4 w hM; exact fa_no hM
  | succ n ih =>
    intro x3 x4 w hM
    rw [fm_Mod_far_l63] at hM
    refine g_iload X 3 rfl d_Mod_far_63 ?_
    refine g_bipush X (by decide) d_Mod_far_65 ?_
    refine g_icmp_gt X 136 d_Mod_far_67 (by decide) (fun hc16 => ?_) (fun hc16 => ?_)
    · have hM := fa_if_t hM hc16
      refine g_iconst X d_Mod_far_136 ?_
      cases hM
      exact g_iret X d_Mod_far_137
    · have hM := fa_if_f hM hc16
      refine g_iload_n X 2 rfl d_Mod_far_70 ?_
      refine g_iload_n X 1 rfl d_Mod_far_71 ?_
      refine g_callS_i X mi_Mod_holds (c_Mod_holds hN hT x3 a2 w _ rfl) wd_1691 rfl (Nat.le_trans (Nat.le_of_ble_eq_true rfl) hle) (st := []) (Nat.le_of_ble_eq_true rfl) rfl d_Mod_far_72 ?_
      refine g_ifb_eq X 81 d_Mod_far_75 (by decide) (fun hc18 => ?_) (fun hc18 => ?_)
      · have hM := fa_ifb_f hM hc18
        refine g_iload_n X 2 rfl d_Mod_far_81 ?_
        refine g_istorec X [(5, .int (fa_I x3)), (0, .ref (b + 181)), (2, .int (fa_I a2)), (3, .int (fa_I x3)), (4, .int (fa_I x4))] d_Mod_far_82 (by decide) rfl ?_
        refine g_iconst X d_Mod_far_84 ?_
        refine g_istorec X [(6, .int (fa_I 0)), (5, .int (fa_I x3)), (0, .ref (b + 181)), (2, .int (fa_I a2)), (3, .int (fa_I x3)), (4, .int (fa_I x4))] d_Mod_far_85 (by decide) rfl ?_
        exact g_lv [2, 3, 4, 5, 1, 0] rfl (c_Mod_far_l87 X hle hN hT a1 a2  (fun x3 x4 w9 => fm_Mod_far_l63 a1 a2 n x3 x4 w9) (fun _ _ _ h => ih _ _ _ h) fa_FU _ _ _ _ _ hM)
      · have hM := fa_ifb_t hM hc18
        refine g_iload X 3 rfl d_Mod_far_78 ?_
        cases hM
        exact g_iret X d_Mod_far_80
def fm_Mod_far (a1 : Int) (a2 : Int) (w : fa_W) : Option (Int × fa_W) :=
  fa_let (fa_st w 181 0 0) fun w1 =>
  fa_l2 (fm_Mod_noFunction a1 w1) fun v3 w4 =>
  if v3 = true then
  fm_Mod_far_j43 a1 a2 w4
  else
  (fa_l2 (fm_Mod_noFunction a2 w4) fun v8 w9 =>
  if v8 = true then
  fm_Mod_far_j43 a1 a2 w9
  else
  (if fm_Mod_holds (w9 181 53) a1 w9 = true then
  (if fm_Mod_holds (w9 181 53) a2 w9 = true then
  (fa_let (fa_ishl 1 a1) fun x3_15 =>
  fm_Mod_far_l63 a1 a2 fa_FU x3_15 0 w9)
  else
  fm_Mod_far_j43 a1 a2 w9)
  else
  fm_Mod_far_j43 a1 a2 w9))
set_option maxHeartbeats 4000000 in
set_option maxRecDepth 100000 in
theorem c_Mod_far {l : Launch} {D : va_G} {b : Nat} {aC : Nat → ClassId} {H0 : Heap} {N T : Nat} (hN : fa_NM ≤ N) (hT : fa_TM ≤ T) (a1 : Int) (a2 : Int)  (w : fa_W) (r : Int × fa_W) (hM : fm_Mod_far a1 a2 w = some r) : fa_MC l D b aC H0 N T y_Mod_far prog_12_method_114_code 7 ((Option.some Jvm.ClassFile.FieldType.int)) (2) [.ref (b + 181), .int (fa_I a1), .int (fa_I a2)] w (some (.int (fa_I r.1))) r.2 := by
  refine fa_enter (lv := [(0, .ref (b + 181)), (1, .int (fa_I a1)), (2, .int (fa_I a2))]) (by decide +kernel) (Nat.le_of_ble_eq_true rfl) rfl (fun hh hle hnm X => ?_)
  unfold fm_Mod_far at hM
  refine g_aload_n X 0 rfl d_Mod_far_0 ?_
  refine g_iconst X d_Mod_far_1 ?_
  refine g_put X ck_10 fo_181 (fn_181 hN) 0 (z := 0) (by decide) wd_1742 rfl (fa_fvI' rfl) rfl rfl rfl d_Mod_far_2 (fun w1 ew1 => ?_)
  have hM := fa_let_to hM ew1
  refine g_aload_n X 0 rfl d_Mod_far_5 ?_
  refine g_iload_n X 1 rfl d_Mod_far_6 ?_
  obtain ⟨⟨v3, w4⟩, e2⟩ : ∃ q, fm_Mod_noFunction a1 w1 = q := ⟨_, rfl⟩
  have hM := fa_l2_e hM e2
  refine g_callV_i X ck_10 fo_181 (fn_181 hN) rfl mi_Mod_noFunction (c_Mod_noFunction hN hT a1 w1 _ e2) wd_2089 rfl (Nat.le_trans (Nat.le_of_ble_eq_true rfl) hle) (st := []) (Nat.le_of_ble_eq_true rfl) rfl d_Mod_far_7 ?_
  refine g_ifb_ne X 43 d_Mod_far_10 (by decide) (fun hc5 => ?_) (fun hc5 => ?_)
  · have hM := fa_ifb_t hM hc5
    exact g_lv [0] rfl (c_Mod_far_j43 X hle hN hT a1 a2    _ hM)
  · have hM := fa_ifb_f hM hc5
    refine g_aload_n X 0 rfl d_Mod_far_13 ?_
    refine g_iload_n X 2 rfl d_Mod_far_14 ?_
    obtain ⟨⟨v8, w9⟩, e7⟩ : ∃ q, fm_Mod_noFunction a2 w4 = q := ⟨_, rfl⟩
    have hM := fa_l2_e hM e7
    refine g_callV_i X ck_10 fo_181 (fn_181 hN) rfl mi_Mod_noFunction (c_Mod_noFunction hN hT a2 w4 _ e7) wd_2089 rfl (Nat.le_trans (Nat.le_of_ble_eq_true rfl) hle) (st := []) (Nat.le_of_ble_eq_true rfl) rfl d_Mod_far_15 ?_
    refine g_ifb_ne X 43 d_Mod_far_18 (by decide) (fun hc10 => ?_) (fun hc10 => ?_)
    · have hM := fa_ifb_t hM hc10
      exact g_lv [0] rfl (c_Mod_far_j43 X hle hN hT a1 a2    _ hM)
    · have hM := fa_ifb_f hM hc10
      refine g_aload_n X 0 rfl d_Mod_far_21 ?_
      refine g_get X ck_10 fo_181 (fn_181 hN) 53 (by decide) wd_1794 rfl (fa_fvI rfl) d_Mod_far_22 ?_
      refine g_iload_n X 1 rfl d_Mod_far_25 ?_
      refine g_callS_i X mi_Mod_holds (c_Mod_holds hN hT (w9 181 53) a1 w9 _ rfl) wd_1691 rfl (Nat.le_trans (Nat.le_of_ble_eq_true rfl) hle) (st := []) (Nat.le_of_ble_eq_true rfl) rfl d_Mod_far_26 ?_
      refine g_ifb_eq X 43 d_Mod_far_29 (by decide) (fun hc12 => ?_) (fun hc12 => ?_)
      · have hM := fa_ifb_f hM hc12
        exact g_lv [0] rfl (c_Mod_far_j43 X hle hN hT a1 a2    _ hM)
      · have hM := fa_ifb_t hM hc12
        refine g_aload_n X 0 rfl d_Mod_far_32 ?_
        refine g_get X ck_10 fo_181 (fn_181 hN) 53 (by decide) wd_1794 rfl (fa_fvI rfl) d_Mod_far_33 ?_
        refine g_iload_n X 2 rfl d_Mod_far_36 ?_
        refine g_callS_i X mi_Mod_holds (c_Mod_holds hN hT (w9 181 53) a2 w9 _ rfl) wd_1691 rfl (Nat.le_trans (Nat.le_of_ble_eq_true rfl) hle) (st := []) (Nat.le_of_ble_eq_true rfl) rfl d_Mod_far_37 ?_
        refine g_ifb_ne X 56 d_Mod_far_40 (by decide) (fun hc14 => ?_) (fun hc14 => ?_)
        · have hM := fa_ifb_t hM hc14
          refine g_iconst X d_Mod_far_56 ?_
          refine g_iload_n X 1 rfl d_Mod_far_57 ?_
          refine g_ishl X d_Mod_far_58 ?_
          refine g_istore_n X (fun x3_15 => [(3, .int (fa_I x3_15)), (0, .ref (b + 181)), (1, .int (fa_I a1)), (2, .int (fa_I a2))]) d_Mod_far_59 (by decide) (fun _ => rfl) (fun x3_15 ex3_15 => ?_)
          have hM := fa_let_to hM ex3_15
          refine g_iconst X d_Mod_far_60 ?_
          refine g_istorec X [(4, .int (fa_I 0)), (3, .int (fa_I x3_15)), (0, .ref (b + 181)), (1, .int (fa_I a1)), (2, .int (fa_I a2))] d_Mod_far_61 (by decide) rfl ?_
          exact g_lv [2, 4, 1, 0] rfl (c_Mod_far_l63 X hle hN hT a1 a2   fa_FU _ _ _ hM)
        · have hM := fa_ifb_f hM hc14
          exact g_lv [0] rfl (c_Mod_far_j43 X hle hN hT a1 a2    _ hM)
theorem d_Mod_looked_0 : decode prog_12_method_115_code 0 = .ok (.iconst 0, 1) := by decide +kernel
theorem d_Mod_looked_1 : decode prog_12_method_115_code 1 = .ok (.istore_n 2, 1) := by decide +kernel
theorem d_Mod_looked_2 : decode prog_12_method_115_code 2 = .ok (.iconst 0, 1) := by decide +kernel
theorem d_Mod_looked_3 : decode prog_12_method_115_code 3 = .ok (.istore_n 3, 1) := by decide +kernel
theorem d_Mod_looked_4 : decode prog_12_method_115_code 4 = .ok (.iload_n 3, 1) := by decide +kernel
theorem d_Mod_looked_5 : decode prog_12_method_115_code 5 = .ok (.aload_n 0, 1) := by decide +kernel
theorem d_Mod_looked_6 : decode prog_12_method_115_code 6 = .ok (.getfield 197, 3) := by decide +kernel
theorem d_Mod_looked_9 : decode prog_12_method_115_code 9 = .ok (.if_icmp .ge 43, 3) := by decide +kernel
theorem d_Mod_looked_12 : decode prog_12_method_115_code 12 = .ok (.iload_n 2, 1) := by decide +kernel
theorem d_Mod_looked_13 : decode prog_12_method_115_code 13 = .ok (.aload_n 0, 1) := by decide +kernel
theorem d_Mod_looked_14 : decode prog_12_method_115_code 14 = .ok (.getfield 313, 3) := by decide +kernel
theorem d_Mod_looked_17 : decode prog_12_method_115_code 17 = .ok (.iload_n 3, 1) := by decide +kernel
theorem d_Mod_looked_18 : decode prog_12_method_115_code 18 = .ok (.baload, 1) := by decide +kernel
theorem d_Mod_looked_19 : decode prog_12_method_115_code 19 = .ok (.ifCond .eq 24, 3) := by decide +kernel
theorem d_Mod_looked_22 : decode prog_12_method_115_code 22 = .ok (.iload_n 1, 1) := by decide +kernel
theorem d_Mod_looked_23 : decode prog_12_method_115_code 23 = .ok (.ifCond .eq 16, 3) := by decide +kernel
theorem d_Mod_looked_26 : decode prog_12_method_115_code 26 = .ok (.aload_n 0, 1) := by decide +kernel
theorem d_Mod_looked_27 : decode prog_12_method_115_code 27 = .ok (.getfield 317, 3) := by decide +kernel
theorem d_Mod_looked_30 : decode prog_12_method_115_code 30 = .ok (.iload_n 3, 1) := by decide +kernel
theorem d_Mod_looked_31 : decode prog_12_method_115_code 31 = .ok (.iaload, 1) := by decide +kernel
theorem d_Mod_looked_32 : decode prog_12_method_115_code 32 = .ok (.invokestatic 294, 3) := by decide +kernel
theorem d_Mod_looked_35 : decode prog_12_method_115_code 35 = .ok (.iconst 1, 1) := by decide +kernel
theorem d_Mod_looked_36 : decode prog_12_method_115_code 36 = .ok (.if_icmp .ne 7, 3) := by decide +kernel
theorem d_Mod_looked_39 : decode prog_12_method_115_code 39 = .ok (.iconst 1, 1) := by decide +kernel
theorem d_Mod_looked_40 : decode prog_12_method_115_code 40 = .ok (.goto 4, 3) := by decide +kernel
theorem d_Mod_looked_43 : decode prog_12_method_115_code 43 = .ok (.iconst 0, 1) := by decide +kernel
theorem d_Mod_looked_44 : decode prog_12_method_115_code 44 = .ok (.iadd, 1) := by decide +kernel
theorem d_Mod_looked_45 : decode prog_12_method_115_code 45 = .ok (.istore_n 2, 1) := by decide +kernel
theorem d_Mod_looked_46 : decode prog_12_method_115_code 46 = .ok (.iinc 3 1, 3) := by decide +kernel
theorem d_Mod_looked_49 : decode prog_12_method_115_code 49 = .ok (.goto (-45), 3) := by decide +kernel
theorem d_Mod_looked_52 : decode prog_12_method_115_code 52 = .ok (.iload_n 2, 1) := by decide +kernel
theorem d_Mod_looked_53 : decode prog_12_method_115_code 53 = .ok (.ireturn, 1) := by decide +kernel
def fm_Mod_looked_j43 (a1 : Bool) (w : fa_W) (k4 : Int → Int → Option Int) (x3 : Int) (s0 : Int) : Option Int :=
  fa_let (s0 + 0) fun x2_4 =>
  fa_let (x3 + 1) fun x3_5 =>
  k4 x2_4 x3_5
set_option maxHeartbeats 4000000 in
set_option maxRecDepth 100000 in
theorem c_Mod_looked_j43 {p : Program} {l : Launch} {e : Env} {s : State} {m : MethodId} {args : Array Value} {below : List Frame} {meth : Method} {c : Code} {hh : Nat} {D : va_G} {b : Nat} {aC : Nat → ClassId} {H0 : Heap} {N T : Nat} (X : fa_GX p s m args meth c prog_12_method_115_code 4 ((Option.some Jvm.ClassFile.FieldType.int)) y_Mod_looked.cls D b aC) (hle : 1 ≤ hh) (hN : fa_NM ≤ N) (hT : fa_TM ≤ T) (a1 : Bool) {r : Int} (w : fa_W) (k4 : Int → Int → Option Int) (K4 : ∀ (x2 : Int) (x3 : Int), k4 x2 x3 = some r → fa_GJ p l e (fa_rm hh) s m args below meth c 0 0 (MQ below (fa_Qc D b aC H0 N T (some (.int (fa_I r))) w) args s 0 0 (fun q => b ≤ q)) D b aC H0 N T 4 w 4 [(0, .ref (b + 181)), (1, .int (fa_I (fa_bi a1))), (2, .int (fa_I x2)), (3, .int (fa_I x3))] []) : ∀ (x3 : Int) (s0 : Int) (_ : fm_Mod_looked_j43 a1 w k4 x3 s0 = some r), fa_GJ p l e (fa_rm hh) s m args below meth c 0 0 (MQ below (fa_Qc D b aC H0 N T (some (.int (fa_I r))) w) args s 0 0 (fun q => b ≤ q)) D b aC H0 N T 4 w 43 [(0, .ref (b + 181)), (1, .int (fa_I (fa_bi a1))), (3, .int (fa_I x3))] [.int (fa_I s0)] := by
  intro x3 s0 hM
  unfold fm_Mod_looked_j43 at hM
  refine g_iconst X d_Mod_looked_43 ?_
  refine g_iadd X d_Mod_looked_44 ?_
  refine g_istore_n X (fun x2_4 => [(2, .int (fa_I x2_4)), (0, .ref (b + 181)), (1, .int (fa_I (fa_bi a1))), (3, .int (fa_I x3))]) d_Mod_looked_45 (by decide) (fun _ => rfl) (fun x2_4 ex2_4 => ?_)
  have hM := fa_let_to hM ex2_4
  refine g_iinc X 3 (fun x3_5 => [(3, .int (fa_I x3_5)), (2, .int (fa_I x2_4)), (0, .ref (b + 181)), (1, .int (fa_I (fa_bi a1)))]) d_Mod_looked_46 rfl (by decide) (fun _ => rfl) (fun x3_5 ex3_5 => ?_)
  have hM := fa_let_to hM ex3_5
  refine g_goto X 4 d_Mod_looked_49 (by decide) ?_
  exact g_lv [2, 3, 1, 0] rfl (K4 _ _ hM)
def fm_Mod_looked_j39 (a1 : Bool) (w : fa_W) (k4 : Int → Int → Option Int) (x3 : Int) (s0 : Int) : Option Int :=
  fa_let (s0 + 1) fun x2_7 =>
  fa_let (x3 + 1) fun x3_8 =>
  k4 x2_7 x3_8
set_option maxHeartbeats 4000000 in
set_option maxRecDepth 100000 in
theorem c_Mod_looked_j39 {p : Program} {l : Launch} {e : Env} {s : State} {m : MethodId} {args : Array Value} {below : List Frame} {meth : Method} {c : Code} {hh : Nat} {D : va_G} {b : Nat} {aC : Nat → ClassId} {H0 : Heap} {N T : Nat} (X : fa_GX p s m args meth c prog_12_method_115_code 4 ((Option.some Jvm.ClassFile.FieldType.int)) y_Mod_looked.cls D b aC) (hle : 1 ≤ hh) (hN : fa_NM ≤ N) (hT : fa_TM ≤ T) (a1 : Bool) {r : Int} (w : fa_W) (k4 : Int → Int → Option Int) (K4 : ∀ (x2 : Int) (x3 : Int), k4 x2 x3 = some r → fa_GJ p l e (fa_rm hh) s m args below meth c 0 0 (MQ below (fa_Qc D b aC H0 N T (some (.int (fa_I r))) w) args s 0 0 (fun q => b ≤ q)) D b aC H0 N T 4 w 4 [(0, .ref (b + 181)), (1, .int (fa_I (fa_bi a1))), (2, .int (fa_I x2)), (3, .int (fa_I x3))] []) : ∀ (x3 : Int) (s0 : Int) (_ : fm_Mod_looked_j39 a1 w k4 x3 s0 = some r), fa_GJ p l e (fa_rm hh) s m args below meth c 0 0 (MQ below (fa_Qc D b aC H0 N T (some (.int (fa_I r))) w) args s 0 0 (fun q => b ≤ q)) D b aC H0 N T 4 w 39 [(0, .ref (b + 181)), (1, .int (fa_I (fa_bi a1))), (3, .int (fa_I x3))] [.int (fa_I s0)] := by
  intro x3 s0 hM
  unfold fm_Mod_looked_j39 at hM
  refine g_iconst X d_Mod_looked_39 ?_
  refine g_goto X 44 d_Mod_looked_40 (by decide) ?_
  refine g_iadd X d_Mod_looked_44 ?_
  refine g_istore_n X (fun x2_7 => [(2, .int (fa_I x2_7)), (0, .ref (b + 181)), (1, .int (fa_I (fa_bi a1))), (3, .int (fa_I x3))]) d_Mod_looked_45 (by decide) (fun _ => rfl) (fun x2_7 ex2_7 => ?_)
  have hM := fa_let_to hM ex2_7
  refine g_iinc X 3 (fun x3_8 => [(3, .int (fa_I x3_8)), (2, .int (fa_I x2_7)), (0, .ref (b + 181)), (1, .int (fa_I (fa_bi a1)))]) d_Mod_looked_46 rfl (by decide) (fun _ => rfl) (fun x3_8 ex3_8 => ?_)
  have hM := fa_let_to hM ex3_8
  refine g_goto X 4 d_Mod_looked_49 (by decide) ?_
  exact g_lv [2, 3, 1, 0] rfl (K4 _ _ hM)
def fm_Mod_looked_l4 (a1 : Bool) (w : fa_W) : Nat → Int → Int → Option Int
  | 0, _, _ => none
  | n + 1, x2, x3 => if fa_wr (w 181 20) ≤ fa_wr x3 then
  some x2
  else
  ((fa_ix x3 101).bind fun j2 =>
  if decide (w 212 j2 ≠ 0) = true then
  (if a1 = true then
  ((fa_ix x3 101).bind fun j9 =>
  (fm_Mod_bits (w 209 j9) w).bind fun v11 =>
  if fa_wr v11 = 1 then
  fm_Mod_looked_j39 a1 w (fun x2 x3 => fm_Mod_looked_l4 a1 w n x2 x3) x3 x2
  else
  fm_Mod_looked_j43 a1 w (fun x2 x3 => fm_Mod_looked_l4 a1 w n x2 x3) x3 x2)
  else
  fm_Mod_looked_j39 a1 w (fun x2 x3 => fm_Mod_looked_l4 a1 w n x2 x3) x3 x2)
  else
  fm_Mod_looked_j43 a1 w (fun x2 x3 => fm_Mod_looked_l4 a1 w n x2 x3) x3 x2)
set_option maxHeartbeats 4000000 in
set_option maxRecDepth 100000 in
theorem c_Mod_looked_l4 {p : Program} {l : Launch} {e : Env} {s : State} {m : MethodId} {args : Array Value} {below : List Frame} {meth : Method} {c : Code} {hh : Nat} {D : va_G} {b : Nat} {aC : Nat → ClassId} {H0 : Heap} {N T : Nat} (X : fa_GX p s m args meth c prog_12_method_115_code 4 ((Option.some Jvm.ClassFile.FieldType.int)) y_Mod_looked.cls D b aC) (hle : 1 ≤ hh) (hN : fa_NM ≤ N) (hT : fa_TM ≤ T) (a1 : Bool) {r : Int} (w : fa_W) : ∀ (n : Nat) (x2 : Int) (x3 : Int), fm_Mod_looked_l4 a1 w n x2 x3 = some r → fa_GJ p l e (fa_rm hh) s m args below meth c 0 0 (MQ below (fa_Qc D b aC H0 N T (some (.int (fa_I r))) w) args s 0 0 (fun q => b ≤ q)) D b aC H0 N T 4 w 4 [(0, .ref (b + 181)), (1, .int (fa_I (fa_bi a1))), (2, .int (fa_I x2)), (3, .int (fa_I x3))] [] := by
  intro n
  induction n with
  | zero => intro x2 x3 hM; exact fa_no hM
  | succ n ih =>
    intro x2 x3 hM
    rw [fm_Mod_looked_l4] at hM
    refine g_iload_n X 3 rfl d_Mod_looked_4 ?_
    refine g_aload_n X 0 rfl d_Mod_looked_5 ?_
    refine g_get X ck_10 fo_181 (fn_181 hN) 20 (by decide) wd_1762 rfl (fa_fvI rfl) d_Mod_looked_6 ?_
    refine g_icmp_ge X 52 d_Mod_looked_9 (by decide) (fun hc1 => ?_) (fun hc1 => ?_)
    · have hM := fa_if_t hM hc1
      refine g_iload_n X 2 rfl d_Mod_looked_52 ?_
      cases hM
      exact g_iret X d_Mod_looked_53
    · have hM := fa_if_f hM hc1
      refine g_iload_n X 2 rfl d_Mod_looked_12 ?_
      refine g_aload_n X 0 rfl d_Mod_looked_13 ?_
      refine g_get X ck_10 fo_181 (fn_181 hN) 51 (by decide) wd_1792 rfl (fr_181_51 rfl hT) d_Mod_looked_14 ?_
      refine g_iload_n X 3 rfl d_Mod_looked_17 ?_
      obtain ⟨j2, ej2, hM⟩ := fa_ob hM
      refine g_zald X fs_212 (fn_212 hN) ej2 d_Mod_looked_18 ?_
      refine g_ifb_eq X 43 d_Mod_looked_19 (by decide) (fun hc3 => ?_) (fun hc3 => ?_)
      · have hM := fa_ifb_f hM hc3
        exact g_lv [0, 1, 3] rfl (c_Mod_looked_j43 X hle hN hT a1 w (fun x2 x3 => fm_Mod_looked_l4 a1 w n x2 x3) (fun _ _ h => ih _ _ h)  _ _ hM)
      · have hM := fa_ifb_t hM hc3
        refine g_iload_n X 1 rfl d_Mod_looked_22 ?_
        refine g_ifb_eq X 39 d_Mod_looked_23 (by decide) (fun hc6 => ?_) (fun hc6 => ?_)
        · have hM := fa_ifb_f hM hc6
          exact g_lv [0, 1, 3] rfl (c_Mod_looked_j39 X hle hN hT a1 w (fun x2 x3 => fm_Mod_looked_l4 a1 w n x2 x3) (fun _ _ h => ih _ _ h)  _ _ hM)
        · have hM := fa_ifb_t hM hc6
          refine g_aload_n X 0 rfl d_Mod_looked_26 ?_
          refine g_get X ck_10 fo_181 (fn_181 hN) 48 (by decide) wd_1789 rfl (fr_181_48 rfl hT) d_Mod_looked_27 ?_
          refine g_iload_n X 3 rfl d_Mod_looked_30 ?_
          obtain ⟨j9, ej9, hM⟩ := fa_ob hM
          refine g_iald X fs_209 (fn_209 hN) ej9 d_Mod_looked_31 ?_
          obtain ⟨v11, e10, hM⟩ := fa_ob hM
          refine g_callS_i X mi_Mod_bits (c_Mod_bits hN hT (w 209 j9) w _ e10) wd_1684 rfl (Nat.le_trans (Nat.le_of_ble_eq_true rfl) hle) (st := [.int (fa_I x2)]) (Nat.le_of_ble_eq_true rfl) rfl d_Mod_looked_32 ?_
          refine g_iconst X d_Mod_looked_35 ?_
          refine g_icmp_ne X 43 d_Mod_looked_36 (by decide) (fun hc12 => ?_) (fun hc12 => ?_)
          · have hM := fa_if_f hM hc12
            exact g_lv [0, 1, 3] rfl (c_Mod_looked_j43 X hle hN hT a1 w (fun x2 x3 => fm_Mod_looked_l4 a1 w n x2 x3) (fun _ _ h => ih _ _ h)  _ _ hM)
          · have hM := fa_if_t hM hc12
            exact g_lv [0, 1, 3] rfl (c_Mod_looked_j39 X hle hN hT a1 w (fun x2 x3 => fm_Mod_looked_l4 a1 w n x2 x3) (fun _ _ h => ih _ _ h)  _ _ hM)
def fm_Mod_looked (a1 : Bool) (w : fa_W) : Option Int :=
  fm_Mod_looked_l4 a1 w fa_FU 0 0
set_option maxHeartbeats 4000000 in
set_option maxRecDepth 100000 in
theorem c_Mod_looked {l : Launch} {D : va_G} {b : Nat} {aC : Nat → ClassId} {H0 : Heap} {N T : Nat} (hN : fa_NM ≤ N) (hT : fa_TM ≤ T) (a1 : Bool)  (w : fa_W) (r : Int) (hM : fm_Mod_looked a1 w = some r) : fa_MC l D b aC H0 N T y_Mod_looked prog_12_method_115_code 4 ((Option.some Jvm.ClassFile.FieldType.int)) (1) [.ref (b + 181), .int (fa_I (fa_bi a1))] w (some (.int (fa_I r))) w := by
  refine fa_enter (lv := [(0, .ref (b + 181)), (1, .int (fa_I (fa_bi a1)))]) (by decide +kernel) (Nat.le_of_ble_eq_true rfl) rfl (fun hh hle hnm X => ?_)
  unfold fm_Mod_looked at hM
  refine g_iconst X d_Mod_looked_0 ?_
  refine g_istorec_n X [(2, .int (fa_I 0)), (0, .ref (b + 181)), (1, .int (fa_I (fa_bi a1)))] d_Mod_looked_1 (by decide) rfl ?_
  refine g_iconst X d_Mod_looked_2 ?_
  refine g_istorec_n X [(3, .int (fa_I 0)), (2, .int (fa_I 0)), (0, .ref (b + 181)), (1, .int (fa_I (fa_bi a1)))] d_Mod_looked_3 (by decide) rfl ?_
  exact g_lv [2, 3, 1, 0] rfl (c_Mod_looked_l4 X hle hN hT a1 w  fa_FU _ _ hM)
theorem d_Mod_fieldsOfMade_0 : decode prog_12_method_116_code 0 = .ok (.iconst 0, 1) := by decide +kernel
theorem d_Mod_fieldsOfMade_1 : decode prog_12_method_116_code 1 = .ok (.istore_n 1, 1) := by decide +kernel
theorem d_Mod_fieldsOfMade_2 : decode prog_12_method_116_code 2 = .ok (.iconst 0, 1) := by decide +kernel
theorem d_Mod_fieldsOfMade_3 : decode prog_12_method_116_code 3 = .ok (.istore_n 2, 1) := by decide +kernel
theorem d_Mod_fieldsOfMade_4 : decode prog_12_method_116_code 4 = .ok (.iload_n 2, 1) := by decide +kernel
theorem d_Mod_fieldsOfMade_5 : decode prog_12_method_116_code 5 = .ok (.aload_n 0, 1) := by decide +kernel
theorem d_Mod_fieldsOfMade_6 : decode prog_12_method_116_code 6 = .ok (.invokevirtual 270, 3) := by decide +kernel
theorem d_Mod_fieldsOfMade_9 : decode prog_12_method_116_code 9 = .ok (.if_icmp .ge 33, 3) := by decide +kernel
theorem d_Mod_fieldsOfMade_12 : decode prog_12_method_116_code 12 = .ok (.iload_n 1, 1) := by decide +kernel
theorem d_Mod_fieldsOfMade_13 : decode prog_12_method_116_code 13 = .ok (.aload_n 0, 1) := by decide +kernel
theorem d_Mod_fieldsOfMade_14 : decode prog_12_method_116_code 14 = .ok (.getfield 300, 3) := by decide +kernel
theorem d_Mod_fieldsOfMade_17 : decode prog_12_method_116_code 17 = .ok (.iload_n 2, 1) := by decide +kernel
theorem d_Mod_fieldsOfMade_18 : decode prog_12_method_116_code 18 = .ok (.invokestatic 326, 3) := by decide +kernel
theorem d_Mod_fieldsOfMade_21 : decode prog_12_method_116_code 21 = .ok (.ifCond .eq 12, 3) := by decide +kernel
theorem d_Mod_fieldsOfMade_24 : decode prog_12_method_116_code 24 = .ok (.aload_n 0, 1) := by decide +kernel
theorem d_Mod_fieldsOfMade_25 : decode prog_12_method_116_code 25 = .ok (.getfield 347, 3) := by decide +kernel
theorem d_Mod_fieldsOfMade_28 : decode prog_12_method_116_code 28 = .ok (.iload_n 2, 1) := by decide +kernel
theorem d_Mod_fieldsOfMade_29 : decode prog_12_method_116_code 29 = .ok (.iaload, 1) := by decide +kernel
theorem d_Mod_fieldsOfMade_30 : decode prog_12_method_116_code 30 = .ok (.goto 4, 3) := by decide +kernel
theorem d_Mod_fieldsOfMade_33 : decode prog_12_method_116_code 33 = .ok (.iconst 0, 1) := by decide +kernel
theorem d_Mod_fieldsOfMade_34 : decode prog_12_method_116_code 34 = .ok (.iadd, 1) := by decide +kernel
theorem d_Mod_fieldsOfMade_35 : decode prog_12_method_116_code 35 = .ok (.istore_n 1, 1) := by decide +kernel
theorem d_Mod_fieldsOfMade_36 : decode prog_12_method_116_code 36 = .ok (.iinc 2 1, 3) := by decide +kernel
theorem d_Mod_fieldsOfMade_39 : decode prog_12_method_116_code 39 = .ok (.goto (-35), 3) := by decide +kernel
theorem d_Mod_fieldsOfMade_42 : decode prog_12_method_116_code 42 = .ok (.iload_n 1, 1) := by decide +kernel
theorem d_Mod_fieldsOfMade_43 : decode prog_12_method_116_code 43 = .ok (.ireturn, 1) := by decide +kernel
def fm_Mod_fieldsOfMade_l4 (w : fa_W) : Nat → Int → Int → Option Int
  | 0, _, _ => none
  | n + 1, x1, x2 => if fa_wr (fm_Mod_functions w) ≤ fa_wr x2 then
  some x1
  else
  (if fm_Mod_holds (w 181 52) x2 w = true then
  ((fa_ix x2 24).bind fun j7 =>
  fa_let (x1 + (w 214 j7)) fun x1_8 =>
  fa_let (x2 + 1) fun x2_9 =>
  fm_Mod_fieldsOfMade_l4 w n x1_8 x2_9)
  else
  (fa_let (x1 + 0) fun x1_5 =>
  fa_let (x2 + 1) fun x2_6 =>
  fm_Mod_fieldsOfMade_l4 w n x1_5 x2_6))
set_option maxHeartbeats 4000000 in
set_option maxRecDepth 100000 in
theorem c_Mod_fieldsOfMade_l4 {p : Program} {l : Launch} {e : Env} {s : State} {m : MethodId} {args : Array Value} {below : List Frame} {meth : Method} {c : Code} {hh : Nat} {D : va_G} {b : Nat} {aC : Nat → ClassId} {H0 : Heap} {N T : Nat} (X : fa_GX p s m args meth c prog_12_method_116_code 3 ((Option.some Jvm.ClassFile.FieldType.int)) y_Mod_fieldsOfMade.cls D b aC) (hle : 1 ≤ hh) (hN : fa_NM ≤ N) (hT : fa_TM ≤ T) {r : Int} (w : fa_W) : ∀ (n : Nat) (x1 : Int) (x2 : Int), fm_Mod_fieldsOfMade_l4 w n x1 x2 = some r → fa_GJ p l e (fa_rm hh) s m args below meth c 0 0 (MQ below (fa_Qc D b aC H0 N T (some (.int (fa_I r))) w) args s 0 0 (fun q => b ≤ q)) D b aC H0 N T 3 w 4 [(0, .ref (b + 181)), (1, .int (fa_I x1)), (2, .int (fa_I x2))] [] := by
  intro n
  induction n with
  | zero => intro x1 x2 hM; exact fa_no hM
  | succ n ih =>
    intro x1 x2 hM
    rw [fm_Mod_fieldsOfMade_l4] at hM
    refine g_iload_n X 2 rfl d_Mod_fieldsOfMade_4 ?_
    refine g_aload_n X 0 rfl d_Mod_fieldsOfMade_5 ?_
    refine g_callV_i X ck_10 fo_181 (fn_181 hN) rfl mi_Mod_functions (c_Mod_functions hN hT w _ rfl) wd_1644 rfl (Nat.le_trans (Nat.le_of_ble_eq_true rfl) hle) (st := [.int (fa_I x2)]) (Nat.le_of_ble_eq_true rfl) rfl d_Mod_fieldsOfMade_6 ?_
    refine g_icmp_ge X 42 d_Mod_fieldsOfMade_9 (by decide) (fun hc2 => ?_) (fun hc2 => ?_)
    · have hM := fa_if_t hM hc2
      refine g_iload_n X 1 rfl d_Mod_fieldsOfMade_42 ?_
      cases hM
      exact g_iret X d_Mod_fieldsOfMade_43
    · have hM := fa_if_f hM hc2
      refine g_iload_n X 1 rfl d_Mod_fieldsOfMade_12 ?_
      refine g_aload_n X 0 rfl d_Mod_fieldsOfMade_13 ?_
      refine g_get X ck_10 fo_181 (fn_181 hN) 52 (by decide) wd_1793 rfl (fa_fvI rfl) d_Mod_fieldsOfMade_14 ?_
      refine g_iload_n X 2 rfl d_Mod_fieldsOfMade_17 ?_
      refine g_callS_i X mi_Mod_holds (c_Mod_holds hN hT (w 181 52) x2 w _ rfl) wd_1691 rfl (Nat.le_trans (Nat.le_of_ble_eq_true rfl) hle) (st := [.int (fa_I x1)]) (Nat.le_of_ble_eq_true rfl) rfl d_Mod_fieldsOfMade_18 ?_
      refine g_ifb_eq X 33 d_Mod_fieldsOfMade_21 (by decide) (fun hc4 => ?_) (fun hc4 => ?_)
      · have hM := fa_ifb_f hM hc4
        refine g_iconst X d_Mod_fieldsOfMade_33 ?_
        refine g_iadd X d_Mod_fieldsOfMade_34 ?_
        refine g_istore_n X (fun x1_5 => [(1, .int (fa_I x1_5)), (0, .ref (b + 181)), (2, .int (fa_I x2))]) d_Mod_fieldsOfMade_35 (by decide) (fun _ => rfl) (fun x1_5 ex1_5 => ?_)
        have hM := fa_let_to hM ex1_5
        refine g_iinc X 2 (fun x2_6 => [(2, .int (fa_I x2_6)), (1, .int (fa_I x1_5)), (0, .ref (b + 181))]) d_Mod_fieldsOfMade_36 rfl (by decide) (fun _ => rfl) (fun x2_6 ex2_6 => ?_)
        have hM := fa_let_to hM ex2_6
        refine g_goto X 4 d_Mod_fieldsOfMade_39 (by decide) ?_
        exact g_lv [2, 1, 0] rfl (ih _ _ hM)
      · have hM := fa_ifb_t hM hc4
        refine g_aload_n X 0 rfl d_Mod_fieldsOfMade_24 ?_
        refine g_get X ck_10 fo_181 (fn_181 hN) 57 (by decide) wd_1798 rfl (fr_181_57 rfl hT) d_Mod_fieldsOfMade_25 ?_
        refine g_iload_n X 2 rfl d_Mod_fieldsOfMade_28 ?_
        obtain ⟨j7, ej7, hM⟩ := fa_ob hM
        refine g_iald X fs_214 (fn_214 hN) ej7 d_Mod_fieldsOfMade_29 ?_
        refine g_goto X 34 d_Mod_fieldsOfMade_30 (by decide) ?_
        refine g_iadd X d_Mod_fieldsOfMade_34 ?_
        refine g_istore_n X (fun x1_8 => [(1, .int (fa_I x1_8)), (0, .ref (b + 181)), (2, .int (fa_I x2))]) d_Mod_fieldsOfMade_35 (by decide) (fun _ => rfl) (fun x1_8 ex1_8 => ?_)
        have hM := fa_let_to hM ex1_8
        refine g_iinc X 2 (fun x2_9 => [(2, .int (fa_I x2_9)), (1, .int (fa_I x1_8)), (0, .ref (b + 181))]) d_Mod_fieldsOfMade_36 rfl (by decide) (fun _ => rfl) (fun x2_9 ex2_9 => ?_)
        have hM := fa_let_to hM ex2_9
        refine g_goto X 4 d_Mod_fieldsOfMade_39 (by decide) ?_
        exact g_lv [2, 1, 0] rfl (ih _ _ hM)
def fm_Mod_fieldsOfMade (w : fa_W) : Option Int :=
  fm_Mod_fieldsOfMade_l4 w fa_FU 0 0
set_option maxHeartbeats 4000000 in
set_option maxRecDepth 100000 in
theorem c_Mod_fieldsOfMade {l : Launch} {D : va_G} {b : Nat} {aC : Nat → ClassId} {H0 : Heap} {N T : Nat} (hN : fa_NM ≤ N) (hT : fa_TM ≤ T)   (w : fa_W) (r : Int) (hM : fm_Mod_fieldsOfMade w = some r) : fa_MC l D b aC H0 N T y_Mod_fieldsOfMade prog_12_method_116_code 3 ((Option.some Jvm.ClassFile.FieldType.int)) (1) [.ref (b + 181)] w (some (.int (fa_I r))) w := by
  refine fa_enter (lv := [(0, .ref (b + 181))]) (by decide +kernel) (Nat.le_of_ble_eq_true rfl) rfl (fun hh hle hnm X => ?_)
  unfold fm_Mod_fieldsOfMade at hM
  refine g_iconst X d_Mod_fieldsOfMade_0 ?_
  refine g_istorec_n X [(1, .int (fa_I 0)), (0, .ref (b + 181))] d_Mod_fieldsOfMade_1 (by decide) rfl ?_
  refine g_iconst X d_Mod_fieldsOfMade_2 ?_
  refine g_istorec_n X [(2, .int (fa_I 0)), (1, .int (fa_I 0)), (0, .ref (b + 181))] d_Mod_fieldsOfMade_3 (by decide) rfl ?_
  exact g_lv [2, 1, 0] rfl (c_Mod_fieldsOfMade_l4 X hle hN hT w  fa_FU _ _ hM)
theorem d_Mod_thingsOf_0 : decode prog_12_method_117_code 0 = .ok (.aload_n 0, 1) := by decide +kernel
theorem d_Mod_thingsOf_1 : decode prog_12_method_117_code 1 = .ok (.getfield 88, 3) := by decide +kernel
theorem d_Mod_thingsOf_4 : decode prog_12_method_117_code 4 = .ok (.iload_n 1, 1) := by decide +kernel
theorem d_Mod_thingsOf_5 : decode prog_12_method_117_code 5 = .ok (.iaload, 1) := by decide +kernel
theorem d_Mod_thingsOf_6 : decode prog_12_method_117_code 6 = .ok (.tableswitch 131 4 8 #[34, 72, 107, 107, 107], 34) := by decide +kernel
theorem d_Mod_thingsOf_40 : decode prog_12_method_117_code 40 = .ok (.iconst 1, 1) := by decide +kernel
theorem d_Mod_thingsOf_41 : decode prog_12_method_117_code 41 = .ok (.aload_n 0, 1) := by decide +kernel
theorem d_Mod_thingsOf_42 : decode prog_12_method_117_code 42 = .ok (.getfield 323, 3) := by decide +kernel
theorem d_Mod_thingsOf_45 : decode prog_12_method_117_code 45 = .ok (.aload_n 0, 1) := by decide +kernel
theorem d_Mod_thingsOf_46 : decode prog_12_method_117_code 46 = .ok (.getfield 94, 3) := by decide +kernel
theorem d_Mod_thingsOf_49 : decode prog_12_method_117_code 49 = .ok (.iload_n 1, 1) := by decide +kernel
theorem d_Mod_thingsOf_50 : decode prog_12_method_117_code 50 = .ok (.iaload, 1) := by decide +kernel
theorem d_Mod_thingsOf_51 : decode prog_12_method_117_code 51 = .ok (.invokestatic 326, 3) := by decide +kernel
theorem d_Mod_thingsOf_54 : decode prog_12_method_117_code 54 = .ok (.ifCond .eq 21, 3) := by decide +kernel
theorem d_Mod_thingsOf_57 : decode prog_12_method_117_code 57 = .ok (.aload_n 0, 1) := by decide +kernel
theorem d_Mod_thingsOf_58 : decode prog_12_method_117_code 58 = .ok (.aload_n 0, 1) := by decide +kernel
theorem d_Mod_thingsOf_59 : decode prog_12_method_117_code 59 = .ok (.getfield 166, 3) := by decide +kernel
theorem d_Mod_thingsOf_62 : decode prog_12_method_117_code 62 = .ok (.aload_n 0, 1) := by decide +kernel
theorem d_Mod_thingsOf_63 : decode prog_12_method_117_code 63 = .ok (.getfield 94, 3) := by decide +kernel
theorem d_Mod_thingsOf_66 : decode prog_12_method_117_code 66 = .ok (.iload_n 1, 1) := by decide +kernel
theorem d_Mod_thingsOf_67 : decode prog_12_method_117_code 67 = .ok (.iaload, 1) := by decide +kernel
theorem d_Mod_thingsOf_68 : decode prog_12_method_117_code 68 = .ok (.iaload, 1) := by decide +kernel
theorem d_Mod_thingsOf_69 : decode prog_12_method_117_code 69 = .ok (.invokevirtual 600, 3) := by decide +kernel
theorem d_Mod_thingsOf_72 : decode prog_12_method_117_code 72 = .ok (.goto 4, 3) := by decide +kernel
theorem d_Mod_thingsOf_75 : decode prog_12_method_117_code 75 = .ok (.iconst 1, 1) := by decide +kernel
theorem d_Mod_thingsOf_76 : decode prog_12_method_117_code 76 = .ok (.iadd, 1) := by decide +kernel
theorem d_Mod_thingsOf_77 : decode prog_12_method_117_code 77 = .ok (.ireturn, 1) := by decide +kernel
theorem d_Mod_thingsOf_78 : decode prog_12_method_117_code 78 = .ok (.iconst 1, 1) := by decide +kernel
theorem d_Mod_thingsOf_79 : decode prog_12_method_117_code 79 = .ok (.aload_n 0, 1) := by decide +kernel
theorem d_Mod_thingsOf_80 : decode prog_12_method_117_code 80 = .ok (.aload_n 0, 1) := by decide +kernel
theorem d_Mod_thingsOf_81 : decode prog_12_method_117_code 81 = .ok (.getfield 94, 3) := by decide +kernel
theorem d_Mod_thingsOf_84 : decode prog_12_method_117_code 84 = .ok (.iload_n 1, 1) := by decide +kernel
theorem d_Mod_thingsOf_85 : decode prog_12_method_117_code 85 = .ok (.iaload, 1) := by decide +kernel
theorem d_Mod_thingsOf_86 : decode prog_12_method_117_code 86 = .ok (.invokevirtual 600, 3) := by decide +kernel
theorem d_Mod_thingsOf_89 : decode prog_12_method_117_code 89 = .ok (.iadd, 1) := by decide +kernel
theorem d_Mod_thingsOf_90 : decode prog_12_method_117_code 90 = .ok (.aload_n 0, 1) := by decide +kernel
theorem d_Mod_thingsOf_91 : decode prog_12_method_117_code 91 = .ok (.aload_n 0, 1) := by decide +kernel
theorem d_Mod_thingsOf_92 : decode prog_12_method_117_code 92 = .ok (.getfield 97, 3) := by decide +kernel
theorem d_Mod_thingsOf_95 : decode prog_12_method_117_code 95 = .ok (.iload_n 1, 1) := by decide +kernel
theorem d_Mod_thingsOf_96 : decode prog_12_method_117_code 96 = .ok (.iaload, 1) := by decide +kernel
theorem d_Mod_thingsOf_97 : decode prog_12_method_117_code 97 = .ok (.invokevirtual 600, 3) := by decide +kernel
theorem d_Mod_thingsOf_100 : decode prog_12_method_117_code 100 = .ok (.iadd, 1) := by decide +kernel
theorem d_Mod_thingsOf_101 : decode prog_12_method_117_code 101 = .ok (.aload_n 0, 1) := by decide +kernel
theorem d_Mod_thingsOf_102 : decode prog_12_method_117_code 102 = .ok (.aload_n 0, 1) := by decide +kernel
theorem d_Mod_thingsOf_103 : decode prog_12_method_117_code 103 = .ok (.getfield 100, 3) := by decide +kernel
theorem d_Mod_thingsOf_106 : decode prog_12_method_117_code 106 = .ok (.iload_n 1, 1) := by decide +kernel
theorem d_Mod_thingsOf_107 : decode prog_12_method_117_code 107 = .ok (.iaload, 1) := by decide +kernel
theorem d_Mod_thingsOf_108 : decode prog_12_method_117_code 108 = .ok (.invokevirtual 600, 3) := by decide +kernel
theorem d_Mod_thingsOf_111 : decode prog_12_method_117_code 111 = .ok (.iadd, 1) := by decide +kernel
theorem d_Mod_thingsOf_112 : decode prog_12_method_117_code 112 = .ok (.ireturn, 1) := by decide +kernel
theorem d_Mod_thingsOf_113 : decode prog_12_method_117_code 113 = .ok (.iconst 1, 1) := by decide +kernel
theorem d_Mod_thingsOf_114 : decode prog_12_method_117_code 114 = .ok (.aload_n 0, 1) := by decide +kernel
theorem d_Mod_thingsOf_115 : decode prog_12_method_117_code 115 = .ok (.aload_n 0, 1) := by decide +kernel
theorem d_Mod_thingsOf_116 : decode prog_12_method_117_code 116 = .ok (.getfield 94, 3) := by decide +kernel
theorem d_Mod_thingsOf_119 : decode prog_12_method_117_code 119 = .ok (.iload_n 1, 1) := by decide +kernel
theorem d_Mod_thingsOf_120 : decode prog_12_method_117_code 120 = .ok (.iaload, 1) := by decide +kernel
theorem d_Mod_thingsOf_121 : decode prog_12_method_117_code 121 = .ok (.invokevirtual 600, 3) := by decide +kernel
theorem d_Mod_thingsOf_124 : decode prog_12_method_117_code 124 = .ok (.iadd, 1) := by decide +kernel
theorem d_Mod_thingsOf_125 : decode prog_12_method_117_code 125 = .ok (.aload_n 0, 1) := by decide +kernel
theorem d_Mod_thingsOf_126 : decode prog_12_method_117_code 126 = .ok (.aload_n 0, 1) := by decide +kernel
theorem d_Mod_thingsOf_127 : decode prog_12_method_117_code 127 = .ok (.getfield 97, 3) := by decide +kernel
theorem d_Mod_thingsOf_130 : decode prog_12_method_117_code 130 = .ok (.iload_n 1, 1) := by decide +kernel
theorem d_Mod_thingsOf_131 : decode prog_12_method_117_code 131 = .ok (.iaload, 1) := by decide +kernel
theorem d_Mod_thingsOf_132 : decode prog_12_method_117_code 132 = .ok (.invokevirtual 600, 3) := by decide +kernel
theorem d_Mod_thingsOf_135 : decode prog_12_method_117_code 135 = .ok (.iadd, 1) := by decide +kernel
theorem d_Mod_thingsOf_136 : decode prog_12_method_117_code 136 = .ok (.ireturn, 1) := by decide +kernel
theorem d_Mod_thingsOf_137 : decode prog_12_method_117_code 137 = .ok (.iconst 1, 1) := by decide +kernel
theorem d_Mod_thingsOf_138 : decode prog_12_method_117_code 138 = .ok (.ireturn, 1) := by decide +kernel
def fm_Mod_thingsOf_b (rc_thingsOf : Int → fa_W → Option Int) (a1 : Int) (w : fa_W) : Option Int :=
  (fa_ix a1 101).bind fun j1 =>
  if fa_wr (w 184 j1) = 4 then
  ((fa_ix a1 101).bind fun j3 =>
  if fm_Mod_holds (w 181 53) (w 185 j3) w = true then
  ((fa_ix a1 101).bind fun j6 =>
  (fa_ix (w 185 j6) 24).bind fun j7 =>
  (rc_thingsOf (w 189 j7) w).bind fun v9 =>
  some (1 + v9))
  else
  some (1 + 1))
  else
  if fa_wr (w 184 j1) = 5 then
  ((fa_ix a1 101).bind fun j11 =>
  (rc_thingsOf (w 185 j11) w).bind fun v13 =>
  (fa_ix a1 101).bind fun j14 =>
  (rc_thingsOf (w 186 j14) w).bind fun v16 =>
  (fa_ix a1 101).bind fun j17 =>
  (rc_thingsOf (w 187 j17) w).bind fun v19 =>
  some (((1 + v13) + v16) + v19))
  else
  if fa_wr (w 184 j1) = 6 then
  ((fa_ix a1 101).bind fun j21 =>
  (rc_thingsOf (w 185 j21) w).bind fun v23 =>
  (fa_ix a1 101).bind fun j24 =>
  (rc_thingsOf (w 186 j24) w).bind fun v26 =>
  some ((1 + v23) + v26))
  else
  if fa_wr (w 184 j1) = 7 then
  ((fa_ix a1 101).bind fun j28 =>
  (rc_thingsOf (w 185 j28) w).bind fun v30 =>
  (fa_ix a1 101).bind fun j31 =>
  (rc_thingsOf (w 186 j31) w).bind fun v33 =>
  some ((1 + v30) + v33))
  else
  if fa_wr (w 184 j1) = 8 then
  ((fa_ix a1 101).bind fun j35 =>
  (rc_thingsOf (w 185 j35) w).bind fun v37 =>
  (fa_ix a1 101).bind fun j38 =>
  (rc_thingsOf (w 186 j38) w).bind fun v40 =>
  some ((1 + v37) + v40))
  else
  some 1
set_option maxHeartbeats 4000000 in
set_option maxRecDepth 100000 in
theorem c_Mod_thingsOf_b {l : Launch} {D : va_G} {b : Nat} {aC : Nat → ClassId} {H0 : Heap} {N T : Nat} (hN : fa_NM ≤ N) (hT : fa_TM ≤ T) (dd : Nat) (rc_thingsOf : Int → fa_W → Option Int) (Rrc_thingsOf : ∀ (a1 : Int) (w : fa_W) (r : Int), rc_thingsOf a1 w = some r → fa_MC l D b aC H0 N T y_Mod_thingsOf prog_12_method_117_code 2 ((Option.some Jvm.ClassFile.FieldType.int)) (1 + dd) [.ref (b + 181), .int (fa_I a1)] w (some (.int (fa_I r))) w) (a1 : Int)  (w : fa_W) (r : Int) (hM : fm_Mod_thingsOf_b rc_thingsOf a1 w = some r) : fa_MC l D b aC H0 N T y_Mod_thingsOf prog_12_method_117_code 2 ((Option.some Jvm.ClassFile.FieldType.int)) (1 + dd + 1) [.ref (b + 181), .int (fa_I a1)] w (some (.int (fa_I r))) w := by
  refine fa_enter (lv := [(0, .ref (b + 181)), (1, .int (fa_I a1))]) (by decide +kernel) (Nat.le_of_ble_eq_true rfl) rfl (fun hh hle hnm X => ?_)
  unfold fm_Mod_thingsOf_b at hM
  refine g_aload_n X 0 rfl d_Mod_thingsOf_0 ?_
  refine g_get X ck_10 fo_181 (fn_181 hN) 4 (by decide) wd_1746 rfl (fr_181_4 rfl hT) d_Mod_thingsOf_1 ?_
  refine g_iload_n X 1 rfl d_Mod_thingsOf_4 ?_
  obtain ⟨j1, ej1, hM⟩ := fa_ob hM
  refine g_iald X fs_184 (fn_184 hN) ej1 d_Mod_thingsOf_5 ?_
  by_cases hc2 : fa_wr (w 184 j1) = 4
  · have hM := fa_if_t hM hc2
    refine g_tableIn X 4 40 d_Mod_thingsOf_6 hc2 (by decide) (by decide) rfl (by decide) ?_
    refine g_iconst X d_Mod_thingsOf_40 ?_
    refine g_aload_n X 0 rfl d_Mod_thingsOf_41 ?_
    refine g_get X ck_10 fo_181 (fn_181 hN) 53 (by decide) wd_1794 rfl (fa_fvI rfl) d_Mod_thingsOf_42 ?_
    refine g_aload_n X 0 rfl d_Mod_thingsOf_45 ?_
    refine g_get X ck_10 fo_181 (fn_181 hN) 5 (by decide) wd_1747 rfl (fr_181_5 rfl hT) d_Mod_thingsOf_46 ?_
    refine g_iload_n X 1 rfl d_Mod_thingsOf_49 ?_
    obtain ⟨j3, ej3, hM⟩ := fa_ob hM
    refine g_iald X fs_185 (fn_185 hN) ej3 d_Mod_thingsOf_50 ?_
    refine g_callS_i X mi_Mod_holds (c_Mod_holds hN hT (w 181 53) (w 185 j3) w _ rfl) wd_1691 rfl (by omega) (st := [.int (fa_I 1)]) (Nat.le_of_ble_eq_true rfl) rfl d_Mod_thingsOf_51 ?_
    refine g_ifb_eq X 75 d_Mod_thingsOf_54 (by decide) (fun hc5 => ?_) (fun hc5 => ?_)
    · have hM := fa_ifb_f hM hc5
      refine g_iconst X d_Mod_thingsOf_75 ?_
      refine g_iadd X d_Mod_thingsOf_76 ?_
      cases hM
      exact g_iret X d_Mod_thingsOf_77
    · have hM := fa_ifb_t hM hc5
      refine g_aload_n X 0 rfl d_Mod_thingsOf_57 ?_
      refine g_aload_n X 0 rfl d_Mod_thingsOf_58 ?_
      refine g_get X ck_10 fo_181 (fn_181 hN) 9 (by decide) wd_1751 rfl (fr_181_9 rfl hT) d_Mod_thingsOf_59 ?_
      refine g_aload_n X 0 rfl d_Mod_thingsOf_62 ?_
      refine g_get X ck_10 fo_181 (fn_181 hN) 5 (by decide) wd_1747 rfl (fr_181_5 rfl hT) d_Mod_thingsOf_63 ?_
      refine g_iload_n X 1 rfl d_Mod_thingsOf_66 ?_
      obtain ⟨j6, ej6, hM⟩ := fa_ob hM
      refine g_iald X fs_185 (fn_185 hN) ej6 d_Mod_thingsOf_67 ?_
      obtain ⟨j7, ej7, hM⟩ := fa_ob hM
      refine g_iald X fs_189 (fn_189 hN) ej7 d_Mod_thingsOf_68 ?_
      obtain ⟨v9, e8, hM⟩ := fa_ob hM
      refine g_callV_i X ck_10 fo_181 (fn_181 hN) rfl mi_Mod_thingsOf (Rrc_thingsOf (w 189 j7) w _ e8) wd_2232 rfl (by omega) (st := [.int (fa_I 1)]) (Nat.le_of_ble_eq_true rfl) rfl d_Mod_thingsOf_69 ?_
      refine g_goto X 76 d_Mod_thingsOf_72 (by decide) ?_
      refine g_iadd X d_Mod_thingsOf_76 ?_
      cases hM
      exact g_iret X d_Mod_thingsOf_77
  have hM := fa_if_f hM hc2
  by_cases hc10 : fa_wr (w 184 j1) = 5
  · have hM := fa_if_t hM hc10
    refine g_tableIn X 5 78 d_Mod_thingsOf_6 hc10 (by decide) (by decide) rfl (by decide) ?_
    refine g_iconst X d_Mod_thingsOf_78 ?_
    refine g_aload_n X 0 rfl d_Mod_thingsOf_79 ?_
    refine g_aload_n X 0 rfl d_Mod_thingsOf_80 ?_
    refine g_get X ck_10 fo_181 (fn_181 hN) 5 (by decide) wd_1747 rfl (fr_181_5 rfl hT) d_Mod_thingsOf_81 ?_
    refine g_iload_n X 1 rfl d_Mod_thingsOf_84 ?_
    obtain ⟨j11, ej11, hM⟩ := fa_ob hM
    refine g_iald X fs_185 (fn_185 hN) ej11 d_Mod_thingsOf_85 ?_
    obtain ⟨v13, e12, hM⟩ := fa_ob hM
    refine g_callV_i X ck_10 fo_181 (fn_181 hN) rfl mi_Mod_thingsOf (Rrc_thingsOf (w 185 j11) w _ e12) wd_2232 rfl (by omega) (st := [.int (fa_I 1)]) (Nat.le_of_ble_eq_true rfl) rfl d_Mod_thingsOf_86 ?_
    refine g_iadd X d_Mod_thingsOf_89 ?_
    refine g_aload_n X 0 rfl d_Mod_thingsOf_90 ?_
    refine g_aload_n X 0 rfl d_Mod_thingsOf_91 ?_
    refine g_get X ck_10 fo_181 (fn_181 hN) 6 (by decide) wd_1748 rfl (fr_181_6 rfl hT) d_Mod_thingsOf_92 ?_
    refine g_iload_n X 1 rfl d_Mod_thingsOf_95 ?_
    obtain ⟨j14, ej14, hM⟩ := fa_ob hM
    refine g_iald X fs_186 (fn_186 hN) ej14 d_Mod_thingsOf_96 ?_
    obtain ⟨v16, e15, hM⟩ := fa_ob hM
    refine g_callV_i X ck_10 fo_181 (fn_181 hN) rfl mi_Mod_thingsOf (Rrc_thingsOf (w 186 j14) w _ e15) wd_2232 rfl (by omega) (st := [.int (fa_I (1 + v13))]) (Nat.le_of_ble_eq_true rfl) rfl d_Mod_thingsOf_97 ?_
    refine g_iadd X d_Mod_thingsOf_100 ?_
    refine g_aload_n X 0 rfl d_Mod_thingsOf_101 ?_
    refine g_aload_n X 0 rfl d_Mod_thingsOf_102 ?_
    refine g_get X ck_10 fo_181 (fn_181 hN) 7 (by decide) wd_1749 rfl (fr_181_7 rfl hT) d_Mod_thingsOf_103 ?_
    refine g_iload_n X 1 rfl d_Mod_thingsOf_106 ?_
    obtain ⟨j17, ej17, hM⟩ := fa_ob hM
    refine g_iald X fs_187 (fn_187 hN) ej17 d_Mod_thingsOf_107 ?_
    obtain ⟨v19, e18, hM⟩ := fa_ob hM
    refine g_callV_i X ck_10 fo_181 (fn_181 hN) rfl mi_Mod_thingsOf (Rrc_thingsOf (w 187 j17) w _ e18) wd_2232 rfl (by omega) (st := [.int (fa_I ((1 + v13) + v16))]) (Nat.le_of_ble_eq_true rfl) rfl d_Mod_thingsOf_108 ?_
    refine g_iadd X d_Mod_thingsOf_111 ?_
    cases hM
    exact g_iret X d_Mod_thingsOf_112
  have hM := fa_if_f hM hc10
  by_cases hc20 : fa_wr (w 184 j1) = 6
  · have hM := fa_if_t hM hc20
    refine g_tableIn X 6 113 d_Mod_thingsOf_6 hc20 (by decide) (by decide) rfl (by decide) ?_
    refine g_iconst X d_Mod_thingsOf_113 ?_
    refine g_aload_n X 0 rfl d_Mod_thingsOf_114 ?_
    refine g_aload_n X 0 rfl d_Mod_thingsOf_115 ?_
    refine g_get X ck_10 fo_181 (fn_181 hN) 5 (by decide) wd_1747 rfl (fr_181_5 rfl hT) d_Mod_thingsOf_116 ?_
    refine g_iload_n X 1 rfl d_Mod_thingsOf_119 ?_
    obtain ⟨j21, ej21, hM⟩ := fa_ob hM
    refine g_iald X fs_185 (fn_185 hN) ej21 d_Mod_thingsOf_120 ?_
    obtain ⟨v23, e22, hM⟩ := fa_ob hM
    refine g_callV_i X ck_10 fo_181 (fn_181 hN) rfl mi_Mod_thingsOf (Rrc_thingsOf (w 185 j21) w _ e22) wd_2232 rfl (by omega) (st := [.int (fa_I 1)]) (Nat.le_of_ble_eq_true rfl) rfl d_Mod_thingsOf_121 ?_
    refine g_iadd X d_Mod_thingsOf_124 ?_
    refine g_aload_n X 0 rfl d_Mod_thingsOf_125 ?_
    refine g_aload_n X 0 rfl d_Mod_thingsOf_126 ?_
    refine g_get X ck_10 fo_181 (fn_181 hN) 6 (by decide) wd_1748 rfl (fr_181_6 rfl hT) d_Mod_thingsOf_127 ?_
    refine g_iload_n X 1 rfl d_Mod_thingsOf_130 ?_
    obtain ⟨j24, ej24, hM⟩ := fa_ob hM
    refine g_iald X fs_186 (fn_186 hN) ej24 d_Mod_thingsOf_131 ?_
    obtain ⟨v26, e25, hM⟩ := fa_ob hM
    refine g_callV_i X ck_10 fo_181 (fn_181 hN) rfl mi_Mod_thingsOf (Rrc_thingsOf (w 186 j24) w _ e25) wd_2232 rfl (by omega) (st := [.int (fa_I (1 + v23))]) (Nat.le_of_ble_eq_true rfl) rfl d_Mod_thingsOf_132 ?_
    refine g_iadd X d_Mod_thingsOf_135 ?_
    cases hM
    exact g_iret X d_Mod_thingsOf_136
  have hM := fa_if_f hM hc20
  by_cases hc27 : fa_wr (w 184 j1) = 7
  · have hM := fa_if_t hM hc27
    refine g_tableIn X 7 113 d_Mod_thingsOf_6 hc27 (by decide) (by decide) rfl (by decide) ?_
    refine g_iconst X d_Mod_thingsOf_113 ?_
    refine g_aload_n X 0 rfl d_Mod_thingsOf_114 ?_
    refine g_aload_n X 0 rfl d_Mod_thingsOf_115 ?_
    refine g_get X ck_10 fo_181 (fn_181 hN) 5 (by decide) wd_1747 rfl (fr_181_5 rfl hT) d_Mod_thingsOf_116 ?_
    refine g_iload_n X 1 rfl d_Mod_thingsOf_119 ?_
    obtain ⟨j28, ej28, hM⟩ := fa_ob hM
    refine g_iald X fs_185 (fn_185 hN) ej28 d_Mod_thingsOf_120 ?_
    obtain ⟨v30, e29, hM⟩ := fa_ob hM
    refine g_callV_i X ck_10 fo_181 (fn_181 hN) rfl mi_Mod_thingsOf (Rrc_thingsOf (w 185 j28) w _ e29) wd_2232 rfl (by omega) (st := [.int (fa_I 1)]) (Nat.le_of_ble_eq_true rfl) rfl d_Mod_thingsOf_121 ?_
    refine g_iadd X d_Mod_thingsOf_124 ?_
    refine g_aload_n X 0 rfl d_Mod_thingsOf_125 ?_
    refine g_aload_n X 0 rfl d_Mod_thingsOf_126 ?_
    refine g_get X ck_10 fo_181 (fn_181 hN) 6 (by decide) wd_1748 rfl (fr_181_6 rfl hT) d_Mod_thingsOf_127 ?_
    refine g_iload_n X 1 rfl d_Mod_thingsOf_130 ?_
    obtain ⟨j31, ej31, hM⟩ := fa_ob hM
    refine g_iald X fs_186 (fn_186 hN) ej31 d_Mod_thingsOf_131 ?_
    obtain ⟨v33, e32, hM⟩ := fa_ob hM
    refine g_callV_i X ck_10 fo_181 (fn_181 hN) rfl mi_Mod_thingsOf (Rrc_thingsOf (w 186 j31) w _ e32) wd_2232 rfl (by omega) (st := [.int (fa_I (1 + v30))]) (Nat.le_of_ble_eq_true rfl) rfl d_Mod_thingsOf_132 ?_
    refine g_iadd X d_Mod_thingsOf_135 ?_
    cases hM
    exact g_iret X d_Mod_thingsOf_136
  have hM := fa_if_f hM hc27
  by_cases hc34 : fa_wr (w 184 j1) = 8
  · have hM := fa_if_t hM hc34
    refine g_tableIn X 8 113 d_Mod_thingsOf_6 hc34 (by decide) (by decide) rfl (by decide) ?_
    refine g_iconst X d_Mod_thingsOf_113 ?_
    refine g_aload_n X 0 rfl d_Mod_thingsOf_114 ?_
    refine g_aload_n X 0 rfl d_Mod_thingsOf_115 ?_
    refine g_get X ck_10 fo_181 (fn_181 hN) 5 (by decide) wd_1747 rfl (fr_181_5 rfl hT) d_Mod_thingsOf_116 ?_
    refine g_iload_n X 1 rfl d_Mod_thingsOf_119 ?_
    obtain ⟨j35, ej35, hM⟩ := fa_ob hM
    refine g_iald X fs_185 (fn_185 hN) ej35 d_Mod_thingsOf_120 ?_
    obtain ⟨v37, e36, hM⟩ := fa_ob hM
    refine g_callV_i X ck_10 fo_181 (fn_181 hN) rfl mi_Mod_thingsOf (Rrc_thingsOf (w 185 j35) w _ e36) wd_2232 rfl (by omega) (st := [.int (fa_I 1)]) (Nat.le_of_ble_eq_true rfl) rfl d_Mod_thingsOf_121 ?_
    refine g_iadd X d_Mod_thingsOf_124 ?_
    refine g_aload_n X 0 rfl d_Mod_thingsOf_125 ?_
    refine g_aload_n X 0 rfl d_Mod_thingsOf_126 ?_
    refine g_get X ck_10 fo_181 (fn_181 hN) 6 (by decide) wd_1748 rfl (fr_181_6 rfl hT) d_Mod_thingsOf_127 ?_
    refine g_iload_n X 1 rfl d_Mod_thingsOf_130 ?_
    obtain ⟨j38, ej38, hM⟩ := fa_ob hM
    refine g_iald X fs_186 (fn_186 hN) ej38 d_Mod_thingsOf_131 ?_
    obtain ⟨v40, e39, hM⟩ := fa_ob hM
    refine g_callV_i X ck_10 fo_181 (fn_181 hN) rfl mi_Mod_thingsOf (Rrc_thingsOf (w 186 j38) w _ e39) wd_2232 rfl (by omega) (st := [.int (fa_I (1 + v37))]) (Nat.le_of_ble_eq_true rfl) rfl d_Mod_thingsOf_132 ?_
    refine g_iadd X d_Mod_thingsOf_135 ?_
    cases hM
    exact g_iret X d_Mod_thingsOf_136
  have hM := fa_if_f hM hc34
  refine g_tableDef X 137 d_Mod_thingsOf_6 (by
    exact Or.inl (by omega)) (by decide) ?_
  refine g_iconst X d_Mod_thingsOf_137 ?_
  cases hM
  exact g_iret X d_Mod_thingsOf_138
def fm_Mod_thingsOf : Nat → Int → fa_W → Option Int
  | 0, _, _ => none
  | n + 1, a1, w => fm_Mod_thingsOf_b (fm_Mod_thingsOf n) a1 w
set_option maxHeartbeats 4000000 in
set_option maxRecDepth 100000 in
theorem c_Mod_thingsOf {l : Launch} {D : va_G} {b : Nat} {aC : Nat → ClassId} {H0 : Heap} {N T : Nat} (hN : fa_NM ≤ N) (hT : fa_TM ≤ T) : ∀ (n : Nat) (a1 : Int) (w : fa_W) (r : Int), fm_Mod_thingsOf n a1 w = some r → fa_MC l D b aC H0 N T y_Mod_thingsOf prog_12_method_117_code 2 ((Option.some Jvm.ClassFile.FieldType.int)) (1 + n) [.ref (b + 181), .int (fa_I a1)] w (some (.int (fa_I r))) w := by
  intro n
  induction n with
  | zero => intro a1 w r hM; exact fa_no hM
  | succ n ih => intro a1 w r hM; exact c_Mod_thingsOf_b hN hT n (fm_Mod_thingsOf n) ih a1 w r hM
theorem d_Mod_thingsOfBack_0 : decode prog_12_method_118_code 0 = .ok (.aload_n 0, 1) := by decide +kernel
theorem d_Mod_thingsOfBack_1 : decode prog_12_method_118_code 1 = .ok (.aload_n 0, 1) := by decide +kernel
theorem d_Mod_thingsOfBack_2 : decode prog_12_method_118_code 2 = .ok (.getfield 218, 3) := by decide +kernel
theorem d_Mod_thingsOfBack_5 : decode prog_12_method_118_code 5 = .ok (.invokevirtual 600, 3) := by decide +kernel
theorem d_Mod_thingsOfBack_8 : decode prog_12_method_118_code 8 = .ok (.istore_n 1, 1) := by decide +kernel
theorem d_Mod_thingsOfBack_9 : decode prog_12_method_118_code 9 = .ok (.iconst 0, 1) := by decide +kernel
theorem d_Mod_thingsOfBack_10 : decode prog_12_method_118_code 10 = .ok (.istore_n 2, 1) := by decide +kernel
theorem d_Mod_thingsOfBack_11 : decode prog_12_method_118_code 11 = .ok (.iload_n 2, 1) := by decide +kernel
theorem d_Mod_thingsOfBack_12 : decode prog_12_method_118_code 12 = .ok (.aload_n 0, 1) := by decide +kernel
theorem d_Mod_thingsOfBack_13 : decode prog_12_method_118_code 13 = .ok (.getfield 209, 3) := by decide +kernel
theorem d_Mod_thingsOfBack_16 : decode prog_12_method_118_code 16 = .ok (.if_icmp .ge 52, 3) := by decide +kernel
theorem d_Mod_thingsOfBack_19 : decode prog_12_method_118_code 19 = .ok (.iload_n 1, 1) := by decide +kernel
theorem d_Mod_thingsOfBack_20 : decode prog_12_method_118_code 20 = .ok (.aload_n 0, 1) := by decide +kernel
theorem d_Mod_thingsOfBack_21 : decode prog_12_method_118_code 21 = .ok (.getfield 300, 3) := by decide +kernel
theorem d_Mod_thingsOfBack_24 : decode prog_12_method_118_code 24 = .ok (.iload_n 2, 1) := by decide +kernel
theorem d_Mod_thingsOfBack_25 : decode prog_12_method_118_code 25 = .ok (.invokestatic 326, 3) := by decide +kernel
theorem d_Mod_thingsOfBack_28 : decode prog_12_method_118_code 28 = .ok (.ifCond .ne 7, 3) := by decide +kernel
theorem d_Mod_thingsOfBack_31 : decode prog_12_method_118_code 31 = .ok (.iconst 0, 1) := by decide +kernel
theorem d_Mod_thingsOfBack_32 : decode prog_12_method_118_code 32 = .ok (.goto 28, 3) := by decide +kernel
theorem d_Mod_thingsOfBack_35 : decode prog_12_method_118_code 35 = .ok (.aload_n 0, 1) := by decide +kernel
theorem d_Mod_thingsOfBack_36 : decode prog_12_method_118_code 36 = .ok (.getfield 323, 3) := by decide +kernel
theorem d_Mod_thingsOfBack_39 : decode prog_12_method_118_code 39 = .ok (.iload_n 2, 1) := by decide +kernel
theorem d_Mod_thingsOfBack_40 : decode prog_12_method_118_code 40 = .ok (.invokestatic 326, 3) := by decide +kernel
theorem d_Mod_thingsOfBack_43 : decode prog_12_method_118_code 43 = .ok (.ifCond .eq 16, 3) := by decide +kernel
theorem d_Mod_thingsOfBack_46 : decode prog_12_method_118_code 46 = .ok (.aload_n 0, 1) := by decide +kernel
theorem d_Mod_thingsOfBack_47 : decode prog_12_method_118_code 47 = .ok (.aload_n 0, 1) := by decide +kernel
theorem d_Mod_thingsOfBack_48 : decode prog_12_method_118_code 48 = .ok (.getfield 166, 3) := by decide +kernel
theorem d_Mod_thingsOfBack_51 : decode prog_12_method_118_code 51 = .ok (.iload_n 2, 1) := by decide +kernel
theorem d_Mod_thingsOfBack_52 : decode prog_12_method_118_code 52 = .ok (.iaload, 1) := by decide +kernel
theorem d_Mod_thingsOfBack_53 : decode prog_12_method_118_code 53 = .ok (.invokevirtual 600, 3) := by decide +kernel
theorem d_Mod_thingsOfBack_56 : decode prog_12_method_118_code 56 = .ok (.goto 4, 3) := by decide +kernel
theorem d_Mod_thingsOfBack_59 : decode prog_12_method_118_code 59 = .ok (.iconst 1, 1) := by decide +kernel
theorem d_Mod_thingsOfBack_60 : decode prog_12_method_118_code 60 = .ok (.iadd, 1) := by decide +kernel
theorem d_Mod_thingsOfBack_61 : decode prog_12_method_118_code 61 = .ok (.istore_n 1, 1) := by decide +kernel
theorem d_Mod_thingsOfBack_62 : decode prog_12_method_118_code 62 = .ok (.iinc 2 1, 3) := by decide +kernel
theorem d_Mod_thingsOfBack_65 : decode prog_12_method_118_code 65 = .ok (.goto (-54), 3) := by decide +kernel
theorem d_Mod_thingsOfBack_68 : decode prog_12_method_118_code 68 = .ok (.iload_n 1, 1) := by decide +kernel
theorem d_Mod_thingsOfBack_69 : decode prog_12_method_118_code 69 = .ok (.ireturn, 1) := by decide +kernel
def fm_Mod_thingsOfBack_l11 (w : fa_W) : Nat → Int → Int → Option Int
  | 0, _, _ => none
  | n + 1, x1, x2 => if fa_wr (w 181 17) ≤ fa_wr x2 then
  some x1
  else
  (if fm_Mod_holds (w 181 52) x2 w = true then
  (if fm_Mod_holds (w 181 53) x2 w = true then
  ((fa_ix x2 24).bind fun j10 =>
  (fm_Mod_thingsOf 900 (w 189 j10) w).bind fun v12 =>
  fa_let (x1 + v12) fun x1_13 =>
  fa_let (x2 + 1) fun x2_14 =>
  fm_Mod_thingsOfBack_l11 w n x1_13 x2_14)
  else
  (fa_let (x1 + 1) fun x1_8 =>
  fa_let (x2 + 1) fun x2_9 =>
  fm_Mod_thingsOfBack_l11 w n x1_8 x2_9))
  else
  (fa_let (x1 + 0) fun x1_15 =>
  fa_let (x2 + 1) fun x2_16 =>
  fm_Mod_thingsOfBack_l11 w n x1_15 x2_16))
set_option maxHeartbeats 4000000 in
set_option maxRecDepth 100000 in
theorem c_Mod_thingsOfBack_l11 {p : Program} {l : Launch} {e : Env} {s : State} {m : MethodId} {args : Array Value} {below : List Frame} {meth : Method} {c : Code} {hh : Nat} {D : va_G} {b : Nat} {aC : Nat → ClassId} {H0 : Heap} {N T : Nat} (X : fa_GX p s m args meth c prog_12_method_118_code 3 ((Option.some Jvm.ClassFile.FieldType.int)) y_Mod_thingsOfBack.cls D b aC) (hle : 902 ≤ hh) (hN : fa_NM ≤ N) (hT : fa_TM ≤ T) {r : Int} (w : fa_W) : ∀ (n : Nat) (x1 : Int) (x2 : Int), fm_Mod_thingsOfBack_l11 w n x1 x2 = some r → fa_GJ p l e (fa_rm hh) s m args below meth c 0 0 (MQ below (fa_Qc D b aC H0 N T (some (.int (fa_I r))) w) args s 0 0 (fun q => b ≤ q)) D b aC H0 N T 3 w 11 [(0, .ref (b + 181)), (1, .int (fa_I x1)), (2, .int (fa_I x2))] [] := by
  intro n
  induction n with
  | zero => intro x1 x2 hM; exact fa_no hM
  | succ n ih =>
    intro x1 x2 hM
    rw [fm_Mod_thingsOfBack_l11] at hM
    refine g_iload_n X 2 rfl d_Mod_thingsOfBack_11 ?_
    refine g_aload_n X 0 rfl d_Mod_thingsOfBack_12 ?_
    refine g_get X ck_10 fo_181 (fn_181 hN) 17 (by decide) wd_1759 rfl (fa_fvI rfl) d_Mod_thingsOfBack_13 ?_
    refine g_icmp_ge X 68 d_Mod_thingsOfBack_16 (by decide) (fun hc3 => ?_) (fun hc3 => ?_)
    · have hM := fa_if_t hM hc3
      refine g_iload_n X 1 rfl d_Mod_thingsOfBack_68 ?_
      cases hM
      exact g_iret X d_Mod_thingsOfBack_69
    · have hM := fa_if_f hM hc3
      refine g_iload_n X 1 rfl d_Mod_thingsOfBack_19 ?_
      refine g_aload_n X 0 rfl d_Mod_thingsOfBack_20 ?_
      refine g_get X ck_10 fo_181 (fn_181 hN) 52 (by decide) wd_1793 rfl (fa_fvI rfl) d_Mod_thingsOfBack_21 ?_
      refine g_iload_n X 2 rfl d_Mod_thingsOfBack_24 ?_
      refine g_callS_i X mi_Mod_holds (c_Mod_holds hN hT (w 181 52) x2 w _ rfl) wd_1691 rfl (Nat.le_trans (Nat.le_of_ble_eq_true rfl) hle) (st := [.int (fa_I x1)]) (Nat.le_of_ble_eq_true rfl) rfl d_Mod_thingsOfBack_25 ?_
      refine g_ifb_ne X 35 d_Mod_thingsOfBack_28 (by decide) (fun hc5 => ?_) (fun hc5 => ?_)
      · have hM := fa_ifb_t hM hc5
        refine g_aload_n X 0 rfl d_Mod_thingsOfBack_35 ?_
        refine g_get X ck_10 fo_181 (fn_181 hN) 53 (by decide) wd_1794 rfl (fa_fvI rfl) d_Mod_thingsOfBack_36 ?_
        refine g_iload_n X 2 rfl d_Mod_thingsOfBack_39 ?_
        refine g_callS_i X mi_Mod_holds (c_Mod_holds hN hT (w 181 53) x2 w _ rfl) wd_1691 rfl (Nat.le_trans (Nat.le_of_ble_eq_true rfl) hle) (st := [.int (fa_I x1)]) (Nat.le_of_ble_eq_true rfl) rfl d_Mod_thingsOfBack_40 ?_
        refine g_ifb_eq X 59 d_Mod_thingsOfBack_43 (by decide) (fun hc7 => ?_) (fun hc7 => ?_)
        · have hM := fa_ifb_f hM hc7
          refine g_iconst X d_Mod_thingsOfBack_59 ?_
          refine g_iadd X d_Mod_thingsOfBack_60 ?_
          refine g_istore_n X (fun x1_8 => [(1, .int (fa_I x1_8)), (0, .ref (b + 181)), (2, .int (fa_I x2))]) d_Mod_thingsOfBack_61 (by decide) (fun _ => rfl) (fun x1_8 ex1_8 => ?_)
          have hM := fa_let_to hM ex1_8
          refine g_iinc X 2 (fun x2_9 => [(2, .int (fa_I x2_9)), (1, .int (fa_I x1_8)), (0, .ref (b + 181))]) d_Mod_thingsOfBack_62 rfl (by decide) (fun _ => rfl) (fun x2_9 ex2_9 => ?_)
          have hM := fa_let_to hM ex2_9
          refine g_goto X 11 d_Mod_thingsOfBack_65 (by decide) ?_
          exact g_lv [2, 1, 0] rfl (ih _ _ hM)
        · have hM := fa_ifb_t hM hc7
          refine g_aload_n X 0 rfl d_Mod_thingsOfBack_46 ?_
          refine g_aload_n X 0 rfl d_Mod_thingsOfBack_47 ?_
          refine g_get X ck_10 fo_181 (fn_181 hN) 9 (by decide) wd_1751 rfl (fr_181_9 rfl hT) d_Mod_thingsOfBack_48 ?_
          refine g_iload_n X 2 rfl d_Mod_thingsOfBack_51 ?_
          obtain ⟨j10, ej10, hM⟩ := fa_ob hM
          refine g_iald X fs_189 (fn_189 hN) ej10 d_Mod_thingsOfBack_52 ?_
          obtain ⟨v12, e11, hM⟩ := fa_ob hM
          refine g_callV_i X ck_10 fo_181 (fn_181 hN) rfl mi_Mod_thingsOf (c_Mod_thingsOf hN hT 900 (w 189 j10) w _ e11) wd_2232 rfl (Nat.le_trans (Nat.le_of_ble_eq_true rfl) hle) (st := [.int (fa_I x1)]) (Nat.le_of_ble_eq_true rfl) rfl d_Mod_thingsOfBack_53 ?_
          refine g_goto X 60 d_Mod_thingsOfBack_56 (by decide) ?_
          refine g_iadd X d_Mod_thingsOfBack_60 ?_
          refine g_istore_n X (fun x1_13 => [(1, .int (fa_I x1_13)), (0, .ref (b + 181)), (2, .int (fa_I x2))]) d_Mod_thingsOfBack_61 (by decide) (fun _ => rfl) (fun x1_13 ex1_13 => ?_)
          have hM := fa_let_to hM ex1_13
          refine g_iinc X 2 (fun x2_14 => [(2, .int (fa_I x2_14)), (1, .int (fa_I x1_13)), (0, .ref (b + 181))]) d_Mod_thingsOfBack_62 rfl (by decide) (fun _ => rfl) (fun x2_14 ex2_14 => ?_)
          have hM := fa_let_to hM ex2_14
          refine g_goto X 11 d_Mod_thingsOfBack_65 (by decide) ?_
          exact g_lv [2, 1, 0] rfl (ih _ _ hM)
      · have hM := fa_ifb_f hM hc5
        refine g_iconst X d_Mod_thingsOfBack_31 ?_
        refine g_goto X 60 d_Mod_thingsOfBack_32 (by decide) ?_
        refine g_iadd X d_Mod_thingsOfBack_60 ?_
        refine g_istore_n X (fun x1_15 => [(1, .int (fa_I x1_15)), (0, .ref (b + 181)), (2, .int (fa_I x2))]) d_Mod_thingsOfBack_61 (by decide) (fun _ => rfl) (fun x1_15 ex1_15 => ?_)
        have hM := fa_let_to hM ex1_15
        refine g_iinc X 2 (fun x2_16 => [(2, .int (fa_I x2_16)), (1, .int (fa_I x1_15)), (0, .ref (b + 181))]) d_Mod_thingsOfBack_62 rfl (by decide) (fun _ => rfl) (fun x2_16 ex2_16 => ?_)
        have hM := fa_let_to hM ex2_16
        refine g_goto X 11 d_Mod_thingsOfBack_65 (by decide) ?_
        exact g_lv [2, 1, 0] rfl (ih _ _ hM)
def fm_Mod_thingsOfBack (w : fa_W) : Option Int :=
  (fm_Mod_thingsOf 900 (w 181 21) w).bind fun v2 =>
  fm_Mod_thingsOfBack_l11 w fa_FU v2 0
set_option maxHeartbeats 4000000 in
set_option maxRecDepth 100000 in
theorem c_Mod_thingsOfBack {l : Launch} {D : va_G} {b : Nat} {aC : Nat → ClassId} {H0 : Heap} {N T : Nat} (hN : fa_NM ≤ N) (hT : fa_TM ≤ T)   (w : fa_W) (r : Int) (hM : fm_Mod_thingsOfBack w = some r) : fa_MC l D b aC H0 N T y_Mod_thingsOfBack prog_12_method_118_code 3 ((Option.some Jvm.ClassFile.FieldType.int)) (902) [.ref (b + 181)] w (some (.int (fa_I r))) w := by
  refine fa_enter (lv := [(0, .ref (b + 181))]) (by decide +kernel) (Nat.le_of_ble_eq_true rfl) rfl (fun hh hle hnm X => ?_)
  unfold fm_Mod_thingsOfBack at hM
  refine g_aload_n X 0 rfl d_Mod_thingsOfBack_0 ?_
  refine g_aload_n X 0 rfl d_Mod_thingsOfBack_1 ?_
  refine g_get X ck_10 fo_181 (fn_181 hN) 21 (by decide) wd_1763 rfl (fa_fvI rfl) d_Mod_thingsOfBack_2 ?_
  obtain ⟨v2, e1, hM⟩ := fa_ob hM
  refine g_callV_i X ck_10 fo_181 (fn_181 hN) rfl mi_Mod_thingsOf (c_Mod_thingsOf hN hT 900 (w 181 21) w _ e1) wd_2232 rfl (Nat.le_trans (Nat.le_of_ble_eq_true rfl) hle) (st := []) (Nat.le_of_ble_eq_true rfl) rfl d_Mod_thingsOfBack_5 ?_
  refine g_istorec_n X [(1, .int (fa_I v2)), (0, .ref (b + 181))] d_Mod_thingsOfBack_8 (by decide) rfl ?_
  refine g_iconst X d_Mod_thingsOfBack_9 ?_
  refine g_istorec_n X [(2, .int (fa_I 0)), (1, .int (fa_I v2)), (0, .ref (b + 181))] d_Mod_thingsOfBack_10 (by decide) rfl ?_
  exact g_lv [2, 1, 0] rfl (c_Mod_thingsOfBack_l11 X hle hN hT w  fa_FU _ _ hM)
theorem d_Mod_count_0 : decode prog_12_method_119_code 0 = .ok (.aload_n 0, 1) := by decide +kernel
theorem d_Mod_count_1 : decode prog_12_method_119_code 1 = .ok (.iconst 0, 1) := by decide +kernel
theorem d_Mod_count_2 : decode prog_12_method_119_code 2 = .ok (.putfield 1, 3) := by decide +kernel
theorem d_Mod_count_5 : decode prog_12_method_119_code 5 = .ok (.iload_n 1, 1) := by decide +kernel
theorem d_Mod_count_6 : decode prog_12_method_119_code 6 = .ok (.tableswitch 133 0 12 #[66, 71, 76, 81, 86, 91, 96, 101, 107, 113, 118, 123, 128], 66) := by decide +kernel
theorem d_Mod_count_72 : decode prog_12_method_119_code 72 = .ok (.aload_n 0, 1) := by decide +kernel
theorem d_Mod_count_73 : decode prog_12_method_119_code 73 = .ok (.getfield 209, 3) := by decide +kernel
theorem d_Mod_count_76 : decode prog_12_method_119_code 76 = .ok (.ireturn, 1) := by decide +kernel
theorem d_Mod_count_77 : decode prog_12_method_119_code 77 = .ok (.aload_n 0, 1) := by decide +kernel
theorem d_Mod_count_78 : decode prog_12_method_119_code 78 = .ok (.getfield 140, 3) := by decide +kernel
theorem d_Mod_count_81 : decode prog_12_method_119_code 81 = .ok (.ireturn, 1) := by decide +kernel
theorem d_Mod_count_82 : decode prog_12_method_119_code 82 = .ok (.aload_n 0, 1) := by decide +kernel
theorem d_Mod_count_83 : decode prog_12_method_119_code 83 = .ok (.getfield 197, 3) := by decide +kernel
theorem d_Mod_count_86 : decode prog_12_method_119_code 86 = .ok (.ireturn, 1) := by decide +kernel
theorem d_Mod_count_87 : decode prog_12_method_119_code 87 = .ok (.aload_n 0, 1) := by decide +kernel
theorem d_Mod_count_88 : decode prog_12_method_119_code 88 = .ok (.getfield 106, 3) := by decide +kernel
theorem d_Mod_count_91 : decode prog_12_method_119_code 91 = .ok (.ireturn, 1) := by decide +kernel
theorem d_Mod_count_92 : decode prog_12_method_119_code 92 = .ok (.aload_n 0, 1) := by decide +kernel
theorem d_Mod_count_93 : decode prog_12_method_119_code 93 = .ok (.getfield 335, 3) := by decide +kernel
theorem d_Mod_count_96 : decode prog_12_method_119_code 96 = .ok (.ireturn, 1) := by decide +kernel
theorem d_Mod_count_97 : decode prog_12_method_119_code 97 = .ok (.aload_n 0, 1) := by decide +kernel
theorem d_Mod_count_98 : decode prog_12_method_119_code 98 = .ok (.getfield 300, 3) := by decide +kernel
theorem d_Mod_count_101 : decode prog_12_method_119_code 101 = .ok (.ireturn, 1) := by decide +kernel
theorem d_Mod_count_102 : decode prog_12_method_119_code 102 = .ok (.aload_n 0, 1) := by decide +kernel
theorem d_Mod_count_103 : decode prog_12_method_119_code 103 = .ok (.getfield 323, 3) := by decide +kernel
theorem d_Mod_count_106 : decode prog_12_method_119_code 106 = .ok (.ireturn, 1) := by decide +kernel
theorem d_Mod_count_107 : decode prog_12_method_119_code 107 = .ok (.aload_n 0, 1) := by decide +kernel
theorem d_Mod_count_108 : decode prog_12_method_119_code 108 = .ok (.iconst 0, 1) := by decide +kernel
theorem d_Mod_count_109 : decode prog_12_method_119_code 109 = .ok (.invokevirtual 603, 3) := by decide +kernel
theorem d_Mod_count_112 : decode prog_12_method_119_code 112 = .ok (.ireturn, 1) := by decide +kernel
theorem d_Mod_count_113 : decode prog_12_method_119_code 113 = .ok (.aload_n 0, 1) := by decide +kernel
theorem d_Mod_count_114 : decode prog_12_method_119_code 114 = .ok (.iconst 1, 1) := by decide +kernel
theorem d_Mod_count_115 : decode prog_12_method_119_code 115 = .ok (.invokevirtual 603, 3) := by decide +kernel
theorem d_Mod_count_118 : decode prog_12_method_119_code 118 = .ok (.ireturn, 1) := by decide +kernel
theorem d_Mod_count_119 : decode prog_12_method_119_code 119 = .ok (.aload_n 0, 1) := by decide +kernel
theorem d_Mod_count_120 : decode prog_12_method_119_code 120 = .ok (.getfield 375, 3) := by decide +kernel
theorem d_Mod_count_123 : decode prog_12_method_119_code 123 = .ok (.ireturn, 1) := by decide +kernel
theorem d_Mod_count_124 : decode prog_12_method_119_code 124 = .ok (.aload_n 0, 1) := by decide +kernel
theorem d_Mod_count_125 : decode prog_12_method_119_code 125 = .ok (.getfield 482, 3) := by decide +kernel
theorem d_Mod_count_128 : decode prog_12_method_119_code 128 = .ok (.ireturn, 1) := by decide +kernel
theorem d_Mod_count_129 : decode prog_12_method_119_code 129 = .ok (.aload_n 0, 1) := by decide +kernel
theorem d_Mod_count_130 : decode prog_12_method_119_code 130 = .ok (.invokevirtual 607, 3) := by decide +kernel
theorem d_Mod_count_133 : decode prog_12_method_119_code 133 = .ok (.ireturn, 1) := by decide +kernel
theorem d_Mod_count_134 : decode prog_12_method_119_code 134 = .ok (.aload_n 0, 1) := by decide +kernel
theorem d_Mod_count_135 : decode prog_12_method_119_code 135 = .ok (.invokevirtual 610, 3) := by decide +kernel
theorem d_Mod_count_138 : decode prog_12_method_119_code 138 = .ok (.ireturn, 1) := by decide +kernel
theorem d_Mod_count_139 : decode prog_12_method_119_code 139 = .ok (.iconst (-1), 1) := by decide +kernel
theorem d_Mod_count_140 : decode prog_12_method_119_code 140 = .ok (.ireturn, 1) := by decide +kernel
def fm_Mod_count (a1 : Int) (w : fa_W) : Option (Int × fa_W) :=
  fa_let (fa_st w 181 0 0) fun w1 =>
  if fa_wr a1 = 0 then
  some (w1 181 17, w1)
  else
  if fa_wr a1 = 1 then
  some (w1 181 18, w1)
  else
  if fa_wr a1 = 2 then
  some (w1 181 20, w1)
  else
  if fa_wr a1 = 3 then
  some (w1 181 35, w1)
  else
  if fa_wr a1 = 4 then
  some (w1 181 54, w1)
  else
  if fa_wr a1 = 5 then
  some (w1 181 52, w1)
  else
  if fa_wr a1 = 6 then
  some (w1 181 53, w1)
  else
  if fa_wr a1 = 7 then
  ((fm_Mod_looked false w1).bind fun v11 =>
  some (v11, w1))
  else
  if fa_wr a1 = 8 then
  ((fm_Mod_looked true w1).bind fun v14 =>
  some (v14, w1))
  else
  if fa_wr a1 = 9 then
  some (w1 181 64, w1)
  else
  if fa_wr a1 = 10 then
  some (w1 181 70, w1)
  else
  if fa_wr a1 = 11 then
  ((fm_Mod_fieldsOfMade w1).bind fun v19 =>
  some (v19, w1))
  else
  if fa_wr a1 = 12 then
  ((fm_Mod_thingsOfBack w1).bind fun v22 =>
  some (v22, w1))
  else
  some ((-1), w1)
set_option maxHeartbeats 4000000 in
set_option maxRecDepth 100000 in
theorem c_Mod_count {l : Launch} {D : va_G} {b : Nat} {aC : Nat → ClassId} {H0 : Heap} {N T : Nat} (hN : fa_NM ≤ N) (hT : fa_TM ≤ T) (a1 : Int)  (w : fa_W) (r : Int × fa_W) (hM : fm_Mod_count a1 w = some r) : fa_MC l D b aC H0 N T y_Mod_count prog_12_method_119_code 2 ((Option.some Jvm.ClassFile.FieldType.int)) (903) [.ref (b + 181), .int (fa_I a1)] w (some (.int (fa_I r.1))) r.2 := by
  refine fa_enter (lv := [(0, .ref (b + 181)), (1, .int (fa_I a1))]) (by decide +kernel) (Nat.le_of_ble_eq_true rfl) rfl (fun hh hle hnm X => ?_)
  unfold fm_Mod_count at hM
  refine g_aload_n X 0 rfl d_Mod_count_0 ?_
  refine g_iconst X d_Mod_count_1 ?_
  refine g_put X ck_10 fo_181 (fn_181 hN) 0 (z := 0) (by decide) wd_1742 rfl (fa_fvI' rfl) rfl rfl rfl d_Mod_count_2 (fun w1 ew1 => ?_)
  have hM := fa_let_to hM ew1
  refine g_iload_n X 1 rfl d_Mod_count_5 ?_
  by_cases hc2 : fa_wr a1 = 0
  · have hM := fa_if_t hM hc2
    refine g_tableIn X 0 72 d_Mod_count_6 hc2 (by decide) (by decide) rfl (by decide) ?_
    refine g_aload_n X 0 rfl d_Mod_count_72 ?_
    refine g_get X ck_10 fo_181 (fn_181 hN) 17 (by decide) wd_1759 rfl (fa_fvI rfl) d_Mod_count_73 ?_
    cases hM
    exact g_iret X d_Mod_count_76
  have hM := fa_if_f hM hc2
  by_cases hc3 : fa_wr a1 = 1
  · have hM := fa_if_t hM hc3
    refine g_tableIn X 1 77 d_Mod_count_6 hc3 (by decide) (by decide) rfl (by decide) ?_
    refine g_aload_n X 0 rfl d_Mod_count_77 ?_
    refine g_get X ck_10 fo_181 (fn_181 hN) 18 (by decide) wd_1760 rfl (fa_fvI rfl) d_Mod_count_78 ?_
    cases hM
    exact g_iret X d_Mod_count_81
  have hM := fa_if_f hM hc3
  by_cases hc4 : fa_wr a1 = 2
  · have hM := fa_if_t hM hc4
    refine g_tableIn X 2 82 d_Mod_count_6 hc4 (by decide) (by decide) rfl (by decide) ?_
    refine g_aload_n X 0 rfl d_Mod_count_82 ?_
    refine g_get X ck_10 fo_181 (fn_181 hN) 20 (by decide) wd_1762 rfl (fa_fvI rfl) d_Mod_count_83 ?_
    cases hM
    exact g_iret X d_Mod_count_86
  have hM := fa_if_f hM hc4
  by_cases hc5 : fa_wr a1 = 3
  · have hM := fa_if_t hM hc5
    refine g_tableIn X 3 87 d_Mod_count_6 hc5 (by decide) (by decide) rfl (by decide) ?_
    refine g_aload_n X 0 rfl d_Mod_count_87 ?_
    refine g_get X ck_10 fo_181 (fn_181 hN) 35 (by decide) wd_1776 rfl (fa_fvI rfl) d_Mod_count_88 ?_
    cases hM
    exact g_iret X d_Mod_count_91
  have hM := fa_if_f hM hc5
  by_cases hc6 : fa_wr a1 = 4
  · have hM := fa_if_t hM hc6
    refine g_tableIn X 4 92 d_Mod_count_6 hc6 (by decide) (by decide) rfl (by decide) ?_
    refine g_aload_n X 0 rfl d_Mod_count_92 ?_
    refine g_get X ck_10 fo_181 (fn_181 hN) 54 (by decide) wd_1795 rfl (fa_fvI rfl) d_Mod_count_93 ?_
    cases hM
    exact g_iret X d_Mod_count_96
  have hM := fa_if_f hM hc6
  by_cases hc7 : fa_wr a1 = 5
  · have hM := fa_if_t hM hc7
    refine g_tableIn X 5 97 d_Mod_count_6 hc7 (by decide) (by decide) rfl (by decide) ?_
    refine g_aload_n X 0 rfl d_Mod_count_97 ?_
    refine g_get X ck_10 fo_181 (fn_181 hN) 52 (by decide) wd_1793 rfl (fa_fvI rfl) d_Mod_count_98 ?_
    cases hM
    exact g_iret X d_Mod_count_101
  have hM := fa_if_f hM hc7
  by_cases hc8 : fa_wr a1 = 6
  · have hM := fa_if_t hM hc8
    refine g_tableIn X 6 102 d_Mod_count_6 hc8 (by decide) (by decide) rfl (by decide) ?_
    refine g_aload_n X 0 rfl d_Mod_count_102 ?_
    refine g_get X ck_10 fo_181 (fn_181 hN) 53 (by decide) wd_1794 rfl (fa_fvI rfl) d_Mod_count_103 ?_
    cases hM
    exact g_iret X d_Mod_count_106
  have hM := fa_if_f hM hc8
  by_cases hc9 : fa_wr a1 = 7
  · have hM := fa_if_t hM hc9
    refine g_tableIn X 7 107 d_Mod_count_6 hc9 (by decide) (by decide) rfl (by decide) ?_
    refine g_aload_n X 0 rfl d_Mod_count_107 ?_
    refine g_iconst X d_Mod_count_108 ?_
    obtain ⟨v11, e10, hM⟩ := fa_ob hM
    refine g_callV_i X ck_10 fo_181 (fn_181 hN) rfl mi_Mod_looked (c_Mod_looked hN hT false w1 _ e10) wd_2220 rfl (Nat.le_trans (Nat.le_of_ble_eq_true rfl) hle) (st := []) (Nat.le_of_ble_eq_true rfl) rfl d_Mod_count_109 ?_
    cases hM
    exact g_iret X d_Mod_count_112
  have hM := fa_if_f hM hc9
  by_cases hc12 : fa_wr a1 = 8
  · have hM := fa_if_t hM hc12
    refine g_tableIn X 8 113 d_Mod_count_6 hc12 (by decide) (by decide) rfl (by decide) ?_
    refine g_aload_n X 0 rfl d_Mod_count_113 ?_
    refine g_iconst X d_Mod_count_114 ?_
    obtain ⟨v14, e13, hM⟩ := fa_ob hM
    refine g_callV_i X ck_10 fo_181 (fn_181 hN) rfl mi_Mod_looked (c_Mod_looked hN hT true w1 _ e13) wd_2220 rfl (Nat.le_trans (Nat.le_of_ble_eq_true rfl) hle) (st := []) (Nat.le_of_ble_eq_true rfl) rfl d_Mod_count_115 ?_
    cases hM
    exact g_iret X d_Mod_count_118
  have hM := fa_if_f hM hc12
  by_cases hc15 : fa_wr a1 = 9
  · have hM := fa_if_t hM hc15
    refine g_tableIn X 9 119 d_Mod_count_6 hc15 (by decide) (by decide) rfl (by decide) ?_
    refine g_aload_n X 0 rfl d_Mod_count_119 ?_
    refine g_get X ck_10 fo_181 (fn_181 hN) 64 (by decide) wd_1805 rfl (fa_fvI rfl) d_Mod_count_120 ?_
    cases hM
    exact g_iret X d_Mod_count_123
  have hM := fa_if_f hM hc15
  by_cases hc16 : fa_wr a1 = 10
  · have hM := fa_if_t hM hc16
    refine g_tableIn X 10 124 d_Mod_count_6 hc16 (by decide) (by decide) rfl (by decide) ?_
    refine g_aload_n X 0 rfl d_Mod_count_124 ?_
    refine g_get X ck_10 fo_181 (fn_181 hN) 70 (by decide) wd_1811 rfl (fa_fvI rfl) d_Mod_count_125 ?_
    cases hM
    exact g_iret X d_Mod_count_128
  have hM := fa_if_f hM hc16
  by_cases hc17 : fa_wr a1 = 11
  · have hM := fa_if_t hM hc17
    refine g_tableIn X 11 129 d_Mod_count_6 hc17 (by decide) (by decide) rfl (by decide) ?_
    refine g_aload_n X 0 rfl d_Mod_count_129 ?_
    obtain ⟨v19, e18, hM⟩ := fa_ob hM
    refine g_callV_i X ck_10 fo_181 (fn_181 hN) rfl mi_Mod_fieldsOfMade (c_Mod_fieldsOfMade hN hT w1 _ e18) wd_2224 rfl (Nat.le_trans (Nat.le_of_ble_eq_true rfl) hle) (st := []) (Nat.le_of_ble_eq_true rfl) rfl d_Mod_count_130 ?_
    cases hM
    exact g_iret X d_Mod_count_133
  have hM := fa_if_f hM hc17
  by_cases hc20 : fa_wr a1 = 12
  · have hM := fa_if_t hM hc20
    refine g_tableIn X 12 134 d_Mod_count_6 hc20 (by decide) (by decide) rfl (by decide) ?_
    refine g_aload_n X 0 rfl d_Mod_count_134 ?_
    obtain ⟨v22, e21, hM⟩ := fa_ob hM
    refine g_callV_i X ck_10 fo_181 (fn_181 hN) rfl mi_Mod_thingsOfBack (c_Mod_thingsOfBack hN hT w1 _ e21) wd_2228 rfl (Nat.le_trans (Nat.le_of_ble_eq_true rfl) hle) (st := []) (Nat.le_of_ble_eq_true rfl) rfl d_Mod_count_135 ?_
    cases hM
    exact g_iret X d_Mod_count_138
  have hM := fa_if_f hM hc20
  refine g_tableDef X 139 d_Mod_count_6 (by
    exact Or.inl (by omega)) (by decide) ?_
  refine g_iconst X d_Mod_count_139 ?_
  cases hM
  exact g_iret X d_Mod_count_140
