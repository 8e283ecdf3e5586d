section FaStr
variable {p : Program} {l : Launch} {e : Env} {R : Room} {s : State} {m : MethodId} {args : Array Value} {below : List Frame} {meth : Method} {c : Code} {cells slots : Nat} {Q : State → Prop}
variable {D : va_G} {b : Nat} {aC : Nat → ClassId} {H0 : Heap} {N T : Nat} {cc : ByteArray} {nL : Nat} {ret : Option FieldType} {own : String} {w w1 : fa_W} {pc : Nat} {lv : List (Nat × Value)} {st : List Value}
def fs_len (i : Fin 35) : Int := ((fa_lens.getD i.val 0 : Nat) : Int)
def fs_ch (i : Fin 35) (j : Nat) : Int := ((fa_byts.getD i.val []).getD j 0).toInt
theorem fs_I (i : Fin 35) (j : Nat) : fa_I (fs_ch i j) = (fa_byts.getD i.val []).getD j 0 := Int32.ofInt_toInt _
theorem fs_lt (i : Fin 35) : i.val < fa_lens.length := by have := i.isLt; rw [show fa_lens.length = 35 by decide +kernel]; exact this
theorem fs_ok (i : Fin 35) (j : Nat) : (fa_I (fs_ch i j) &&& 255) = fa_I (fs_ch i j) ∧ ((fa_I (fs_ch i j)).toUInt32 % 65536).toInt32 = fa_I (fs_ch i j) ∧ narrow .char (.int (fa_I (fs_ch i j))) = .int (fa_I (fs_ch i j)) := by
  rw [fs_I]
  have h : (fa_byts.all fun l => l.all fun b => decide ((b &&& 255) = b) && decide ((b.toUInt32 % 65536).toInt32 = b) && decide (narrow .char (.int b) = .int b)) = true := by decide +kernel
  have h0 : ((0 : Int32) &&& 255) = 0 ∧ ((0 : Int32).toUInt32 % 65536).toInt32 = 0 ∧ narrow .char (.int 0) = .int 0 := by decide +kernel
  rw [List.getD_eq_getElem?_getD]
  cases hj : (fa_byts.getD i.val [])[j]? with
  | none => exact h0
  | some q =>
    have h1 : fa_byts.getD i.val [] ∈ fa_byts := by
      have hlen : i.val < fa_byts.length := by have := i.isLt; rw [show fa_byts.length = 35 by decide +kernel]; exact this
      rw [List.getD_eq_getElem?_getD, List.getElem?_eq_getElem hlen]
      exact List.getElem_mem hlen
    have h2 := List.all_eq_true.mp (List.all_eq_true.mp h _ h1) q (List.mem_of_getElem? hj)
    simp only [Bool.and_eq_true, decide_eq_true_eq] at h2
    exact ⟨h2.1.1, h2.1.2, h2.2⟩
theorem fs_e1 : ∀ i : Fin 35, fa_I (fa_ishr (fs_len i) 0) = fa_I (fs_len i) := by decide +kernel
theorem fs_e2 : ∀ i : Fin 35, fa_wr (fs_len i) = fs_len i := by decide +kernel
theorem g_sget (X : fa_GX p s m args meth c cc nL ret own D b aC) (i : Fin 35) {n d : String} {v : Value} {idx : Nat} (hE : va_OF "java/lang/String" n d v (D.2 100 i.val) (fun q => b ≤ q) s s.heap) (hw : Cond.fieldLink own idx "java/lang/String" n d ∈ fa_wG) (hd : decode cc pc = .ok (.getfield idx, 3)) (k : fa_GJ p l e R s m args below meth c cells slots Q D b aC H0 N T nL w (pc + 3) lv (v :: st)) : fa_GJ p l e R s m args below meth c cells slots Q D b aC H0 N T nL w pc lv (.ref (D.2 100 i.val) :: st) := fun H locs ls hP hS hl =>
  vk_getf X.1.1 X.1.2.1 hE hS X.1.2.2.2.1 (X.1.2.2.2.2 _ hw) (fun _ h => h) hd (k H locs ls hP hS hl)
theorem g_slen (X : fa_GX p s m args meth c cc nL ret own D b aC) (i : Fin 35) (hd : decode cc pc = .ok (.arraylength, 1)) (k : fa_GJ p l e R s m args below meth c cells slots Q D b aC H0 N T nL w (pc + 1) lv (.int (fa_I (fs_len i)) :: st)) : fa_GJ p l e R s m args below meth c cells slots Q D b aC H0 N T nL w pc lv (.ref (D.2 101 i.val) :: st) := fun H locs ls hP hS hl =>
  va_tlen X.1.1 X.1.2.1 (X.2.2.2.1.2.2.1.2.1 _ (fs_lt i)).2.2.2 hS (v := fa_I (fs_len i)) rfl hd (k H locs ls hP hS hl)
theorem g_sld (X : fa_GX p s m args meth c cc nL ret own D b aC) (i : Fin 35) {x : Int} {j : Nat} (hx : fa_ix x (fa_lens.getD i.val 0) = some j) (hd : decode cc pc = .ok (.baload, 1)) (k : fa_GJ p l e R s m args below meth c cells slots Q D b aC H0 N T nL w (pc + 1) lv (.int (fa_I (fs_ch i j)) :: st)) : fa_GJ p l e R s m args below meth c cells slots Q D b aC H0 N T nL w pc lv (.int (fa_I x) :: .ref (D.2 101 i.val) :: st) := fun H locs ls hP hS hl =>
  va_tb X.1.1 X.1.2.1 (X.2.2.2.1.2.2.1.2.1 _ (fs_lt i)).2.2.2 hS (fa_ix_in hx).1 (v := .int (fa_I (fs_ch i j))) (by rw [(fa_ix_in hx).2, fs_I]) hd (k H locs ls hP hS hl)
theorem g_getCS (X : fa_GX p s m args meth c cc nL ret own D b aC) {idx : Nat} (hw : Cond.fieldLink own idx "java/lang/String" "COMPACT_STRINGS" "Z" ∈ fa_wG) (hd : decode cc pc = .ok (.getstatic idx, 3)) (k : fa_GJ p l e R s m args below meth c cells slots Q D b aC H0 N T nL w (pc + 3) lv (.int (fa_I (fa_bi true)) :: st)) : fa_GJ p l e R s m args below meth c cells slots Q D b aC H0 N T nL w pc lv st := fun H locs ls hP hS hl =>
  va_gets X.1.1 X.1.2.1 X.2.2.2.1.2.2.1.2.2.1 hS X.1.2.2.2.1 (X.1.2.2.2.2 _ hw) (fun _ h => h) hd (k H locs ls hP hS hl)
theorem g_getSF (X : fa_GX p s m args meth c cc nL ret own D b aC) {idx : Nat} (hw : Cond.fieldLink own idx "jdk/internal/util/Preconditions" "SIOOBE_FORMATTER" "Ljava/util/function/BiFunction;" ∈ fa_wG) (hd : decode cc pc = .ok (.getstatic idx, 3)) (k : ∀ v : Value, (v = .null ∨ ∃ t, v = .ref t) → fa_GJ p l e R s m args below meth c cells slots Q D b aC H0 N T nL w (pc + 3) lv (v :: st)) : fa_GJ p l e R s m args below meth c cells slots Q D b aC H0 N T nL w pc lv st := fun H locs ls hP hS hl => by
  rcases X.2.2.2.1.2.2.1.2.2.2.1 with h | ⟨t, h⟩
  · exact va_gets X.1.1 X.1.2.1 h hS X.1.2.2.2.1 (X.1.2.2.2.2 _ hw) (fun _ h => h) hd (k _ (Or.inl rfl) H locs ls hP hS hl)
  · exact va_gets X.1.1 X.1.2.1 h hS X.1.2.2.2.1 (X.1.2.2.2.2 _ hw) (fun _ h => h) hd (k _ (Or.inr ⟨t, rfl⟩) H locs ls hP hS hl)
theorem g_ldcs (X : fa_GX p s m args meth c cc nL ret own D b aC) {k : Nat} {tx : String} (i : Fin 35) (hm : (own, k, tx, i.val) ∈ fa_strI) (hd : decode cc pc = .ok (.ldc k, 2)) (kk : fa_GJ p l e R s m args below meth c cells slots Q D b aC H0 N T nL w (pc + 2) lv (.ref (D.2 100 i.val) :: st)) : fa_GJ p l e R s m args below meth c cells slots Q D b aC H0 N T nL w pc lv st := fun H locs ls hP hS hl =>
  va_ldcS X.1.1 X.1.2.1 X.1.2.2.2.1 (X.2.2.2.1.2.2.2.1 _ hm) hd (kk H locs ls hP hS hl)
theorem g_i2c (X : fa_GX p s m args meth c cc nL ret own D b aC) {x v : Int} (hv : ((fa_I x).toUInt32 % 65536).toInt32 = fa_I v) (hd : decode cc pc = .ok (.i2c, 1)) (k : fa_GJ p l e R s m args below meth c cells slots Q D b aC H0 N T nL w (pc + 1) lv (.int (fa_I v) :: st)) : fa_GJ p l e R s m args below meth c cells slots Q D b aC H0 N T nL w pc lv (.int (fa_I x) :: st) := fun H locs ls hP hS hl =>
  lv_i2c X.1.1 X.1.2.1 hd hv (k H locs ls hP hS hl)
theorem g_nret (X : fa_GX p s m args meth c cc nL ret own D b aC) {ty : FieldType} {x : Int} (hr : ret = some ty) (hn : narrow ty (.int (fa_I x)) = .int (fa_I x)) (hd : decode cc pc = .ok (.ireturn, 1)) : fa_GJ p l e R s m args below meth c cells slots (MQ below (fa_Qc D b aC H0 N T (some (.int (fa_I x))) w) args s cells slots (fun q => b ≤ q)) D b aC H0 N T nL w pc lv [.int (fa_I x)] := fun H locs ls hP hS hl =>
  W.zret X.1.1 X.1.2.1 (X.2.2.1.trans hr) hn (fun t ht _ => ⟨rfl, by rw [ht]; exact hP, hS.F ht⟩) (fun q hq => hS.2.2 q hq) hd X.2.1
theorem g_srecv (X : fa_GX p s m args meth c cc nL ret own D b aC) (i : Fin 35) {H : Heap} {locs : List Loc} (hS : va_S (fun q => b ≤ q) s.heap H locs) : ∃ cellB : Cell, H[D.2 100 i.val]? = some cellB ∧ cellB.vm.isStatics = false ∧ s.vm.findClass "java/lang/String" = some cellB.cls := by
  have h := va_O.kept (X.2.2.2.1.2.2.1.2.1 _ (fs_lt i)).1 hS.2.1
  obtain ⟨cell, h1, h2, h3, h4⟩ := h
  exact ⟨cell, h1, by rw [h2], h3⟩
theorem g_callT (X : fa_GX p s m args meth c cc nL ret own D b aC) (i : Fin 35) {y : MethodName} {bytes : ByteArray} {maxL n hg hh idx mc ms : Nat} {retM : Option FieldType} {As : List Value} {v0 : Value} (hC : y.cls = "java/lang/String") (hI : fa_MI y bytes maxL retM n) (hM : fa_MC l D b aC H0 N T y bytes maxL retM hg (.ref (D.2 100 i.val) :: As) w (some v0) w1) (hw : Cond.methodLink own idx y ∈ fa_wG) (hn : As.length = n) (hg' : hg + 1 ≤ hh) (hs : ((st.map fun v => v.category).sum ≤ 8)) {st0 : List Value} (he : st0 = As.reverse ++ .ref (D.2 100 i.val) :: st) (hd : decode cc pc = .ok (.invokevirtual idx, 3))
    (k : fa_GJ p l e (fa_rmc hh mc ms) s m args below meth c 0 0 Q D b aC H0 N T nL w1 (pc + 3) lv (v0 :: st)) : fa_GJ p l e (fa_rmc hh mc ms) s m args below meth c 0 0 Q D b aC H0 N T nL w pc lv st0 := fun H locs ls hP hS hl => by
  subst he
  obtain ⟨⟨i1, i2, i3, i4⟩, i5, i6⟩ := hI
  rw [hC] at i6
  exact fa_go X (va_runV (C := "java/lang/String") X.1 (hM hg (Nat.le_refl _)) ⟨callB_of n X.1.2.2.2.2 (fa_goodC i1) rfl rfl rfl (X.1.2.2.2.2 _ i2) (X.1.2.2.2.2 _ hw) i3 (fa_room hg' i4), X.1.2.2.2.2 _ i5, X.1.2.2.2.2 _ i6⟩ ⟨fa_blind, g_srecv X i hS, fun U hU hW => ⟨rfl, by rw [hU]; exact hP, X.2.2.2.1.move hW hS hU⟩⟩ rfl hn hl.1 rfl (lv_room hs) hd ⟨Nat.zero_le _, Nat.zero_le _⟩) hS hl k
end FaStr
theorem d_Preconditions_checkIndex_0 : decode prog_31_method_11_code 0 = .ok (.iload_n 0, 1) := by decide +kernel
theorem d_Preconditions_checkIndex_1 : decode prog_31_method_11_code 1 = .ok (.ifCond .lt 8, 3) := by decide +kernel
theorem d_Preconditions_checkIndex_4 : decode prog_31_method_11_code 4 = .ok (.iload_n 0, 1) := by decide +kernel
theorem d_Preconditions_checkIndex_5 : decode prog_31_method_11_code 5 = .ok (.iload_n 1, 1) := by decide +kernel
theorem d_Preconditions_checkIndex_6 : decode prog_31_method_11_code 6 = .ok (.if_icmp .lt 10, 3) := by decide +kernel
theorem d_Preconditions_checkIndex_16 : decode prog_31_method_11_code 16 = .ok (.iload_n 0, 1) := by decide +kernel
theorem d_Preconditions_checkIndex_17 : decode prog_31_method_11_code 17 = .ok (.ireturn, 1) := by decide +kernel
set_option maxHeartbeats 4000000 in
set_option maxRecDepth 100000 in
theorem c_Preconditions_checkIndex {l : Launch} {D : va_G} {b : Nat} {aC : Nat → ClassId} {H0 : Heap} {N T : Nat} (x y : Int) (v : Value) (hv : v = .null ∨ ∃ t, v = .ref t) (h1 : ¬ fa_wr x < 0) (h2 : fa_wr x < fa_wr y) (w : fa_W) : fa_MC l D b aC H0 N T y_Preconditions_checkIndex prog_31_method_11_code 3 ((Option.some Jvm.ClassFile.FieldType.int)) 0 [.int (fa_I x), .int (fa_I y), v] w (some (.int (fa_I x))) w := by
  rcases hv with rfl | ⟨t, rfl⟩
  all_goals refine fa_enter (by decide +kernel) (Nat.le_of_ble_eq_true rfl) rfl (fun hh hle hnm X => ?_)
  · refine g_iload_n X 0 rfl d_Preconditions_checkIndex_0 ?_
    refine g_if_lt X 9 d_Preconditions_checkIndex_1 (by decide) (fun q => absurd q h1) (fun _ => ?_)
    refine g_iload_n X 0 rfl d_Preconditions_checkIndex_4 ?_
    refine g_iload_n X 1 rfl d_Preconditions_checkIndex_5 ?_
    refine g_icmp_lt X 16 d_Preconditions_checkIndex_6 (by decide) (fun _ => ?_) (fun q => absurd h2 q)
    refine g_iload_n X 0 rfl d_Preconditions_checkIndex_16 ?_
    exact g_iret X d_Preconditions_checkIndex_17
  · refine g_iload_n X 0 rfl d_Preconditions_checkIndex_0 ?_
    refine g_if_lt X 9 d_Preconditions_checkIndex_1 (by decide) (fun q => absurd q h1) (fun _ => ?_)
    refine g_iload_n X 0 rfl d_Preconditions_checkIndex_4 ?_
    refine g_iload_n X 1 rfl d_Preconditions_checkIndex_5 ?_
    refine g_icmp_lt X 16 d_Preconditions_checkIndex_6 (by decide) (fun _ => ?_) (fun q => absurd h2 q)
    refine g_iload_n X 0 rfl d_Preconditions_checkIndex_16 ?_
    exact g_iret X d_Preconditions_checkIndex_17
theorem d_String_checkIndex_0 : decode prog_23_method_155_code 0 = .ok (.iload_n 0, 1) := by decide +kernel
theorem d_String_checkIndex_1 : decode prog_23_method_155_code 1 = .ok (.iload_n 1, 1) := by decide +kernel
theorem d_String_checkIndex_2 : decode prog_23_method_155_code 2 = .ok (.getstatic 1053, 3) := by decide +kernel
theorem d_String_checkIndex_5 : decode prog_23_method_155_code 5 = .ok (.invokestatic 1059, 3) := by decide +kernel
theorem d_String_checkIndex_8 : decode prog_23_method_155_code 8 = .ok (.pop, 1) := by decide +kernel
theorem d_String_checkIndex_9 : decode prog_23_method_155_code 9 = .ok (.return_, 1) := by decide +kernel
set_option maxHeartbeats 4000000 in
set_option maxRecDepth 100000 in
theorem c_String_checkIndex {l : Launch} {D : va_G} {b : Nat} {aC : Nat → ClassId} {H0 : Heap} {N T : Nat} (x y : Int) (h1 : ¬ fa_wr x < 0) (h2 : fa_wr x < fa_wr y) (w : fa_W) : fa_MC l D b aC H0 N T y_String_checkIndex prog_23_method_155_code 2 ((Option.none : Option Jvm.ClassFile.FieldType)) 1 [.int (fa_I x), .int (fa_I y)] w (none) w := by
  refine fa_enter (lv := [(0, .int (fa_I x)), (1, .int (fa_I y))]) (by decide +kernel) (Nat.le_of_ble_eq_true rfl) rfl (fun hh hle hnm X => ?_)
  refine g_iload_n X 0 rfl d_String_checkIndex_0 ?_
  refine g_iload_n X 1 rfl d_String_checkIndex_1 ?_
  refine g_getSF X wd_791 d_String_checkIndex_2 (fun v hv => ?_)
  refine g_callS_i X mi_Preconditions_checkIndex (c_Preconditions_checkIndex x y v hv h1 h2 w) wd_793 rfl (Nat.le_trans (Nat.le_of_ble_eq_true rfl) hle) (st := []) (Nat.le_of_ble_eq_true rfl) rfl d_String_checkIndex_5 ?_
  refine g_pop X rfl d_String_checkIndex_8 ?_
  exact g_vret X d_String_checkIndex_9
theorem d_String_coder_0 : decode prog_23_method_152_code 0 = .ok (.getstatic 38, 3) := by decide +kernel
theorem d_String_coder_3 : decode prog_23_method_152_code 3 = .ok (.ifCond .eq 10, 3) := by decide +kernel
theorem d_String_coder_6 : decode prog_23_method_152_code 6 = .ok (.aload_n 0, 1) := by decide +kernel
theorem d_String_coder_7 : decode prog_23_method_152_code 7 = .ok (.getfield 15, 3) := by decide +kernel
theorem d_String_coder_10 : decode prog_23_method_152_code 10 = .ok (.goto 4, 3) := by decide +kernel
theorem d_String_coder_14 : decode prog_23_method_152_code 14 = .ok (.ireturn, 1) := by decide +kernel
set_option maxHeartbeats 4000000 in
set_option maxRecDepth 100000 in
theorem c_String_coder {l : Launch} {D : va_G} {b : Nat} {aC : Nat → ClassId} {H0 : Heap} {N T : Nat} (i : Fin 35) (w : fa_W) : fa_MC l D b aC H0 N T y_String_coder prog_23_method_152_code 1 ((Option.some Jvm.ClassFile.FieldType.byte)) 0 [.ref (D.2 100 i.val)] w (some (.int (fa_I 0))) w := by
  refine fa_enter (lv := [(0, .ref (D.2 100 i.val))]) (by decide +kernel) (Nat.le_of_ble_eq_true rfl) rfl (fun hh hle hnm X => ?_)
  refine g_getCS X wd_775 d_String_coder_0 ?_
  refine g_ifb_eq X 13 d_String_coder_3 (by decide) (fun q => by cases q) (fun _ => ?_)
  refine g_aload_n X 0 rfl d_String_coder_6 ?_
  refine g_sget X i (X.2.2.2.1.2.2.1.2.1 _ (fs_lt i)).2.1 wd_2256 d_String_coder_7 ?_
  refine g_goto X 14 d_String_coder_10 (by decide) ?_
  exact g_nret X (x := 0) rfl rfl d_String_coder_14
theorem d_String_length_0 : decode prog_23_method_54_code 0 = .ok (.aload_n 0, 1) := by decide +kernel
theorem d_String_length_1 : decode prog_23_method_54_code 1 = .ok (.getfield 9, 3) := by decide +kernel
theorem d_String_length_4 : decode prog_23_method_54_code 4 = .ok (.arraylength, 1) := by decide +kernel
theorem d_String_length_5 : decode prog_23_method_54_code 5 = .ok (.aload_n 0, 1) := by decide +kernel
theorem d_String_length_6 : decode prog_23_method_54_code 6 = .ok (.invokevirtual 335, 3) := by decide +kernel
theorem d_String_length_9 : decode prog_23_method_54_code 9 = .ok (.ishr, 1) := by decide +kernel
theorem d_String_length_10 : decode prog_23_method_54_code 10 = .ok (.ireturn, 1) := by decide +kernel
set_option maxHeartbeats 4000000 in
set_option maxRecDepth 100000 in
theorem c_String_length {l : Launch} {D : va_G} {b : Nat} {aC : Nat → ClassId} {H0 : Heap} {N T : Nat} (i : Fin 35) (w : fa_W) : fa_MC l D b aC H0 N T y_String_length prog_23_method_54_code 1 ((Option.some Jvm.ClassFile.FieldType.int)) 1 [.ref (D.2 100 i.val)] w (some (.int (fa_I (fs_len i)))) w := by
  refine fa_enter (lv := [(0, .ref (D.2 100 i.val))]) (by decide +kernel) (Nat.le_of_ble_eq_true rfl) rfl (fun hh hle hnm X => ?_)
  refine g_aload_n X 0 rfl d_String_length_0 ?_
  refine g_sget X i (X.2.2.2.1.2.2.1.2.1 _ (fs_lt i)).2.2.1 wd_2255 d_String_length_1 ?_
  refine g_slen X i d_String_length_4 ?_
  refine g_aload_n X 0 rfl d_String_length_5 ?_
  refine g_callT X i rfl mi_String_coder (c_String_coder i w) wd_771 rfl (Nat.le_trans (Nat.le_of_ble_eq_true rfl) hle) (st := [.int (fa_I (fs_len i))]) (Nat.le_of_ble_eq_true rfl) rfl d_String_length_6 ?_
  refine g_ishr X d_String_length_9 ?_
  rw [fs_e1]
  exact g_iret X d_String_length_10
theorem d_String_isLatin1_0 : decode prog_23_method_154_code 0 = .ok (.getstatic 38, 3) := by decide +kernel
theorem d_String_isLatin1_3 : decode prog_23_method_154_code 3 = .ok (.ifCond .eq 14, 3) := by decide +kernel
theorem d_String_isLatin1_6 : decode prog_23_method_154_code 6 = .ok (.aload_n 0, 1) := by decide +kernel
theorem d_String_isLatin1_7 : decode prog_23_method_154_code 7 = .ok (.getfield 15, 3) := by decide +kernel
theorem d_String_isLatin1_10 : decode prog_23_method_154_code 10 = .ok (.ifCond .ne 7, 3) := by decide +kernel
theorem d_String_isLatin1_13 : decode prog_23_method_154_code 13 = .ok (.iconst 1, 1) := by decide +kernel
theorem d_String_isLatin1_14 : decode prog_23_method_154_code 14 = .ok (.goto 4, 3) := by decide +kernel
theorem d_String_isLatin1_18 : decode prog_23_method_154_code 18 = .ok (.ireturn, 1) := by decide +kernel
set_option maxHeartbeats 4000000 in
set_option maxRecDepth 100000 in
theorem c_String_isLatin1 {l : Launch} {D : va_G} {b : Nat} {aC : Nat → ClassId} {H0 : Heap} {N T : Nat} (i : Fin 35) (w : fa_W) : fa_MC l D b aC H0 N T y_String_isLatin1 prog_23_method_154_code 1 ((Option.some Jvm.ClassFile.FieldType.boolean)) 0 [.ref (D.2 100 i.val)] w (some (.int (fa_I (fa_bi true)))) w := by
  refine fa_enter (lv := [(0, .ref (D.2 100 i.val))]) (by decide +kernel) (Nat.le_of_ble_eq_true rfl) rfl (fun hh hle hnm X => ?_)
  refine g_getCS X wd_775 d_String_isLatin1_0 ?_
  refine g_ifb_eq X 17 d_String_isLatin1_3 (by decide) (fun q => by cases q) (fun _ => ?_)
  refine g_aload_n X 0 rfl d_String_isLatin1_6 ?_
  refine g_sget X i (X.2.2.2.1.2.2.1.2.1 _ (fs_lt i)).2.1 wd_2256 d_String_isLatin1_7 ?_
  refine g_if_ne X (x := 0) 17 d_String_isLatin1_10 (by decide) (fun q => absurd rfl q) (fun _ => ?_)
  refine g_iconst X d_String_isLatin1_13 ?_
  refine g_goto X 18 d_String_isLatin1_14 (by decide) ?_
  exact g_zret X rfl d_String_isLatin1_18
theorem d_StringLatin1_charAt_0 : decode prog_24_method_2_code 0 = .ok (.iload_n 1, 1) := by decide +kernel
theorem d_StringLatin1_charAt_1 : decode prog_24_method_2_code 1 = .ok (.aload_n 0, 1) := by decide +kernel
theorem d_StringLatin1_charAt_2 : decode prog_24_method_2_code 2 = .ok (.arraylength, 1) := by decide +kernel
theorem d_StringLatin1_charAt_3 : decode prog_24_method_2_code 3 = .ok (.invokestatic 9, 3) := by decide +kernel
theorem d_StringLatin1_charAt_6 : decode prog_24_method_2_code 6 = .ok (.aload_n 0, 1) := by decide +kernel
theorem d_StringLatin1_charAt_7 : decode prog_24_method_2_code 7 = .ok (.iload_n 1, 1) := by decide +kernel
theorem d_StringLatin1_charAt_8 : decode prog_24_method_2_code 8 = .ok (.baload, 1) := by decide +kernel
theorem d_StringLatin1_charAt_9 : decode prog_24_method_2_code 9 = .ok (.sipush 255, 3) := by decide +kernel
theorem d_StringLatin1_charAt_12 : decode prog_24_method_2_code 12 = .ok (.iand, 1) := by decide +kernel
theorem d_StringLatin1_charAt_13 : decode prog_24_method_2_code 13 = .ok (.i2c, 1) := by decide +kernel
theorem d_StringLatin1_charAt_14 : decode prog_24_method_2_code 14 = .ok (.ireturn, 1) := by decide +kernel
set_option maxHeartbeats 4000000 in
set_option maxRecDepth 100000 in
theorem c_StringLatin1_charAt {l : Launch} {D : va_G} {b : Nat} {aC : Nat → ClassId} {H0 : Heap} {N T : Nat} (i : Fin 35) (x : Int) (j : Nat) (hx : fa_ix x (fa_lens.getD i.val 0) = some j) (w : fa_W) : fa_MC l D b aC H0 N T y_StringLatin1_charAt prog_24_method_2_code 2 ((Option.some Jvm.ClassFile.FieldType.char)) 2 [.ref (D.2 101 i.val), .int (fa_I x)] w (some (.int (fa_I (fs_ch i j)))) w := by
  refine fa_enter (lv := [(0, .ref (D.2 101 i.val)), (1, .int (fa_I x))]) (by decide +kernel) (Nat.le_of_ble_eq_true rfl) rfl (fun hh hle hnm X => ?_)
  have hq : ¬ fa_wr x < 0 ∧ fa_wr x < fa_wr (fs_len i) := by
    rw [fs_e2]
    have h8 := vp_in_iff.mp (fa_ix_in hx).1
    exact ⟨Int.not_lt.mpr h8.1, h8.2⟩
  refine g_iload_n X 1 rfl d_StringLatin1_charAt_0 ?_
  refine g_aload_n X 0 rfl d_StringLatin1_charAt_1 ?_
  refine g_slen X i d_StringLatin1_charAt_2 ?_
  refine g_callS_v X mi_String_checkIndex (c_String_checkIndex x (fs_len i) hq.1 hq.2 w) wd_788 rfl (Nat.le_trans (Nat.le_of_ble_eq_true rfl) hle) (st := []) (Nat.le_of_ble_eq_true rfl) rfl d_StringLatin1_charAt_3 ?_
  refine g_aload_n X 0 rfl d_StringLatin1_charAt_6 ?_
  refine g_iload_n X 1 rfl d_StringLatin1_charAt_7 ?_
  refine g_sld X i hx d_StringLatin1_charAt_8 ?_
  refine g_sipush X (by decide) d_StringLatin1_charAt_9 ?_
  refine g_iand X d_StringLatin1_charAt_12 ?_
  rw [show fa_I (fa_iand (fs_ch i j) 255) = fa_I (fs_ch i j) from (Int32.ofInt_toInt _).trans (fs_ok i j).1]
  refine g_i2c X (v := fs_ch i j) (fs_ok i j).2.1 d_StringLatin1_charAt_13 ?_
  exact g_nret X rfl (fs_ok i j).2.2 d_StringLatin1_charAt_14
theorem d_String_charAt_0 : decode prog_23_method_56_code 0 = .ok (.aload_n 0, 1) := by decide +kernel
theorem d_String_charAt_1 : decode prog_23_method_56_code 1 = .ok (.invokevirtual 492, 3) := by decide +kernel
theorem d_String_charAt_4 : decode prog_23_method_56_code 4 = .ok (.ifCond .eq 12, 3) := by decide +kernel
theorem d_String_charAt_7 : decode prog_23_method_56_code 7 = .ok (.aload_n 0, 1) := by decide +kernel
theorem d_String_charAt_8 : decode prog_23_method_56_code 8 = .ok (.getfield 9, 3) := by decide +kernel
theorem d_String_charAt_11 : decode prog_23_method_56_code 11 = .ok (.iload_n 1, 1) := by decide +kernel
theorem d_String_charAt_12 : decode prog_23_method_56_code 12 = .ok (.invokestatic 495, 3) := by decide +kernel
theorem d_String_charAt_15 : decode prog_23_method_56_code 15 = .ok (.ireturn, 1) := by decide +kernel
set_option maxHeartbeats 4000000 in
set_option maxRecDepth 100000 in
theorem c_String_charAt {l : Launch} {D : va_G} {b : Nat} {aC : Nat → ClassId} {H0 : Heap} {N T : Nat} (i : Fin 35) (x : Int) (j : Nat) (hx : fa_ix x (fa_lens.getD i.val 0) = some j) (w : fa_W) : fa_MC l D b aC H0 N T y_String_charAt prog_23_method_56_code 2 ((Option.some Jvm.ClassFile.FieldType.char)) 3 [.ref (D.2 100 i.val), .int (fa_I x)] w (some (.int (fa_I (fs_ch i j)))) w := by
  refine fa_enter (lv := [(0, .ref (D.2 100 i.val)), (1, .int (fa_I x))]) (by decide +kernel) (Nat.le_of_ble_eq_true rfl) rfl (fun hh hle hnm X => ?_)
  refine g_aload_n X 0 rfl d_String_charAt_0 ?_
  refine g_callT X i rfl mi_String_isLatin1 (c_String_isLatin1 i w) wd_781 rfl (Nat.le_trans (Nat.le_of_ble_eq_true rfl) hle) (st := []) (Nat.le_of_ble_eq_true rfl) rfl d_String_charAt_1 ?_
  refine g_ifb_eq X 16 d_String_charAt_4 (by decide) (fun q => by cases q) (fun _ => ?_)
  refine g_aload_n X 0 rfl d_String_charAt_7 ?_
  refine g_sget X i (X.2.2.2.1.2.2.1.2.1 _ (fs_lt i)).2.2.1 wd_2255 d_String_charAt_8 ?_
  refine g_iload_n X 1 rfl d_String_charAt_11 ?_
  refine g_callS_i X mi_StringLatin1_charAt (c_StringLatin1_charAt i x j hx w) wd_785 rfl (Nat.le_trans (Nat.le_of_ble_eq_true rfl) hle) (st := []) (Nat.le_of_ble_eq_true rfl) rfl d_String_charAt_12 ?_
  exact g_nret X rfl (fs_ok i j).2.2 d_String_charAt_15
