/-! THE CLAIM OUT OF ONE WALK OF THE LAW'S BODY. Your part is whole_start (and what it stands on); all else here is the same for every law, but numbers. -/
def R_law : String := "FlowApplyLaw"
def lw_P (b : Addr) (xs : List Int32) (args : Array Value) (s : State) : Prop := args = #[.ref b] ∧ s.IntsAt b xs ∧ xs.length ≤ 3072 ∧ (Jvm.Cond.and given_1 narrow_1).before args s = true
def lw_Q (_ : Array Value) (s : State) (o : Outcome) (t : State) : Prop := o = .returned (some (.int 1)) ∧ Framed s o t [] 601024 7293033
def lw_Z (below : List Frame) (a : Array Value) (s : State) : State → Prop := fun t => ∃ o, t.status = .running ∧ Ended t below o ∧ lw_Q a s o t
/-- the law's own end, with 1 on the stack, nothing written that was there before, its room as the claim has it -/
theorem lw_ret {p : Program} {l : Launch} {e : Env} {s : State} {m : MethodId} {below : List Frame} {meth : Method} {c : Code} {b : Nat} (hx : p.tables.exec = Jvm.exec) (hb : c.code = code) (hr : meth.sig.returnType = ret) (hlocks : meth.locks = false) {pc : Nat} {H : Heap} {ls : Array Slot} (hdg : decode code pc = .ok (.ireturn, 1)) : W p l e room_1 s m #[Value.ref b] below meth c H [] 601024 7293033 (lw_Z below #[Value.ref b] s) (F0 m pc ls [.int 1]) := by
  intro T hT X
  obtain ⟨fs, hret, hrun, hended, hW, hframe⟩ := X.leave (v := some (.int 1)) (hlocks := hlocks) (fun h => by rw [hr] at h; cases h)
  have hmeth' : T.vm.method? m = some meth := X.method'
  refine ⟨T.setFrames fs, ?_, .returned (some (.int 1)), hrun, hended, rfl, ⟨_, rfl⟩, hW, hframe⟩
  jvm_step X.here [X.here.top, hx, hb, hdg, hmeth', hr, ret, narrow_b1]
  (try refine ⟨rfl, ?_⟩); (try refine ⟨rfl, ?_⟩)
  first | (intro acts; rw [hret _ acts rfl rfl rfl]) | rw [hret _ _ rfl rfl rfl]
  exact Steps.refl _
/-- what holds at the law's entry: the machine, the code, the tables' words (any of lw_tbl by 'hts w (by decide +kernel)'), the script of L ints xs at the cell b, what the Statement gives of the start (any of its parts by flat_of_before) -/
def lw_At (p : Program) (s : State) (m : MethodId) (meth : Method) (c : Code) (b L : Nat) (xs : Nat → Int32) : Prop :=
  p.tables.exec = Jvm.exec ∧ c.code = code ∧ meth.sig.returnType = ret ∧ c.maxLocals = 7 ∧ s.vm.findClass R_law = some m.cls ∧ (∀ w ∈ lw_tbl, w.before #[Value.ref b] s = true) ∧ va_X b L xs s s.heap ∧ b < s.heap.size ∧ meth.locks = false ∧ (Jvm.Cond.and given_1 narrow_1).before #[Value.ref b] s = true
section FaLaw2
variable {p : Program} {l : Launch} {e : Env} {R : Room} {s : State} {m : MethodId} {args : Array Value} {below : List Frame} {meth : Method} {c : Code} {cells slots : Nat} {Q : State → Prop}
variable {D : va_G} {b : Nat} {aC : Nat → ClassId} {H0 : Heap} {N T N1 T1 c1 s1 : Nat} {cc : ByteArray} {nL : Nat} {own : String} {w w1 : fa_W} {pc : Nat} {lv : List (Nat × Value)} {st : List Value}
theorem g_widen {k n : Nat} (h1 : cells ≤ k) (h2 : slots ≤ n) (kk : fa_GJ p l e R s m args below meth c k n Q D b aC H0 N T nL w pc lv st) : fa_GJ p l e R s m args below meth c cells slots Q D b aC H0 N T nL w pc lv st := fun H locs ls hP hS hl => W.widen h1 h2 (kk H locs ls hP hS hl)
theorem l_room {hg maxL mc ms : Nat} (h : hg ≤ 2000) (hm : maxL ≤ 21) : (fa_rmc hg mc ms).frames + 1 ≤ room_1.frames ∧ 8 + (maxL + 11) + (fa_rmc hg mc ms).locals ≤ room_1.locals := by
  constructor
  · show hg + 1 ≤ 2048
    omega
  · show 8 + (maxL + 11) + 40 * hg ≤ 84000
    omega
theorem l_callV (X : fa_GX p s m args meth c cc nL ret own D b aC) {ci nn : Nat} {C : String} {F : u_T} {ty : Nat → FieldType} (ck : fa_CK ci C F nn ty) {o : Nat} (ho : (fa_sh o).1 = ci) (hN : o < N) {y : MethodName} {bytes : ByteArray} {maxL n hg idx : Nat} {retM : Option FieldType} {As : List Value} {v0 : Value} (hC : y.cls = C) (hI : fa_MI y bytes maxL retM n) (hM : fa_MC l D b aC H0 N T y bytes maxL retM hg (.ref (b + o) :: As) w (some v0) w1) (hw : Cond.methodLink own idx y ∈ fa_wG) (hn : As.length = n) (hg' : hg ≤ 2000) (hs : ((st.map fun v => v.category).sum ≤ 8)) {st0 : List Value} (he : st0 = As.reverse ++ .ref (b + o) :: st) (hd : decode cc pc = .ok (.invokevirtual idx, 3)) (hc1 : cells ≤ 601024) (hc2 : slots ≤ 7293033)
    (k : fa_GJ p l e room_1 s m args below meth c cells slots Q D b aC H0 N T nL w1 (pc + 3) lv (v0 :: st)) : fa_GJ p l e room_1 s m args below meth c cells slots Q D b aC H0 N T nL w pc lv st0 := fun H locs ls hP hS hl => by
  subst he
  subst hC
  obtain ⟨⟨i1, i2, i3, i4⟩, i5, i6⟩ := hI
  exact fa_go X (va_runV X.1 (hM hg (Nat.le_refl _)) ⟨callB_of n X.1.2.2.2.2 (fa_goodC i1) rfl rfl rfl (X.1.2.2.2.2 _ i2) (X.1.2.2.2.2 _ hw) i3 (l_room hg' i4), X.1.2.2.2.2 _ i5, X.1.2.2.2.2 _ i6⟩ ⟨fa_blind, fa_recv ck ho hN X.2.2.2.1 hP, fun U hU hW => ⟨rfl, by rw [hU]; exact hP, X.2.2.2.1.move hW hS hU⟩⟩ rfl hn hl.1 rfl (lv_room hs) hd ⟨hc1, hc2⟩) hS hl k
theorem l_callN (X : fa_GX p s m args meth c cc nL ret own D b aC) (hsz : s.heap.size + cells = b + N) {o : Nat} {y : MethodName} {bytes : ByteArray} {maxL n hg idx mcM msM : Nat} {As : List Value} (hI : fa_MN y bytes maxL n) (hM : fa_NC l D b aC H0 N T N1 T1 y bytes maxL hg mcM msM (.ref (b + o) :: As) w w1) (hw : Cond.methodLink own idx y ∈ fa_wG) (hn : As.length = n) (hg' : hg ≤ 2000) (hs : ((st.map fun v => v.category).sum ≤ 8)) {st0 : List Value} (he : st0 = As.reverse ++ .ref (b + o) :: st) (hd : decode cc pc = .ok (.invokespecial idx, 3)) (hc1 : cells + mcM = c1) (hs1 : slots + msM = s1) (hc2 : c1 ≤ 601024) (hs2 : s1 ≤ 7293033)
    (k : fa_GJ p l e room_1 s m args below meth c c1 s1 Q D b aC H0 N1 T1 nL w1 (pc + 3) lv st) : fa_GJ p l e room_1 s m args below meth c cells slots Q D b aC H0 N T nL w pc lv st0 := fun H locs ls hP hS hl => by
  subst he; subst hc1; subst hs1
  obtain ⟨⟨i1, i2, i3, i4⟩, i5, i6⟩ := hI
  intro U hU Y
  have hH : H.size = b + N := by
    have h1 : U.heap.size ≤ s.heap.size + cells := Y.same.2.2.1
    have h2 := hP.2.1
    rw [hU] at h1
    omega
  have hbl : FrameBlind (fun v U => fa_Pc D b aC H0 N T (.ref (b + o) :: As) w v U ∧ U.heap.size = b + N) := fun a U g mk h => ⟨fa_blind a U g mk h.1, h.2⟩
  have hr := va_runI (e := e) (meth := meth) (below := below) (H := H) (locs := locs) (cells := cells) (slots := slots) (g := F0 m pc ls (As.reverse ++ .ref (b + o) :: st)) (rest := st) (R := room_1) X.1 (hM hg (Nat.le_refl _)) ⟨callB_of n X.1.2.2.2.2 (fa_goodC i1) rfl rfl rfl (X.1.2.2.2.2 _ i2) (X.1.2.2.2.2 _ hw) i3 (l_room hg' i4), i6, X.1.2.2.2.2 _ i5⟩ ⟨hbl, fun V hV hW => ⟨⟨rfl, by rw [hV]; exact hP, X.2.2.2.1.move hW hS hV⟩, by rw [hV]; exact hH⟩⟩ rfl hn hl.1 rfl (lv_room hs) hd ⟨hc2, hs2⟩
  obtain ⟨v, st₀, t, T', L, h0, X', hL, e1, e2, ⟨hv, hP, hz, hk⟩, goes⟩ := hr U hU Y
  cases hv
  rw [h0] at hz hk
  have hS' : va_S (fun q => b ≤ q) s.heap T'.heap (locs ++ L) := ⟨Nat.le_trans hS.1 (by rw [e1]; exact hz), fun q h1 h2 => by rw [e1, hk q (Nat.lt_of_lt_of_le h1 hS.1) h2]; exact hS.2.1 q h1 h2, fun q hq => by
    rcases List.mem_append.mp hq with h | h
    · exact hS.2.2 q h
    · exact hL q h⟩
  obtain ⟨t2, a1, b1⟩ := k T'.heap (locs ++ L) ls (by rw [e1]; exact hP) hS' hl T' rfl X'
  exact ⟨t2, goes t2 a1, b1⟩
theorem l_callW (X : fa_GX p s m args meth c cc nL ret own D b aC) {y : MethodName} {bytes : ByteArray} {maxL n hg idx : Nat} {hhs : List (Nat × Nat × Nat × Nat)} {As : List Value} {r : Int} (hco : Cond.codeWith y bytes maxL (some .int) hhs ∈ fa_wG) (hini : Cond.initialized y.cls ∈ fa_wG) (hst : Cond.static y ∈ fa_wG) (hdd : y.cls ≠ "java/lang/invoke/MethodHandle" ∧ y.cls ≠ "java/lang/invoke/VarHandle" ∧ (parseMethodDescriptor y.desc).map (fun d => d.parameters.length) = some n) (hmx : maxL ≤ 21) (hM : fw_MC l D b aC H0 N T y bytes maxL hhs hg As w r w1) (hw : Cond.methodLink own idx y ∈ fa_wG) (hn : As.length = n) (hg' : hg ≤ 2000) (hs : ((st.map fun v => v.category).sum ≤ 8)) {st0 : List Value} (he : st0 = As.reverse ++ st) (hd : decode cc pc = .ok (.invokestatic idx, 3)) (hc1 : cells + 1 ≤ 601024) (hc2 : slots + 6 ≤ 7293033)
    (k : fa_GJ p l e room_1 s m args below meth c (cells + 1) (slots + 6) Q D b aC H0 N T nL w1 (pc + 3) lv (.int (fa_I r) :: st)) : fa_GJ p l e room_1 s m args below meth c cells slots Q D b aC H0 N T nL w pc lv st0 := fun H locs ls hP hS hl => by
  subst he
  have hgd : GoodIn fa_wG (Cond.codeWith y bytes maxL (some .int) hhs :: fa_wG) := fun w hw => fa_good w (by
    rcases List.mem_cons.mp hw with rfl | q
    · exact hco
    · exact q)
  have hlr := l_room (mc := 1) (ms := 6) hg' hmx
  have hr := vx_runSW (e := e) (meth := meth) (below := below) (H := H) (locs := locs) (cells := cells) (slots := slots) (g := F0 m pc ls (As.reverse ++ st)) (rest := st) (R := room_1) (hh := hhs) X.1 (hM hg (Nat.le_refl _)) ⟨⟨rfl, rfl, hlr.1, hlr.2, pay_in X.1.2.2.2.2 hgd, List.mem_cons_self⟩, X.1.2.2.2.2 _ hco, X.1.2.2.2.2 _ hini, ⟨hdd.1, hdd.2.1⟩, fun sig h => by
      have h2 := hdd.2.2
      rw [h] at h2
      exact (Option.some.inj h2).symm, X.1.2.2.2.2 _ hw, X.1.2.2.2.2 _ hst⟩ ⟨fa_blind, fun V hV hW => ⟨rfl, by rw [hV]; exact hP, X.2.2.2.1.move hW hS hV⟩⟩ rfl hn hl.1 rfl (lv_room hs) hd ⟨hc1, hc2⟩
  intro U hU Y
  obtain ⟨v, st₀, t, T', L, h0, X', hL, e1, e2, ⟨hv, hP, hz, hk⟩, goes⟩ := hr U hU Y
  cases hv
  rw [h0] at hz hk
  have hS' : va_S (fun q => b ≤ q) s.heap T'.heap (locs ++ L) := ⟨Nat.le_trans hS.1 (by rw [e1]; exact hz), fun q h1 h2 => by rw [e1, hk q (Nat.lt_of_lt_of_le h1 hS.1) h2]; exact hS.2.1 q h1 h2, fun q hq => by
    rcases List.mem_append.mp hq with h | h
    · exact hS.2.2 q h
    · exact hL q h⟩
  obtain ⟨t2, a1, b1⟩ := k T'.heap (locs ++ L) ls (by rw [e1]; exact hP) hS' hl T' rfl X'
  exact ⟨t2, goes t2 a1, b1⟩
theorem l_sld (X : fa_GX p s m args meth c cc nL ret own D b aC) {sb L : Nat} {xi : Nat → Int} (hX : va_X sb L (fun j => fa_I (xi j)) s s.heap) (hbl : sb < b) {x : Int} {j : Nat} (hx : fa_ix x L = some j) (hd : decode cc pc = .ok (.iaload, 1)) (k : fa_GJ p l e R s m args below meth c cells slots Q D b aC H0 N T nL w (pc + 1) lv (.int (fa_I (xi j)) :: st)) : fa_GJ p l e R s m args below meth c cells slots Q D b aC H0 N T nL w pc lv (.int (fa_I x) :: .ref sb :: st) := fun H locs ls hP hS hl =>
  va_sld X.1.1 X.1.2.1 hX (Nat.lt_of_lt_of_le hbl X.2.2.2.2) (Nat.not_le.mpr hbl) hS (fa_ix_in hx).1 hd (by rw [(fa_ix_in hx).2]; exact k H locs ls hP hS hl)
theorem fa_I_nat (L : Nat) : Int32.ofNat L = fa_I (L : Int) := (Int32.ofInt_eq_ofNat (n := L)).symm
theorem l_slen (X : fa_GX p s m args meth c cc nL ret own D b aC) {sb L : Nat} {xs : Nat → Int32} (hX : va_X sb L xs s s.heap) (hbl : sb < b) (hd : decode cc pc = .ok (.arraylength, 1)) (k : fa_GJ p l e R s m args below meth c cells slots Q D b aC H0 N T nL w (pc + 1) lv (.int (fa_I (L : Int)) :: st)) : fa_GJ p l e R s m args below meth c cells slots Q D b aC H0 N T nL w pc lv (.ref sb :: st) := fun H locs ls hP hS hl =>
  va_slen X.1.1 X.1.2.1 hX (Nat.lt_of_lt_of_le hbl X.2.2.2.2) (Nat.not_le.mpr hbl) hS hd (by rw [fa_I_nat]; exact k H locs ls hP hS hl)
theorem l_ret {sb : Nat} (X : fa_GX p s m #[Value.ref sb] meth c code nL ret own D s.heap.size aC) (h1 : cells ≤ 601024) (h2 : slots ≤ 7293033) (hd : decode code pc = .ok (.ireturn, 1)) : fa_GJ p l e room_1 s m #[Value.ref sb] below meth c cells slots (lw_Z below #[Value.ref sb] s) D s.heap.size aC H0 N T nL w pc lv [.int (fa_I 1)] := fun H locs ls hP hS hl =>
  W.widen h1 h2 (va_forget (fun q hq => hS.2.2 q hq) (lw_ret X.1.1 X.1.2.1 X.2.2.1 X.2.1 hd))
end FaLaw2
def fm_Law_l (L : Nat) (xi : Nat → Int) : Nat → Int → fa_W → Option Int
  | 0, _, _ => none
  | n + 1, i, w => if fa_wr ((L : Int) - 6) < fa_wr i then
  some 1
  else
  ((fa_ix i L).bind fun j2 =>
  if fa_wr (fa_iand (xi j2) 31) = 0 then
  ((fa_ix (i + 1) L).bind fun j4 =>
  (fa_ix (i + 2) L).bind fun j5 =>
  (fa_ix (i + 3) L).bind fun j6 =>
  (fa_ix (i + 4) L).bind fun j7 =>
  (fa_ix (i + 5) L).bind fun j8 =>
  fa_bd (fm_Face_feed (xi j4) (xi j5) (xi j6) (xi j7) (xi j8) w) fun v10 w11 =>
  (fa_ix (i + 1) L).bind fun j12 =>
  (fa_ix (i + 2) L).bind fun j13 =>
  (fa_ix (i + 3) L).bind fun j14 =>
  (fa_ix (i + 4) L).bind fun j15 =>
  (fa_ix (i + 5) L).bind fun j16 =>
  fa_bd (fm_Mod_feed (xi j12) (xi j13) (xi j14) (xi j15) (xi j16) w11) fun v18 w19 =>
  if fa_wr v10 = fa_wr v18 then
  (fa_let (i + 6) fun x4_21 =>
  fm_Law_l L xi n x4_21 w19)
  else
  some (0 : Int))
  else
  if fa_wr (fa_iand (xi j2) 31) = 1 then
  ((fa_ix (i + 1) L).bind fun j23 =>
  fa_l2 (fm_Face_end (xi j23) w) fun v25 w26 =>
  (fa_ix (i + 1) L).bind fun j27 =>
  fa_l2 (fm_Mod_end (xi j27) w26) fun v29 w30 =>
  if fa_wr (fa_bi v25) = fa_wr (fa_bi v29) then
  (fa_let (i + 6) fun x4_32 =>
  fm_Law_l L xi n x4_32 w30)
  else
  some (0 : Int))
  else
  if fa_wr (fa_iand (xi j2) 31) = 2 then
  (fa_bd (fm_Law_read w) fun v35 w36 =>
  fa_bd (fm_Mod_read w36) fun v38 w39 =>
  if fa_wr (fm_Mod_thrown w39) = fa_wr v35 then
  (if fa_wr v35 = 0 then
  (if fa_wr (fa_lcmp (w39 237 0) (fa_wr v38)) = 0 then
  (fa_let (i + 6) fun x4_45 =>
  fm_Law_l L xi n x4_45 w39)
  else
  some (0 : Int))
  else
  (fa_let (i + 6) fun x4_43 =>
  fm_Law_l L xi n x4_43 w39))
  else
  some (0 : Int))
  else
  if fa_wr (fa_iand (xi j2) 31) = 3 then
  (fa_l2 (fm_Mod_fault w) fun v49 w50 =>
  if fa_wr (fm_Face_fault w) = fa_wr v49 then
  (fa_let (i + 6) fun x4_52 =>
  fm_Law_l L xi n x4_52 w50)
  else
  some (0 : Int))
  else
  if fa_wr (fa_iand (xi j2) 31) = 4 then
  ((fa_ix (i + 1) L).bind fun j54 =>
  (fa_ix (i + 2) L).bind fun j55 =>
  fa_bd (fm_Law_function (xi j54) (xi j55) w) fun v57 w58 =>
  (fa_ix (i + 1) L).bind fun j59 =>
  (fa_ix (i + 2) L).bind fun j60 =>
  fa_bd (fm_Mod_function (xi j59) (xi j60) w58) fun v62 w63 =>
  if fa_wr (fm_Mod_thrown w63) = fa_wr v57 then
  (if fa_wr v57 = 0 then
  (if fa_wr (fa_lcmp (w63 237 0) (fa_wr v62)) = 0 then
  (fa_let (i + 6) fun x4_69 =>
  fm_Law_l L xi n x4_69 w63)
  else
  some (0 : Int))
  else
  (fa_let (i + 6) fun x4_67 =>
  fm_Law_l L xi n x4_67 w63))
  else
  some (0 : Int))
  else
  if fa_wr (fa_iand (xi j2) 31) = 5 then
  ((fa_ix (i + 1) L).bind fun j71 =>
  (fa_ix (i + 2) L).bind fun j72 =>
  fa_bd (fm_Law_field (xi j71) (xi j72) w) fun v74 w75 =>
  (fa_ix (i + 1) L).bind fun j76 =>
  (fa_ix (i + 2) L).bind fun j77 =>
  fa_bd (fm_Mod_field (xi j76) (xi j77) w75) fun v79 w80 =>
  if fa_wr (fm_Mod_thrown w80) = fa_wr v74 then
  (if fa_wr v74 = 0 then
  (if fa_wr (fa_lcmp (w80 237 0) (fa_wr v79)) = 0 then
  (fa_let (i + 6) fun x4_86 =>
  fm_Law_l L xi n x4_86 w80)
  else
  some (0 : Int))
  else
  (fa_let (i + 6) fun x4_84 =>
  fm_Law_l L xi n x4_84 w80))
  else
  some (0 : Int))
  else
  if fa_wr (fa_iand (xi j2) 31) = 6 then
  ((fa_ix (i + 1) L).bind fun j88 =>
  fa_bd (fm_Law_type (xi j88) w) fun v90 w91 =>
  (fa_ix (i + 1) L).bind fun j92 =>
  fa_bd (fm_Mod_type1 (xi j92) w91) fun v94 w95 =>
  if fa_wr (fm_Mod_thrown w95) = fa_wr v90 then
  (if fa_wr v90 = 0 then
  (if fa_wr (fa_lcmp (w95 237 0) (fa_wr v94)) = 0 then
  (fa_let (i + 6) fun x4_101 =>
  fm_Law_l L xi n x4_101 w95)
  else
  some (0 : Int))
  else
  (fa_let (i + 6) fun x4_99 =>
  fm_Law_l L xi n x4_99 w95))
  else
  some (0 : Int))
  else
  if fa_wr (fa_iand (xi j2) 31) = 7 then
  (fa_bd (fm_Face_typeOfMain w) fun v104 w105 =>
  fa_bd (fm_Mod_typeOfMain w105) fun v107 w108 =>
  if fa_wr v104 = fa_wr v107 then
  (fa_let (i + 6) fun x4_110 =>
  fm_Law_l L xi n x4_110 w108)
  else
  some (0 : Int))
  else
  if fa_wr (fa_iand (xi j2) 31) = 8 then
  ((fa_ix (i + 1) L).bind fun j112 =>
  (fa_ix (i + 2) L).bind fun j113 =>
  fa_bd (fm_Law_alike (xi j112) (xi j113) w) fun v115 w116 =>
  (fa_ix (i + 1) L).bind fun j117 =>
  (fa_ix (i + 2) L).bind fun j118 =>
  fa_bd (fm_Mod_alike (xi j117) (xi j118) w116) fun v120 w121 =>
  if fa_wr (fm_Mod_thrown w121) = fa_wr v115 then
  (if fa_wr v115 = 0 then
  (if v120 = true then
  (if fa_wr (fa_lcmp (w121 237 0) 1) = 0 then
  (fa_let (i + 6) fun x4_130 =>
  fm_Law_l L xi n x4_130 w121)
  else
  some (0 : Int))
  else
  (if fa_wr (fa_lcmp (w121 237 0) 0) = 0 then
  (fa_let (i + 6) fun x4_128 =>
  fm_Law_l L xi n x4_128 w121)
  else
  some (0 : Int)))
  else
  (fa_let (i + 6) fun x4_125 =>
  fm_Law_l L xi n x4_125 w121))
  else
  some (0 : Int))
  else
  if fa_wr (fa_iand (xi j2) 31) = 9 then
  ((fa_ix (i + 1) L).bind fun j132 =>
  (fa_ix (i + 2) L).bind fun j133 =>
  fa_bd (fm_Law_site (xi j132) (xi j133) w) fun v135 w136 =>
  (fa_ix (i + 1) L).bind fun j137 =>
  (fa_ix (i + 2) L).bind fun j138 =>
  fa_bd (fm_Mod_site (xi j137) (xi j138) w136) fun v140 w141 =>
  if fa_wr (fm_Mod_thrown w141) = fa_wr v135 then
  (if fa_wr v135 = 0 then
  (if fa_wr (fa_lcmp (w141 237 0) (fa_wr v140)) = 0 then
  (fa_let (i + 6) fun x4_147 =>
  fm_Law_l L xi n x4_147 w141)
  else
  some (0 : Int))
  else
  (fa_let (i + 6) fun x4_145 =>
  fm_Law_l L xi n x4_145 w141))
  else
  some (0 : Int))
  else
  if fa_wr (fa_iand (xi j2) 31) = 10 then
  ((fa_ix (i + 1) L).bind fun j149 =>
  (fa_ix (i + 2) L).bind fun j150 =>
  fa_bd (fm_Law_split (xi j149) (xi j150) w) fun v152 w153 =>
  (fa_ix (i + 1) L).bind fun j154 =>
  (fa_ix (i + 2) L).bind fun j155 =>
  fa_bd (fm_Mod_split (xi j154) (xi j155) w153) fun v157 w158 =>
  if fa_wr (fm_Mod_thrown w158) = fa_wr v152 then
  (if fa_wr v152 = 0 then
  (if fa_wr (fa_lcmp (w158 237 0) (fa_wr v157)) = 0 then
  (fa_let (i + 6) fun x4_164 =>
  fm_Law_l L xi n x4_164 w158)
  else
  some (0 : Int))
  else
  (fa_let (i + 6) fun x4_162 =>
  fm_Law_l L xi n x4_162 w158))
  else
  some (0 : Int))
  else
  if fa_wr (fa_iand (xi j2) 31) = 11 then
  ((fa_ix (i + 1) L).bind fun j166 =>
  (fa_ix (i + 2) L).bind fun j167 =>
  (fa_ix (i + 3) L).bind fun j168 =>
  if fa_wr (xi j168) = 0 then
  (fa_bd (fm_Law_group (xi j166) (xi j167) false w) fun v171 w172 =>
  (fa_ix (i + 1) L).bind fun j173 =>
  (fa_ix (i + 2) L).bind fun j174 =>
  (fa_ix (i + 3) L).bind fun j175 =>
  if fa_wr (xi j175) = 0 then
  (fa_bd (fm_Mod_group (xi j173) (xi j174) false w172) fun v178 w179 =>
  if fa_wr (fm_Mod_thrown w179) = fa_wr v171 then
  (if fa_wr v171 = 0 then
  (if fa_wr (fa_lcmp (w179 237 0) (fa_wr v178)) = 0 then
  (fa_let (i + 6) fun x4_185 =>
  fm_Law_l L xi n x4_185 w179)
  else
  some (0 : Int))
  else
  (fa_let (i + 6) fun x4_183 =>
  fm_Law_l L xi n x4_183 w179))
  else
  some (0 : Int))
  else
  (fa_bd (fm_Mod_group (xi j173) (xi j174) true w172) fun v187 w188 =>
  if fa_wr (fm_Mod_thrown w188) = fa_wr v171 then
  (if fa_wr v171 = 0 then
  (if fa_wr (fa_lcmp (w188 237 0) (fa_wr v187)) = 0 then
  (fa_let (i + 6) fun x4_194 =>
  fm_Law_l L xi n x4_194 w188)
  else
  some (0 : Int))
  else
  (fa_let (i + 6) fun x4_192 =>
  fm_Law_l L xi n x4_192 w188))
  else
  some (0 : Int)))
  else
  (fa_bd (fm_Law_group (xi j166) (xi j167) true w) fun v196 w197 =>
  (fa_ix (i + 1) L).bind fun j198 =>
  (fa_ix (i + 2) L).bind fun j199 =>
  (fa_ix (i + 3) L).bind fun j200 =>
  if fa_wr (xi j200) = 0 then
  (fa_bd (fm_Mod_group (xi j198) (xi j199) false w197) fun v203 w204 =>
  if fa_wr (fm_Mod_thrown w204) = fa_wr v196 then
  (if fa_wr v196 = 0 then
  (if fa_wr (fa_lcmp (w204 237 0) (fa_wr v203)) = 0 then
  (fa_let (i + 6) fun x4_210 =>
  fm_Law_l L xi n x4_210 w204)
  else
  some (0 : Int))
  else
  (fa_let (i + 6) fun x4_208 =>
  fm_Law_l L xi n x4_208 w204))
  else
  some (0 : Int))
  else
  (fa_bd (fm_Mod_group (xi j198) (xi j199) true w197) fun v212 w213 =>
  if fa_wr (fm_Mod_thrown w213) = fa_wr v196 then
  (if fa_wr v196 = 0 then
  (if fa_wr (fa_lcmp (w213 237 0) (fa_wr v212)) = 0 then
  (fa_let (i + 6) fun x4_219 =>
  fm_Law_l L xi n x4_219 w213)
  else
  some (0 : Int))
  else
  (fa_let (i + 6) fun x4_217 =>
  fm_Law_l L xi n x4_217 w213))
  else
  some (0 : Int))))
  else
  if fa_wr (fa_iand (xi j2) 31) = 12 then
  ((fa_ix (i + 1) L).bind fun j221 =>
  (fa_ix (i + 2) L).bind fun j222 =>
  fa_bd (fm_Law_run (xi j221) (xi j222) w) fun v224 w225 =>
  (fa_ix (i + 1) L).bind fun j226 =>
  (fa_ix (i + 2) L).bind fun j227 =>
  fa_bd (fm_Mod_run (xi j226) (xi j227) w225) fun v229 w230 =>
  if fa_wr (fm_Mod_thrown w230) = fa_wr v224 then
  (if fa_wr v224 = 0 then
  (if fa_wr (fa_lcmp (w230 237 0) (fa_wr v229)) = 0 then
  (fa_let (i + 6) fun x4_236 =>
  fm_Law_l L xi n x4_236 w230)
  else
  some (0 : Int))
  else
  (fa_let (i + 6) fun x4_234 =>
  fm_Law_l L xi n x4_234 w230))
  else
  some (0 : Int))
  else
  if fa_wr (fa_iand (xi j2) 31) = 13 then
  ((fa_ix (i + 1) L).bind fun j238 =>
  (fa_ix (i + 2) L).bind fun j239 =>
  fa_bd (fm_Law_blame (xi j238) (xi j239) w) fun v241 w242 =>
  (fa_ix (i + 1) L).bind fun j243 =>
  (fa_ix (i + 2) L).bind fun j244 =>
  fa_bd (fm_Mod_blame (xi j243) (xi j244) w242) fun v246 w247 =>
  if fa_wr (fm_Mod_thrown w247) = fa_wr v241 then
  (if fa_wr v241 = 0 then
  (if fa_wr (fa_lcmp (w247 237 0) (fa_wr v246)) = 0 then
  (fa_let (i + 6) fun x4_253 =>
  fm_Law_l L xi n x4_253 w247)
  else
  some (0 : Int))
  else
  (fa_let (i + 6) fun x4_251 =>
  fm_Law_l L xi n x4_251 w247))
  else
  some (0 : Int))
  else
  if fa_wr (fa_iand (xi j2) 31) = 14 then
  ((fa_ix (i + 1) L).bind fun j255 =>
  fa_bd (fm_Law_form (xi j255) w) fun v257 w258 =>
  (fa_ix (i + 1) L).bind fun j259 =>
  fa_bd (fm_Mod_form (xi j259) w258) fun v261 w262 =>
  if fa_wr (fm_Mod_thrown w262) = fa_wr v257 then
  (if fa_wr v257 = 0 then
  (if fa_wr (fa_lcmp (w262 237 0) (fa_wr v261)) = 0 then
  (fa_let (i + 6) fun x4_268 =>
  fm_Law_l L xi n x4_268 w262)
  else
  some (0 : Int))
  else
  (fa_let (i + 6) fun x4_266 =>
  fm_Law_l L xi n x4_266 w262))
  else
  some (0 : Int))
  else
  if fa_wr (fa_iand (xi j2) 31) = 15 then
  (fa_bd (fm_Face_back w) fun v271 w272 =>
  fa_bd (fm_Mod_back w272) fun v274 w275 =>
  if fa_wr v271 = fa_wr v274 then
  (fa_let (i + 6) fun x4_277 =>
  fm_Law_l L xi n x4_277 w275)
  else
  some (0 : Int))
  else
  if fa_wr (fa_iand (xi j2) 31) = 16 then
  (fa_bd (fm_Face_show w) fun v280 w281 =>
  fa_bd (fm_Mod_show w281) fun v283 w284 =>
  if fa_wr v280 = fa_wr v283 then
  (fa_let (i + 6) fun x4_286 =>
  fm_Law_l L xi n x4_286 w284)
  else
  some (0 : Int))
  else
  if fa_wr (fa_iand (xi j2) 31) = 17 then
  (fa_bd (fm_Face_take w) fun v289 w290 =>
  fa_bd (fm_Mod_take w290) fun v292 w293 =>
  if fa_wr v289 = fa_wr v292 then
  (fa_let (i + 6) fun x4_295 =>
  fm_Law_l L xi n x4_295 w293)
  else
  some (0 : Int))
  else
  if fa_wr (fa_iand (xi j2) 31) = 18 then
  ((fa_ix (i + 1) L).bind fun j297 =>
  fa_bd (fm_Law_ring (xi j297) w) fun v299 w300 =>
  (fa_ix (i + 1) L).bind fun j301 =>
  fa_bd (fm_Mod_ring (xi j301) w300) fun v303 w304 =>
  if fa_wr (fm_Mod_thrown w304) = fa_wr v299 then
  (if fa_wr v299 = 0 then
  (if fa_wr (fa_lcmp (w304 237 0) (fa_wr v303)) = 0 then
  (fa_let (i + 6) fun x4_310 =>
  fm_Law_l L xi n x4_310 w304)
  else
  some (0 : Int))
  else
  (fa_let (i + 6) fun x4_308 =>
  fm_Law_l L xi n x4_308 w304))
  else
  some (0 : Int))
  else
  if fa_wr (fa_iand (xi j2) 31) = 19 then
  ((fa_ix (i + 1) L).bind fun j312 =>
  (fa_ix (i + 2) L).bind fun j313 =>
  fa_bd (fm_Law_far (xi j312) (xi j313) w) fun v315 w316 =>
  (fa_ix (i + 1) L).bind fun j317 =>
  (fa_ix (i + 2) L).bind fun j318 =>
  fa_bd (fm_Mod_far (xi j317) (xi j318) w316) fun v320 w321 =>
  if fa_wr (fm_Mod_thrown w321) = fa_wr v315 then
  (if fa_wr v315 = 0 then
  (if fa_wr (fa_lcmp (w321 237 0) (fa_wr v320)) = 0 then
  (fa_let (i + 6) fun x4_327 =>
  fm_Law_l L xi n x4_327 w321)
  else
  some (0 : Int))
  else
  (fa_let (i + 6) fun x4_325 =>
  fm_Law_l L xi n x4_325 w321))
  else
  some (0 : Int))
  else
  if fa_wr (fa_iand (xi j2) 31) = 20 then
  ((fa_ix (i + 1) L).bind fun j329 =>
  (fa_ix (i + 1) L).bind fun j331 =>
  fa_bd (fm_Mod_octet (xi j331) w) fun v333 w334 =>
  if fa_wr (fm_Face_octet (xi j329) w) = fa_wr v333 then
  (fa_let (i + 6) fun x4_336 =>
  fm_Law_l L xi n x4_336 w334)
  else
  some (0 : Int))
  else
  if fa_wr (fa_iand (xi j2) 31) = 21 then
  ((fa_ix (i + 1) L).bind fun j338 =>
  fa_bd (fm_Face_count (xi j338) w) fun v340 w341 =>
  (fa_ix (i + 1) L).bind fun j342 =>
  fa_bd (fm_Mod_count (xi j342) w341) fun v344 w345 =>
  if fa_wr v340 = fa_wr v344 then
  (fa_let (i + 6) fun x4_347 =>
  fm_Law_l L xi n x4_347 w345)
  else
  some (0 : Int))
  else
  (fa_let (i + 6) fun x4_348 =>
  fm_Law_l L xi n x4_348 w))
set_option maxHeartbeats 4000000 in
set_option maxRecDepth 100000 in
theorem c_Law_l {p : Program} {e : Env} {s : State} {m : MethodId} {below : List Frame} {meth : Method} {c : Code} {l : Launch} {sb L : Nat} {xi : Nat → Int} {D : va_G} {aC : Nat → ClassId} {H0 : Heap} {N T : Nat} (C0 : lw_At p s m meth c sb L (fun j => fa_I (xi j))) (X : fa_GX p s m #[Value.ref sb] meth c code 7 ret R_law D s.heap.size aC) (hN : 238 ≤ N) (hT : fa_TM ≤ T) (hfl : l.stackTraces = false) : ∀ (n : Nat) (i : Int) (w : fa_W) (c0 s0 : Nat) (_ : c0 + n ≤ 601024) (_ : s0 + 6 * n ≤ 7293033), fm_Law_l L xi n i w = some 1 → fa_GJ p l e room_1 s m #[Value.ref sb] below meth c c0 s0 (lw_Z below #[Value.ref sb] s) D s.heap.size aC H0 N T 7 w 23 [(0, .ref sb), (1, .ref (s.heap.size + 0)), (2, .ref (s.heap.size + 181)), (3, .ref (s.heap.size + 237)), (4, .int (fa_I i))] [] := by
  intro n
  obtain ⟨-, -, hr, -, -, -, hX, hbl, -, -⟩ := id C0
  induction n with
  | zero => intro i w c0 s0 hc hs hM; exact fa_no hM
  | succ n ih =>
    intro i w c0 s0 hc hs hM
    rw [fm_Law_l] at hM
    refine g_iload X 4 rfl d_Law_law_23 ?_
    refine g_aload_n X 0 rfl d_Law_law_25 ?_
    refine l_slen X hX hbl d_Law_law_26 ?_
    refine g_bipush X (by decide) d_Law_law_27 ?_
    refine g_isub X d_Law_law_29 ?_
    refine g_icmp_gt X 1222 d_Law_law_30 (by decide) (fun hc1 => ?_) (fun hc1 => ?_)
    · have hM := fa_if_t hM hc1
      refine g_iconst X d_Law_law_1222 ?_
      exact l_ret X (by omega) (by omega) d_Law_law_1223
    · have hM := fa_if_f hM hc1
      refine g_aload_n X 0 rfl d_Law_law_33 ?_
      refine g_iload X 4 rfl d_Law_law_34 ?_
      obtain ⟨j2, ej2, hM⟩ := fa_ob hM
      refine l_sld X hX hbl ej2 d_Law_law_36 ?_
      refine g_bipush X (by decide) d_Law_law_37 ?_
      refine g_iand X d_Law_law_39 ?_
      by_cases hc3 : fa_wr (fa_iand (xi j2) 31) = 0
      · have hM := fa_if_t hM hc3
        refine g_tableIn X 0 144 d_Law_law_40 hc3 (by decide) (by decide) rfl (by decide) ?_
        refine g_aload_n X 1 rfl d_Law_law_144 ?_
        refine g_aload_n X 0 rfl d_Law_law_145 ?_
        refine g_iload X 4 rfl d_Law_law_146 ?_
        refine g_iconst X d_Law_law_148 ?_
        refine g_iadd X d_Law_law_149 ?_
        obtain ⟨j4, ej4, hM⟩ := fa_ob hM
        refine l_sld X hX hbl ej4 d_Law_law_150 ?_
        refine g_aload_n X 0 rfl d_Law_law_151 ?_
        refine g_iload X 4 rfl d_Law_law_152 ?_
        refine g_iconst X d_Law_law_154 ?_
        refine g_iadd X d_Law_law_155 ?_
        obtain ⟨j5, ej5, hM⟩ := fa_ob hM
        refine l_sld X hX hbl ej5 d_Law_law_156 ?_
        refine g_aload_n X 0 rfl d_Law_law_157 ?_
        refine g_iload X 4 rfl d_Law_law_158 ?_
        refine g_iconst X d_Law_law_160 ?_
        refine g_iadd X d_Law_law_161 ?_
        obtain ⟨j6, ej6, hM⟩ := fa_ob hM
        refine l_sld X hX hbl ej6 d_Law_law_162 ?_
        refine g_aload_n X 0 rfl d_Law_law_163 ?_
        refine g_iload X 4 rfl d_Law_law_164 ?_
        refine g_iconst X d_Law_law_166 ?_
        refine g_iadd X d_Law_law_167 ?_
        obtain ⟨j7, ej7, hM⟩ := fa_ob hM
        refine l_sld X hX hbl ej7 d_Law_law_168 ?_
        refine g_aload_n X 0 rfl d_Law_law_169 ?_
        refine g_iload X 4 rfl d_Law_law_170 ?_
        refine g_iconst X d_Law_law_172 ?_
        refine g_iadd X d_Law_law_173 ?_
        obtain ⟨j8, ej8, hM⟩ := fa_ob hM
        refine l_sld X hX hbl ej8 d_Law_law_174 ?_
        obtain ⟨v10, w11, e9, hM⟩ := fa_obd hM
        refine l_callV X ck_0 fo_0 (Nat.lt_of_lt_of_le (by decide) hN) rfl mi_Face_feed (c_Face_feed (Nat.le_trans (by decide) hN) (Nat.le_trans (by decide) hT) (xi j4) (xi j5) (xi j6) (xi j7) (xi j8) w _ e9) wd_655 rfl (Nat.le_of_ble_eq_true rfl) (st := []) (Nat.le_of_ble_eq_true rfl) rfl d_Law_law_175 (by omega) (by omega) ?_
        refine g_aload_n X 2 rfl d_Law_law_178 ?_
        refine g_aload_n X 0 rfl d_Law_law_179 ?_
        refine g_iload X 4 rfl d_Law_law_180 ?_
        refine g_iconst X d_Law_law_182 ?_
        refine g_iadd X d_Law_law_183 ?_
        obtain ⟨j12, ej12, hM⟩ := fa_ob hM
        refine l_sld X hX hbl ej12 d_Law_law_184 ?_
        refine g_aload_n X 0 rfl d_Law_law_185 ?_
        refine g_iload X 4 rfl d_Law_law_186 ?_
        refine g_iconst X d_Law_law_188 ?_
        refine g_iadd X d_Law_law_189 ?_
        obtain ⟨j13, ej13, hM⟩ := fa_ob hM
        refine l_sld X hX hbl ej13 d_Law_law_190 ?_
        refine g_aload_n X 0 rfl d_Law_law_191 ?_
        refine g_iload X 4 rfl d_Law_law_192 ?_
        refine g_iconst X d_Law_law_194 ?_
        refine g_iadd X d_Law_law_195 ?_
        obtain ⟨j14, ej14, hM⟩ := fa_ob hM
        refine l_sld X hX hbl ej14 d_Law_law_196 ?_
        refine g_aload_n X 0 rfl d_Law_law_197 ?_
        refine g_iload X 4 rfl d_Law_law_198 ?_
        refine g_iconst X d_Law_law_200 ?_
        refine g_iadd X d_Law_law_201 ?_
        obtain ⟨j15, ej15, hM⟩ := fa_ob hM
        refine l_sld X hX hbl ej15 d_Law_law_202 ?_
        refine g_aload_n X 0 rfl d_Law_law_203 ?_
        refine g_iload X 4 rfl d_Law_law_204 ?_
        refine g_iconst X d_Law_law_206 ?_
        refine g_iadd X d_Law_law_207 ?_
        obtain ⟨j16, ej16, hM⟩ := fa_ob hM
        refine l_sld X hX hbl ej16 d_Law_law_208 ?_
        obtain ⟨v18, w19, e17, hM⟩ := fa_obd hM
        refine l_callV X ck_10 fo_181 (Nat.lt_of_lt_of_le (by decide) hN) rfl mi_Mod_feed (c_Mod_feed (Nat.le_trans (by decide) hN) hT (xi j12) (xi j13) (xi j14) (xi j15) (xi j16) w11 _ e17) wd_1470 rfl (Nat.le_of_ble_eq_true rfl) (st := [.int (fa_I v10)]) (Nat.le_of_ble_eq_true rfl) rfl d_Law_law_209 (by omega) (by omega) ?_
        refine g_icmp_eq X 1216 d_Law_law_212 (by decide) (fun hc20 => ?_) (fun hc20 => ?_)
        · have hM := fa_if_t hM hc20
          refine g_iinc X 4 (fun x4_21 => [(4, .int (fa_I x4_21)), (0, .ref sb), (1, .ref (s.heap.size + 0)), (2, .ref (s.heap.size + 181)), (3, .ref (s.heap.size + 237))]) d_Law_law_1216 rfl (by decide) (fun _ => rfl) (fun x4_21 ex4_21 => ?_)
          have hM := fa_let_to hM ex4_21
          refine g_goto X 23 d_Law_law_1219 (by decide) ?_
          refine g_widen (k := c0 + 1) (n := s0 + 6) (by omega) (by omega) ?_
          exact g_lv [1, 2, 3, 4, 0] rfl (ih _ _ (c0 + 1) (s0 + 6) (by omega) (by omega) hM)
        · have hM := fa_if_f hM hc20
          refine g_iconst X d_Law_law_215 ?_
          exact absurd (Option.some.inj hM) (by decide)
      have hM := fa_if_f hM hc3
      by_cases hc22 : fa_wr (fa_iand (xi j2) 31) = 1
      · have hM := fa_if_t hM hc22
        refine g_tableIn X 1 217 d_Law_law_40 hc22 (by decide) (by decide) rfl (by decide) ?_
        refine g_aload_n X 1 rfl d_Law_law_217 ?_
        refine g_aload_n X 0 rfl d_Law_law_218 ?_
        refine g_iload X 4 rfl d_Law_law_219 ?_
        refine g_iconst X d_Law_law_221 ?_
        refine g_iadd X d_Law_law_222 ?_
        obtain ⟨j23, ej23, hM⟩ := fa_ob hM
        refine l_sld X hX hbl ej23 d_Law_law_223 ?_
        obtain ⟨⟨v25, w26⟩, e24⟩ : ∃ q, fm_Face_end (xi j23) w = q := ⟨_, rfl⟩
        have hM := fa_l2_e hM e24
        refine l_callV X ck_0 fo_0 (Nat.lt_of_lt_of_le (by decide) hN) rfl mi_Face_end (c_Face_end (Nat.le_trans (by decide) hN) (Nat.le_trans (by decide) hT) (xi j23) w _ e24) wd_665 rfl (Nat.le_of_ble_eq_true rfl) (st := []) (Nat.le_of_ble_eq_true rfl) rfl d_Law_law_224 (by omega) (by omega) ?_
        refine g_aload_n X 2 rfl d_Law_law_227 ?_
        refine g_aload_n X 0 rfl d_Law_law_228 ?_
        refine g_iload X 4 rfl d_Law_law_229 ?_
        refine g_iconst X d_Law_law_231 ?_
        refine g_iadd X d_Law_law_232 ?_
        obtain ⟨j27, ej27, hM⟩ := fa_ob hM
        refine l_sld X hX hbl ej27 d_Law_law_233 ?_
        obtain ⟨⟨v29, w30⟩, e28⟩ : ∃ q, fm_Mod_end (xi j27) w26 = q := ⟨_, rfl⟩
        have hM := fa_l2_e hM e28
        refine l_callV X ck_10 fo_181 (Nat.lt_of_lt_of_le (by decide) hN) rfl mi_Mod_end (c_Mod_end (Nat.le_trans (by decide) hN) hT (xi j27) w26 _ e28) wd_1474 rfl (Nat.le_of_ble_eq_true rfl) (st := [.int (fa_I (fa_bi v25))]) (Nat.le_of_ble_eq_true rfl) rfl d_Law_law_234 (by omega) (by omega) ?_
        refine g_icmp_eq X 1216 d_Law_law_237 (by decide) (fun hc31 => ?_) (fun hc31 => ?_)
        · have hM := fa_if_t hM hc31
          refine g_iinc X 4 (fun x4_32 => [(4, .int (fa_I x4_32)), (0, .ref sb), (1, .ref (s.heap.size + 0)), (2, .ref (s.heap.size + 181)), (3, .ref (s.heap.size + 237))]) d_Law_law_1216 rfl (by decide) (fun _ => rfl) (fun x4_32 ex4_32 => ?_)
          have hM := fa_let_to hM ex4_32
          refine g_goto X 23 d_Law_law_1219 (by decide) ?_
          refine g_widen (k := c0 + 1) (n := s0 + 6) (by omega) (by omega) ?_
          exact g_lv [1, 2, 3, 4, 0] rfl (ih _ _ (c0 + 1) (s0 + 6) (by omega) (by omega) hM)
        · have hM := fa_if_f hM hc31
          refine g_iconst X d_Law_law_240 ?_
          exact absurd (Option.some.inj hM) (by decide)
      have hM := fa_if_f hM hc22
      by_cases hc33 : fa_wr (fa_iand (xi j2) 31) = 2
      · have hM := fa_if_t hM hc33
        refine g_tableIn X 2 242 d_Law_law_40 hc33 (by decide) (by decide) rfl (by decide) ?_
        refine g_aload_n X 1 rfl d_Law_law_242 ?_
        refine g_aload_n X 3 rfl d_Law_law_243 ?_
        obtain ⟨v35, w36, e34, hM⟩ := fa_obd hM
        refine l_callW X (n := 2) wd_956 wd_0 wd_955 ⟨by decide, by decide, by decide +kernel⟩ (by decide) (c_Law_read (Nat.le_trans (by decide) hN) (Nat.le_trans (by decide) hT) (Nat.lt_of_lt_of_le (by decide) hN) hfl w _ _ e34) wd_954 rfl (Nat.le_of_ble_eq_true rfl) (st := []) (Nat.le_of_ble_eq_true rfl) rfl d_Law_law_244 (by omega) (by omega) ?_
        refine g_istorec X [(5, .int (fa_I v35)), (0, .ref sb), (1, .ref (s.heap.size + 0)), (2, .ref (s.heap.size + 181)), (3, .ref (s.heap.size + 237)), (4, .int (fa_I i))] d_Law_law_247 (by decide) rfl ?_
        refine g_aload_n X 3 rfl d_Law_law_249 ?_
        obtain ⟨v38, w39, e37, hM⟩ := fa_obd hM
        refine l_callV X ck_10 fo_181 (Nat.lt_of_lt_of_le (by decide) hN) rfl mi_Mod_read (c_Mod_read (Nat.le_trans (by decide) hN) hT w36 _ e37) wd_2025 rfl (Nat.le_of_ble_eq_true rfl) (st := []) (Nat.le_of_ble_eq_true rfl) rfl d_Law_law_250 (by omega) (by omega) ?_
        refine g_istorec X [(6, .int (fa_I v38)), (5, .int (fa_I v35)), (0, .ref sb), (1, .ref (s.heap.size + 0)), (2, .ref (s.heap.size + 181)), (3, .ref (s.heap.size + 237)), (4, .int (fa_I i))] d_Law_law_253 (by decide) rfl ?_
        refine g_aload_n X 4 rfl d_Law_law_255 ?_
        refine l_callV X ck_10 fo_181 (Nat.lt_of_lt_of_le (by decide) hN) rfl mi_Mod_thrown (c_Mod_thrown (Nat.le_trans (by decide) hN) hT w39 _ rfl) wd_1466 rfl (Nat.le_of_ble_eq_true rfl) (st := []) (Nat.le_of_ble_eq_true rfl) rfl d_Law_law_256 (by omega) (by omega) ?_
        refine g_iload X 1 rfl d_Law_law_259 ?_
        refine g_icmp_eq X 266 d_Law_law_261 (by decide) (fun hc41 => ?_) (fun hc41 => ?_)
        · have hM := fa_if_t hM hc41
          refine g_iload X 1 rfl d_Law_law_266 ?_
          refine g_if_ne X 283 d_Law_law_268 (by decide) (fun hc42 => ?_) (fun hc42 => ?_)
          · have hM := fa_if_f hM hc42
            refine g_goto X 1216 d_Law_law_283 (by decide) ?_
            refine g_iinc X 6 (fun x4_43 => [(4, .int (fa_I x4_43)), (6, .int (fa_I v38)), (5, .int (fa_I v35)), (0, .ref sb), (1, .ref (s.heap.size + 0)), (2, .ref (s.heap.size + 181)), (3, .ref (s.heap.size + 237))]) d_Law_law_1216 rfl (by decide) (fun _ => rfl) (fun x4_43 ex4_43 => ?_)
            have hM := fa_let_to hM ex4_43
            refine g_goto X 23 d_Law_law_1219 (by decide) ?_
            refine g_widen (k := c0 + 1) (n := s0 + 6) (by omega) (by omega) ?_
            exact g_lv [3, 4, 5, 6, 0] rfl (ih _ _ (c0 + 1) (s0 + 6) (by omega) (by omega) hM)
          · have hM := fa_if_t hM hc42
            refine g_aload_n X 5 rfl d_Law_law_271 ?_
            refine g_iconst X d_Law_law_272 ?_
            refine g_lald X fs_237 (Nat.lt_of_lt_of_le (by decide) hN) (by decide) d_Law_law_273 ?_
            refine g_iload X 0 rfl d_Law_law_274 ?_
            refine g_i2l X d_Law_law_276 ?_
            refine g_lcmp X d_Law_law_277 ?_
            refine g_if_eq X 283 d_Law_law_278 (by decide) (fun hc44 => ?_) (fun hc44 => ?_)
            · have hM := fa_if_t hM hc44
              refine g_goto X 1216 d_Law_law_283 (by decide) ?_
              refine g_iinc X 6 (fun x4_45 => [(4, .int (fa_I x4_45)), (6, .int (fa_I v38)), (5, .int (fa_I v35)), (0, .ref sb), (1, .ref (s.heap.size + 0)), (2, .ref (s.heap.size + 181)), (3, .ref (s.heap.size + 237))]) d_Law_law_1216 rfl (by decide) (fun _ => rfl) (fun x4_45 ex4_45 => ?_)
              have hM := fa_let_to hM ex4_45
              refine g_goto X 23 d_Law_law_1219 (by decide) ?_
              refine g_widen (k := c0 + 1) (n := s0 + 6) (by omega) (by omega) ?_
              exact g_lv [3, 4, 5, 6, 0] rfl (ih _ _ (c0 + 1) (s0 + 6) (by omega) (by omega) hM)
            · have hM := fa_if_f hM hc44
              refine g_iconst X d_Law_law_281 ?_
              exact absurd (Option.some.inj hM) (by decide)
        · have hM := fa_if_f hM hc41
          refine g_iconst X d_Law_law_264 ?_
          exact absurd (Option.some.inj hM) (by decide)
      have hM := fa_if_f hM hc33
      by_cases hc46 : fa_wr (fa_iand (xi j2) 31) = 3
      · have hM := fa_if_t hM hc46
        refine g_tableIn X 3 286 d_Law_law_40 hc46 (by decide) (by decide) rfl (by decide) ?_
        refine g_aload_n X 1 rfl d_Law_law_286 ?_
        refine l_callV X ck_0 fo_0 (Nat.lt_of_lt_of_le (by decide) hN) rfl mi_Face_fault (c_Face_fault (Nat.le_trans (by decide) hN) (Nat.le_trans (by decide) hT) w _ rfl) wd_670 rfl (Nat.le_of_ble_eq_true rfl) (st := []) (Nat.le_of_ble_eq_true rfl) rfl d_Law_law_287 (by omega) (by omega) ?_
        refine g_aload_n X 2 rfl d_Law_law_290 ?_
        obtain ⟨⟨v49, w50⟩, e48⟩ : ∃ q, fm_Mod_fault w = q := ⟨_, rfl⟩
        have hM := fa_l2_e hM e48
        refine l_callV X ck_10 fo_181 (Nat.lt_of_lt_of_le (by decide) hN) rfl mi_Mod_fault (c_Mod_fault (Nat.le_trans (by decide) hN) hT w _ e48) wd_2033 rfl (Nat.le_of_ble_eq_true rfl) (st := [.int (fa_I (fm_Face_fault w))]) (Nat.le_of_ble_eq_true rfl) rfl d_Law_law_291 (by omega) (by omega) ?_
        refine g_icmp_eq X 1216 d_Law_law_294 (by decide) (fun hc51 => ?_) (fun hc51 => ?_)
        · have hM := fa_if_t hM hc51
          refine g_iinc X 4 (fun x4_52 => [(4, .int (fa_I x4_52)), (0, .ref sb), (1, .ref (s.heap.size + 0)), (2, .ref (s.heap.size + 181)), (3, .ref (s.heap.size + 237))]) d_Law_law_1216 rfl (by decide) (fun _ => rfl) (fun x4_52 ex4_52 => ?_)
          have hM := fa_let_to hM ex4_52
          refine g_goto X 23 d_Law_law_1219 (by decide) ?_
          refine g_widen (k := c0 + 1) (n := s0 + 6) (by omega) (by omega) ?_
          exact g_lv [1, 2, 3, 4, 0] rfl (ih _ _ (c0 + 1) (s0 + 6) (by omega) (by omega) hM)
        · have hM := fa_if_f hM hc51
          refine g_iconst X d_Law_law_297 ?_
          exact absurd (Option.some.inj hM) (by decide)
      have hM := fa_if_f hM hc46
      by_cases hc53 : fa_wr (fa_iand (xi j2) 31) = 4
      · have hM := fa_if_t hM hc53
        refine g_tableIn X 4 299 d_Law_law_40 hc53 (by decide) (by decide) rfl (by decide) ?_
        refine g_aload_n X 1 rfl d_Law_law_299 ?_
        refine g_aload_n X 0 rfl d_Law_law_300 ?_
        refine g_iload X 4 rfl d_Law_law_301 ?_
        refine g_iconst X d_Law_law_303 ?_
        refine g_iadd X d_Law_law_304 ?_
        obtain ⟨j54, ej54, hM⟩ := fa_ob hM
        refine l_sld X hX hbl ej54 d_Law_law_305 ?_
        refine g_aload_n X 0 rfl d_Law_law_306 ?_
        refine g_iload X 4 rfl d_Law_law_307 ?_
        refine g_iconst X d_Law_law_309 ?_
        refine g_iadd X d_Law_law_310 ?_
        obtain ⟨j55, ej55, hM⟩ := fa_ob hM
        refine l_sld X hX hbl ej55 d_Law_law_311 ?_
        refine g_aload_n X 3 rfl d_Law_law_312 ?_
        obtain ⟨v57, w58, e56, hM⟩ := fa_obd hM
        refine l_callW X (n := 4) wd_1173 wd_0 wd_1172 ⟨by decide, by decide, by decide +kernel⟩ (by decide) (c_Law_function (Nat.le_trans (by decide) hN) (Nat.le_trans (by decide) hT) (Nat.lt_of_lt_of_le (by decide) hN) hfl (xi j54) (xi j55) w _ _ e56) wd_1171 rfl (Nat.le_of_ble_eq_true rfl) (st := []) (Nat.le_of_ble_eq_true rfl) rfl d_Law_law_313 (by omega) (by omega) ?_
        refine g_istorec X [(5, .int (fa_I v57)), (0, .ref sb), (1, .ref (s.heap.size + 0)), (2, .ref (s.heap.size + 181)), (3, .ref (s.heap.size + 237)), (4, .int (fa_I i))] d_Law_law_316 (by decide) rfl ?_
        refine g_aload_n X 3 rfl d_Law_law_318 ?_
        refine g_aload_n X 1 rfl d_Law_law_319 ?_
        refine g_iload X 5 rfl d_Law_law_320 ?_
        refine g_iconst X d_Law_law_322 ?_
        refine g_iadd X d_Law_law_323 ?_
        obtain ⟨j59, ej59, hM⟩ := fa_ob hM
        refine l_sld X hX hbl ej59 d_Law_law_324 ?_
        refine g_aload_n X 1 rfl d_Law_law_325 ?_
        refine g_iload X 5 rfl d_Law_law_326 ?_
        refine g_iconst X d_Law_law_328 ?_
        refine g_iadd X d_Law_law_329 ?_
        obtain ⟨j60, ej60, hM⟩ := fa_ob hM
        refine l_sld X hX hbl ej60 d_Law_law_330 ?_
        obtain ⟨v62, w63, e61, hM⟩ := fa_obd hM
        refine l_callV X ck_10 fo_181 (Nat.lt_of_lt_of_le (by decide) hN) rfl mi_Mod_function (c_Mod_function (Nat.le_trans (by decide) hN) hT (xi j59) (xi j60) w58 _ e61) wd_2184 rfl (Nat.le_of_ble_eq_true rfl) (st := []) (Nat.le_of_ble_eq_true rfl) rfl d_Law_law_331 (by omega) (by omega) ?_
        refine g_istorec X [(6, .int (fa_I v62)), (5, .int (fa_I v57)), (0, .ref sb), (1, .ref (s.heap.size + 0)), (2, .ref (s.heap.size + 181)), (3, .ref (s.heap.size + 237)), (4, .int (fa_I i))] d_Law_law_334 (by decide) rfl ?_
        refine g_aload_n X 4 rfl d_Law_law_336 ?_
        refine l_callV X ck_10 fo_181 (Nat.lt_of_lt_of_le (by decide) hN) rfl mi_Mod_thrown (c_Mod_thrown (Nat.le_trans (by decide) hN) hT w63 _ rfl) wd_1466 rfl (Nat.le_of_ble_eq_true rfl) (st := []) (Nat.le_of_ble_eq_true rfl) rfl d_Law_law_337 (by omega) (by omega) ?_
        refine g_iload X 1 rfl d_Law_law_340 ?_
        refine g_icmp_eq X 347 d_Law_law_342 (by decide) (fun hc65 => ?_) (fun hc65 => ?_)
        · have hM := fa_if_t hM hc65
          refine g_iload X 1 rfl d_Law_law_347 ?_
          refine g_if_ne X 364 d_Law_law_349 (by decide) (fun hc66 => ?_) (fun hc66 => ?_)
          · have hM := fa_if_f hM hc66
            refine g_goto X 1216 d_Law_law_364 (by decide) ?_
            refine g_iinc X 6 (fun x4_67 => [(4, .int (fa_I x4_67)), (6, .int (fa_I v62)), (5, .int (fa_I v57)), (0, .ref sb), (1, .ref (s.heap.size + 0)), (2, .ref (s.heap.size + 181)), (3, .ref (s.heap.size + 237))]) d_Law_law_1216 rfl (by decide) (fun _ => rfl) (fun x4_67 ex4_67 => ?_)
            have hM := fa_let_to hM ex4_67
            refine g_goto X 23 d_Law_law_1219 (by decide) ?_
            refine g_widen (k := c0 + 1) (n := s0 + 6) (by omega) (by omega) ?_
            exact g_lv [3, 4, 5, 6, 0] rfl (ih _ _ (c0 + 1) (s0 + 6) (by omega) (by omega) hM)
          · have hM := fa_if_t hM hc66
            refine g_aload_n X 5 rfl d_Law_law_352 ?_
            refine g_iconst X d_Law_law_353 ?_
            refine g_lald X fs_237 (Nat.lt_of_lt_of_le (by decide) hN) (by decide) d_Law_law_354 ?_
            refine g_iload X 0 rfl d_Law_law_355 ?_
            refine g_i2l X d_Law_law_357 ?_
            refine g_lcmp X d_Law_law_358 ?_
            refine g_if_eq X 364 d_Law_law_359 (by decide) (fun hc68 => ?_) (fun hc68 => ?_)
            · have hM := fa_if_t hM hc68
              refine g_goto X 1216 d_Law_law_364 (by decide) ?_
              refine g_iinc X 6 (fun x4_69 => [(4, .int (fa_I x4_69)), (6, .int (fa_I v62)), (5, .int (fa_I v57)), (0, .ref sb), (1, .ref (s.heap.size + 0)), (2, .ref (s.heap.size + 181)), (3, .ref (s.heap.size + 237))]) d_Law_law_1216 rfl (by decide) (fun _ => rfl) (fun x4_69 ex4_69 => ?_)
              have hM := fa_let_to hM ex4_69
              refine g_goto X 23 d_Law_law_1219 (by decide) ?_
              refine g_widen (k := c0 + 1) (n := s0 + 6) (by omega) (by omega) ?_
              exact g_lv [3, 4, 5, 6, 0] rfl (ih _ _ (c0 + 1) (s0 + 6) (by omega) (by omega) hM)
            · have hM := fa_if_f hM hc68
              refine g_iconst X d_Law_law_362 ?_
              exact absurd (Option.some.inj hM) (by decide)
        · have hM := fa_if_f hM hc65
          refine g_iconst X d_Law_law_345 ?_
          exact absurd (Option.some.inj hM) (by decide)
      have hM := fa_if_f hM hc53
      by_cases hc70 : fa_wr (fa_iand (xi j2) 31) = 5
      · have hM := fa_if_t hM hc70
        refine g_tableIn X 5 367 d_Law_law_40 hc70 (by decide) (by decide) rfl (by decide) ?_
        refine g_aload_n X 1 rfl d_Law_law_367 ?_
        refine g_aload_n X 0 rfl d_Law_law_368 ?_
        refine g_iload X 4 rfl d_Law_law_369 ?_
        refine g_iconst X d_Law_law_371 ?_
        refine g_iadd X d_Law_law_372 ?_
        obtain ⟨j71, ej71, hM⟩ := fa_ob hM
        refine l_sld X hX hbl ej71 d_Law_law_373 ?_
        refine g_aload_n X 0 rfl d_Law_law_374 ?_
        refine g_iload X 4 rfl d_Law_law_375 ?_
        refine g_iconst X d_Law_law_377 ?_
        refine g_iadd X d_Law_law_378 ?_
        obtain ⟨j72, ej72, hM⟩ := fa_ob hM
        refine l_sld X hX hbl ej72 d_Law_law_379 ?_
        refine g_aload_n X 3 rfl d_Law_law_380 ?_
        obtain ⟨v74, w75, e73, hM⟩ := fa_obd hM
        refine l_callW X (n := 4) wd_1231 wd_0 wd_1230 ⟨by decide, by decide, by decide +kernel⟩ (by decide) (c_Law_field (Nat.le_trans (by decide) hN) (Nat.le_trans (by decide) hT) (Nat.lt_of_lt_of_le (by decide) hN) hfl (xi j71) (xi j72) w _ _ e73) wd_1229 rfl (Nat.le_of_ble_eq_true rfl) (st := []) (Nat.le_of_ble_eq_true rfl) rfl d_Law_law_381 (by omega) (by omega) ?_
        refine g_istorec X [(5, .int (fa_I v74)), (0, .ref sb), (1, .ref (s.heap.size + 0)), (2, .ref (s.heap.size + 181)), (3, .ref (s.heap.size + 237)), (4, .int (fa_I i))] d_Law_law_384 (by decide) rfl ?_
        refine g_aload_n X 3 rfl d_Law_law_386 ?_
        refine g_aload_n X 1 rfl d_Law_law_387 ?_
        refine g_iload X 5 rfl d_Law_law_388 ?_
        refine g_iconst X d_Law_law_390 ?_
        refine g_iadd X d_Law_law_391 ?_
        obtain ⟨j76, ej76, hM⟩ := fa_ob hM
        refine l_sld X hX hbl ej76 d_Law_law_392 ?_
        refine g_aload_n X 1 rfl d_Law_law_393 ?_
        refine g_iload X 5 rfl d_Law_law_394 ?_
        refine g_iconst X d_Law_law_396 ?_
        refine g_iadd X d_Law_law_397 ?_
        obtain ⟨j77, ej77, hM⟩ := fa_ob hM
        refine l_sld X hX hbl ej77 d_Law_law_398 ?_
        obtain ⟨v79, w80, e78, hM⟩ := fa_obd hM
        refine l_callV X ck_10 fo_181 (Nat.lt_of_lt_of_le (by decide) hN) rfl mi_Mod_field (c_Mod_field (Nat.le_trans (by decide) hN) hT (xi j76) (xi j77) w75 _ e78) wd_2116 rfl (Nat.le_of_ble_eq_true rfl) (st := []) (Nat.le_of_ble_eq_true rfl) rfl d_Law_law_399 (by omega) (by omega) ?_
        refine g_istorec X [(6, .int (fa_I v79)), (5, .int (fa_I v74)), (0, .ref sb), (1, .ref (s.heap.size + 0)), (2, .ref (s.heap.size + 181)), (3, .ref (s.heap.size + 237)), (4, .int (fa_I i))] d_Law_law_402 (by decide) rfl ?_
        refine g_aload_n X 4 rfl d_Law_law_404 ?_
        refine l_callV X ck_10 fo_181 (Nat.lt_of_lt_of_le (by decide) hN) rfl mi_Mod_thrown (c_Mod_thrown (Nat.le_trans (by decide) hN) hT w80 _ rfl) wd_1466 rfl (Nat.le_of_ble_eq_true rfl) (st := []) (Nat.le_of_ble_eq_true rfl) rfl d_Law_law_405 (by omega) (by omega) ?_
        refine g_iload X 1 rfl d_Law_law_408 ?_
        refine g_icmp_eq X 415 d_Law_law_410 (by decide) (fun hc82 => ?_) (fun hc82 => ?_)
        · have hM := fa_if_t hM hc82
          refine g_iload X 1 rfl d_Law_law_415 ?_
          refine g_if_ne X 432 d_Law_law_417 (by decide) (fun hc83 => ?_) (fun hc83 => ?_)
          · have hM := fa_if_f hM hc83
            refine g_goto X 1216 d_Law_law_432 (by decide) ?_
            refine g_iinc X 6 (fun x4_84 => [(4, .int (fa_I x4_84)), (6, .int (fa_I v79)), (5, .int (fa_I v74)), (0, .ref sb), (1, .ref (s.heap.size + 0)), (2, .ref (s.heap.size + 181)), (3, .ref (s.heap.size + 237))]) d_Law_law_1216 rfl (by decide) (fun _ => rfl) (fun x4_84 ex4_84 => ?_)
            have hM := fa_let_to hM ex4_84
            refine g_goto X 23 d_Law_law_1219 (by decide) ?_
            refine g_widen (k := c0 + 1) (n := s0 + 6) (by omega) (by omega) ?_
            exact g_lv [3, 4, 5, 6, 0] rfl (ih _ _ (c0 + 1) (s0 + 6) (by omega) (by omega) hM)
          · have hM := fa_if_t hM hc83
            refine g_aload_n X 5 rfl d_Law_law_420 ?_
            refine g_iconst X d_Law_law_421 ?_
            refine g_lald X fs_237 (Nat.lt_of_lt_of_le (by decide) hN) (by decide) d_Law_law_422 ?_
            refine g_iload X 0 rfl d_Law_law_423 ?_
            refine g_i2l X d_Law_law_425 ?_
            refine g_lcmp X d_Law_law_426 ?_
            refine g_if_eq X 432 d_Law_law_427 (by decide) (fun hc85 => ?_) (fun hc85 => ?_)
            · have hM := fa_if_t hM hc85
              refine g_goto X 1216 d_Law_law_432 (by decide) ?_
              refine g_iinc X 6 (fun x4_86 => [(4, .int (fa_I x4_86)), (6, .int (fa_I v79)), (5, .int (fa_I v74)), (0, .ref sb), (1, .ref (s.heap.size + 0)), (2, .ref (s.heap.size + 181)), (3, .ref (s.heap.size + 237))]) d_Law_law_1216 rfl (by decide) (fun _ => rfl) (fun x4_86 ex4_86 => ?_)
              have hM := fa_let_to hM ex4_86
              refine g_goto X 23 d_Law_law_1219 (by decide) ?_
              refine g_widen (k := c0 + 1) (n := s0 + 6) (by omega) (by omega) ?_
              exact g_lv [3, 4, 5, 6, 0] rfl (ih _ _ (c0 + 1) (s0 + 6) (by omega) (by omega) hM)
            · have hM := fa_if_f hM hc85
              refine g_iconst X d_Law_law_430 ?_
              exact absurd (Option.some.inj hM) (by decide)
        · have hM := fa_if_f hM hc82
          refine g_iconst X d_Law_law_413 ?_
          exact absurd (Option.some.inj hM) (by decide)
      have hM := fa_if_f hM hc70
      by_cases hc87 : fa_wr (fa_iand (xi j2) 31) = 6
      · have hM := fa_if_t hM hc87
        refine g_tableIn X 6 435 d_Law_law_40 hc87 (by decide) (by decide) rfl (by decide) ?_
        refine g_aload_n X 1 rfl d_Law_law_435 ?_
        refine g_aload_n X 0 rfl d_Law_law_436 ?_
        refine g_iload X 4 rfl d_Law_law_437 ?_
        refine g_iconst X d_Law_law_439 ?_
        refine g_iadd X d_Law_law_440 ?_
        obtain ⟨j88, ej88, hM⟩ := fa_ob hM
        refine l_sld X hX hbl ej88 d_Law_law_441 ?_
        refine g_aload_n X 3 rfl d_Law_law_442 ?_
        obtain ⟨v90, w91, e89, hM⟩ := fa_obd hM
        refine l_callW X (n := 3) wd_1243 wd_0 wd_1242 ⟨by decide, by decide, by decide +kernel⟩ (by decide) (c_Law_type (Nat.le_trans (by decide) hN) (Nat.le_trans (by decide) hT) (Nat.lt_of_lt_of_le (by decide) hN) hfl (xi j88) w _ _ e89) wd_1241 rfl (Nat.le_of_ble_eq_true rfl) (st := []) (Nat.le_of_ble_eq_true rfl) rfl d_Law_law_443 (by omega) (by omega) ?_
        refine g_istorec X [(5, .int (fa_I v90)), (0, .ref sb), (1, .ref (s.heap.size + 0)), (2, .ref (s.heap.size + 181)), (3, .ref (s.heap.size + 237)), (4, .int (fa_I i))] d_Law_law_446 (by decide) rfl ?_
        refine g_aload_n X 3 rfl d_Law_law_448 ?_
        refine g_aload_n X 1 rfl d_Law_law_449 ?_
        refine g_iload X 5 rfl d_Law_law_450 ?_
        refine g_iconst X d_Law_law_452 ?_
        refine g_iadd X d_Law_law_453 ?_
        obtain ⟨j92, ej92, hM⟩ := fa_ob hM
        refine l_sld X hX hbl ej92 d_Law_law_454 ?_
        obtain ⟨v94, w95, e93, hM⟩ := fa_obd hM
        refine l_callV X ck_10 fo_181 (Nat.lt_of_lt_of_le (by decide) hN) rfl mi_Mod_type1 (c_Mod_type1 (Nat.le_trans (by decide) hN) hT (xi j92) w91 _ e93) wd_2085 rfl (Nat.le_of_ble_eq_true rfl) (st := []) (Nat.le_of_ble_eq_true rfl) rfl d_Law_law_455 (by omega) (by omega) ?_
        refine g_istorec X [(6, .int (fa_I v94)), (5, .int (fa_I v90)), (0, .ref sb), (1, .ref (s.heap.size + 0)), (2, .ref (s.heap.size + 181)), (3, .ref (s.heap.size + 237)), (4, .int (fa_I i))] d_Law_law_458 (by decide) rfl ?_
        refine g_aload_n X 4 rfl d_Law_law_460 ?_
        refine l_callV X ck_10 fo_181 (Nat.lt_of_lt_of_le (by decide) hN) rfl mi_Mod_thrown (c_Mod_thrown (Nat.le_trans (by decide) hN) hT w95 _ rfl) wd_1466 rfl (Nat.le_of_ble_eq_true rfl) (st := []) (Nat.le_of_ble_eq_true rfl) rfl d_Law_law_461 (by omega) (by omega) ?_
        refine g_iload X 1 rfl d_Law_law_464 ?_
        refine g_icmp_eq X 471 d_Law_law_466 (by decide) (fun hc97 => ?_) (fun hc97 => ?_)
        · have hM := fa_if_t hM hc97
          refine g_iload X 1 rfl d_Law_law_471 ?_
          refine g_if_ne X 488 d_Law_law_473 (by decide) (fun hc98 => ?_) (fun hc98 => ?_)
          · have hM := fa_if_f hM hc98
            refine g_goto X 1216 d_Law_law_488 (by decide) ?_
            refine g_iinc X 6 (fun x4_99 => [(4, .int (fa_I x4_99)), (6, .int (fa_I v94)), (5, .int (fa_I v90)), (0, .ref sb), (1, .ref (s.heap.size + 0)), (2, .ref (s.heap.size + 181)), (3, .ref (s.heap.size + 237))]) d_Law_law_1216 rfl (by decide) (fun _ => rfl) (fun x4_99 ex4_99 => ?_)
            have hM := fa_let_to hM ex4_99
            refine g_goto X 23 d_Law_law_1219 (by decide) ?_
            refine g_widen (k := c0 + 1) (n := s0 + 6) (by omega) (by omega) ?_
            exact g_lv [3, 4, 5, 6, 0] rfl (ih _ _ (c0 + 1) (s0 + 6) (by omega) (by omega) hM)
          · have hM := fa_if_t hM hc98
            refine g_aload_n X 5 rfl d_Law_law_476 ?_
            refine g_iconst X d_Law_law_477 ?_
            refine g_lald X fs_237 (Nat.lt_of_lt_of_le (by decide) hN) (by decide) d_Law_law_478 ?_
            refine g_iload X 0 rfl d_Law_law_479 ?_
            refine g_i2l X d_Law_law_481 ?_
            refine g_lcmp X d_Law_law_482 ?_
            refine g_if_eq X 488 d_Law_law_483 (by decide) (fun hc100 => ?_) (fun hc100 => ?_)
            · have hM := fa_if_t hM hc100
              refine g_goto X 1216 d_Law_law_488 (by decide) ?_
              refine g_iinc X 6 (fun x4_101 => [(4, .int (fa_I x4_101)), (6, .int (fa_I v94)), (5, .int (fa_I v90)), (0, .ref sb), (1, .ref (s.heap.size + 0)), (2, .ref (s.heap.size + 181)), (3, .ref (s.heap.size + 237))]) d_Law_law_1216 rfl (by decide) (fun _ => rfl) (fun x4_101 ex4_101 => ?_)
              have hM := fa_let_to hM ex4_101
              refine g_goto X 23 d_Law_law_1219 (by decide) ?_
              refine g_widen (k := c0 + 1) (n := s0 + 6) (by omega) (by omega) ?_
              exact g_lv [3, 4, 5, 6, 0] rfl (ih _ _ (c0 + 1) (s0 + 6) (by omega) (by omega) hM)
            · have hM := fa_if_f hM hc100
              refine g_iconst X d_Law_law_486 ?_
              exact absurd (Option.some.inj hM) (by decide)
        · have hM := fa_if_f hM hc97
          refine g_iconst X d_Law_law_469 ?_
          exact absurd (Option.some.inj hM) (by decide)
      have hM := fa_if_f hM hc87
      by_cases hc102 : fa_wr (fa_iand (xi j2) 31) = 7
      · have hM := fa_if_t hM hc102
        refine g_tableIn X 7 491 d_Law_law_40 hc102 (by decide) (by decide) rfl (by decide) ?_
        refine g_aload_n X 1 rfl d_Law_law_491 ?_
        obtain ⟨v104, w105, e103, hM⟩ := fa_obd hM
        refine l_callV X ck_0 fo_0 (Nat.lt_of_lt_of_le (by decide) hN) rfl mi_Face_typeOfMain (c_Face_typeOfMain (Nat.le_trans (by decide) hN) (Nat.le_trans (by decide) hT) w _ e103) wd_674 rfl (Nat.le_of_ble_eq_true rfl) (st := []) (Nat.le_of_ble_eq_true rfl) rfl d_Law_law_492 (by omega) (by omega) ?_
        refine g_aload_n X 2 rfl d_Law_law_495 ?_
        obtain ⟨v107, w108, e106, hM⟩ := fa_obd hM
        refine l_callV X ck_10 fo_181 (Nat.lt_of_lt_of_le (by decide) hN) rfl mi_Mod_typeOfMain (c_Mod_typeOfMain (Nat.le_trans (by decide) hN) hT w105 _ e106) wd_2108 rfl (Nat.le_of_ble_eq_true rfl) (st := [.int (fa_I v104)]) (Nat.le_of_ble_eq_true rfl) rfl d_Law_law_496 (by omega) (by omega) ?_
        refine g_icmp_eq X 1216 d_Law_law_499 (by decide) (fun hc109 => ?_) (fun hc109 => ?_)
        · have hM := fa_if_t hM hc109
          refine g_iinc X 4 (fun x4_110 => [(4, .int (fa_I x4_110)), (0, .ref sb), (1, .ref (s.heap.size + 0)), (2, .ref (s.heap.size + 181)), (3, .ref (s.heap.size + 237))]) d_Law_law_1216 rfl (by decide) (fun _ => rfl) (fun x4_110 ex4_110 => ?_)
          have hM := fa_let_to hM ex4_110
          refine g_goto X 23 d_Law_law_1219 (by decide) ?_
          refine g_widen (k := c0 + 1) (n := s0 + 6) (by omega) (by omega) ?_
          exact g_lv [1, 2, 3, 4, 0] rfl (ih _ _ (c0 + 1) (s0 + 6) (by omega) (by omega) hM)
        · have hM := fa_if_f hM hc109
          refine g_iconst X d_Law_law_502 ?_
          exact absurd (Option.some.inj hM) (by decide)
      have hM := fa_if_f hM hc102
      by_cases hc111 : fa_wr (fa_iand (xi j2) 31) = 8
      · have hM := fa_if_t hM hc111
        refine g_tableIn X 8 504 d_Law_law_40 hc111 (by decide) (by decide) rfl (by decide) ?_
        refine g_aload_n X 1 rfl d_Law_law_504 ?_
        refine g_aload_n X 0 rfl d_Law_law_505 ?_
        refine g_iload X 4 rfl d_Law_law_506 ?_
        refine g_iconst X d_Law_law_508 ?_
        refine g_iadd X d_Law_law_509 ?_
        obtain ⟨j112, ej112, hM⟩ := fa_ob hM
        refine l_sld X hX hbl ej112 d_Law_law_510 ?_
        refine g_aload_n X 0 rfl d_Law_law_511 ?_
        refine g_iload X 4 rfl d_Law_law_512 ?_
        refine g_iconst X d_Law_law_514 ?_
        refine g_iadd X d_Law_law_515 ?_
        obtain ⟨j113, ej113, hM⟩ := fa_ob hM
        refine l_sld X hX hbl ej113 d_Law_law_516 ?_
        refine g_aload_n X 3 rfl d_Law_law_517 ?_
        obtain ⟨v115, w116, e114, hM⟩ := fa_obd hM
        refine l_callW X (n := 4) wd_1250 wd_0 wd_1249 ⟨by decide, by decide, by decide +kernel⟩ (by decide) (c_Law_alike (Nat.le_trans (by decide) hN) (Nat.le_trans (by decide) hT) (Nat.lt_of_lt_of_le (by decide) hN) hfl (xi j112) (xi j113) w _ _ e114) wd_1248 rfl (Nat.le_of_ble_eq_true rfl) (st := []) (Nat.le_of_ble_eq_true rfl) rfl d_Law_law_518 (by omega) (by omega) ?_
        refine g_istorec X [(5, .int (fa_I v115)), (0, .ref sb), (1, .ref (s.heap.size + 0)), (2, .ref (s.heap.size + 181)), (3, .ref (s.heap.size + 237)), (4, .int (fa_I i))] d_Law_law_521 (by decide) rfl ?_
        refine g_aload_n X 3 rfl d_Law_law_523 ?_
        refine g_aload_n X 1 rfl d_Law_law_524 ?_
        refine g_iload X 5 rfl d_Law_law_525 ?_
        refine g_iconst X d_Law_law_527 ?_
        refine g_iadd X d_Law_law_528 ?_
        obtain ⟨j117, ej117, hM⟩ := fa_ob hM
        refine l_sld X hX hbl ej117 d_Law_law_529 ?_
        refine g_aload_n X 1 rfl d_Law_law_530 ?_
        refine g_iload X 5 rfl d_Law_law_531 ?_
        refine g_iconst X d_Law_law_533 ?_
        refine g_iadd X d_Law_law_534 ?_
        obtain ⟨j118, ej118, hM⟩ := fa_ob hM
        refine l_sld X hX hbl ej118 d_Law_law_535 ?_
        obtain ⟨v120, w121, e119, hM⟩ := fa_obd hM
        refine l_callV X ck_10 fo_181 (Nat.lt_of_lt_of_le (by decide) hN) rfl mi_Mod_alike (c_Mod_alike (Nat.le_trans (by decide) hN) hT (xi j117) (xi j118) w116 _ e119) wd_2112 rfl (Nat.le_of_ble_eq_true rfl) (st := []) (Nat.le_of_ble_eq_true rfl) rfl d_Law_law_536 (by omega) (by omega) ?_
        refine g_istorec X [(6, .int (fa_I (fa_bi v120))), (5, .int (fa_I v115)), (0, .ref sb), (1, .ref (s.heap.size + 0)), (2, .ref (s.heap.size + 181)), (3, .ref (s.heap.size + 237)), (4, .int (fa_I i))] d_Law_law_539 (by decide) rfl ?_
        refine g_aload_n X 4 rfl d_Law_law_541 ?_
        refine l_callV X ck_10 fo_181 (Nat.lt_of_lt_of_le (by decide) hN) rfl mi_Mod_thrown (c_Mod_thrown (Nat.le_trans (by decide) hN) hT w121 _ rfl) wd_1466 rfl (Nat.le_of_ble_eq_true rfl) (st := []) (Nat.le_of_ble_eq_true rfl) rfl d_Law_law_542 (by omega) (by omega) ?_
        refine g_iload X 1 rfl d_Law_law_545 ?_
        refine g_icmp_eq X 552 d_Law_law_547 (by decide) (fun hc123 => ?_) (fun hc123 => ?_)
        · have hM := fa_if_t hM hc123
          refine g_iload X 1 rfl d_Law_law_552 ?_
          refine g_if_ne X 576 d_Law_law_554 (by decide) (fun hc124 => ?_) (fun hc124 => ?_)
          · have hM := fa_if_f hM hc124
            refine g_goto X 1216 d_Law_law_576 (by decide) ?_
            refine g_iinc X 6 (fun x4_125 => [(4, .int (fa_I x4_125)), (6, .int (fa_I (fa_bi v120))), (5, .int (fa_I v115)), (0, .ref sb), (1, .ref (s.heap.size + 0)), (2, .ref (s.heap.size + 181)), (3, .ref (s.heap.size + 237))]) d_Law_law_1216 rfl (by decide) (fun _ => rfl) (fun x4_125 ex4_125 => ?_)
            have hM := fa_let_to hM ex4_125
            refine g_goto X 23 d_Law_law_1219 (by decide) ?_
            refine g_widen (k := c0 + 1) (n := s0 + 6) (by omega) (by omega) ?_
            exact g_lv [3, 4, 5, 6, 0] rfl (ih _ _ (c0 + 1) (s0 + 6) (by omega) (by omega) hM)
          · have hM := fa_if_t hM hc124
            refine g_aload_n X 5 rfl d_Law_law_557 ?_
            refine g_iconst X d_Law_law_558 ?_
            refine g_lald X fs_237 (Nat.lt_of_lt_of_le (by decide) hN) (by decide) d_Law_law_559 ?_
            refine g_iload X 0 rfl d_Law_law_560 ?_
            refine g_ifb_eq X 569 d_Law_law_562 (by decide) (fun hc126 => ?_) (fun hc126 => ?_)
            · have hM := fa_ifb_f hM hc126
              refine g_lconst X (v := 0) (by decide) d_Law_law_569 ?_
              refine g_lcmp X d_Law_law_570 ?_
              refine g_if_eq X 576 d_Law_law_571 (by decide) (fun hc127 => ?_) (fun hc127 => ?_)
              · have hM := fa_if_t hM hc127
                refine g_goto X 1216 d_Law_law_576 (by decide) ?_
                refine g_iinc X 6 (fun x4_128 => [(4, .int (fa_I x4_128)), (6, .int (fa_I (fa_bi v120))), (5, .int (fa_I v115)), (0, .ref sb), (1, .ref (s.heap.size + 0)), (2, .ref (s.heap.size + 181)), (3, .ref (s.heap.size + 237))]) d_Law_law_1216 rfl (by decide) (fun _ => rfl) (fun x4_128 ex4_128 => ?_)
                have hM := fa_let_to hM ex4_128
                refine g_goto X 23 d_Law_law_1219 (by decide) ?_
                refine g_widen (k := c0 + 1) (n := s0 + 6) (by omega) (by omega) ?_
                exact g_lv [3, 4, 5, 6, 0] rfl (ih _ _ (c0 + 1) (s0 + 6) (by omega) (by omega) hM)
              · have hM := fa_if_f hM hc127
                refine g_iconst X d_Law_law_574 ?_
                exact absurd (Option.some.inj hM) (by decide)
            · have hM := fa_ifb_t hM hc126
              refine g_lconst X (v := 1) (by decide) d_Law_law_565 ?_
              refine g_goto X 570 d_Law_law_566 (by decide) ?_
              refine g_lcmp X d_Law_law_570 ?_
              refine g_if_eq X 576 d_Law_law_571 (by decide) (fun hc129 => ?_) (fun hc129 => ?_)
              · have hM := fa_if_t hM hc129
                refine g_goto X 1216 d_Law_law_576 (by decide) ?_
                refine g_iinc X 6 (fun x4_130 => [(4, .int (fa_I x4_130)), (6, .int (fa_I (fa_bi v120))), (5, .int (fa_I v115)), (0, .ref sb), (1, .ref (s.heap.size + 0)), (2, .ref (s.heap.size + 181)), (3, .ref (s.heap.size + 237))]) d_Law_law_1216 rfl (by decide) (fun _ => rfl) (fun x4_130 ex4_130 => ?_)
                have hM := fa_let_to hM ex4_130
                refine g_goto X 23 d_Law_law_1219 (by decide) ?_
                refine g_widen (k := c0 + 1) (n := s0 + 6) (by omega) (by omega) ?_
                exact g_lv [3, 4, 5, 6, 0] rfl (ih _ _ (c0 + 1) (s0 + 6) (by omega) (by omega) hM)
              · have hM := fa_if_f hM hc129
                refine g_iconst X d_Law_law_574 ?_
                exact absurd (Option.some.inj hM) (by decide)
        · have hM := fa_if_f hM hc123
          refine g_iconst X d_Law_law_550 ?_
          exact absurd (Option.some.inj hM) (by decide)
      have hM := fa_if_f hM hc111
      by_cases hc131 : fa_wr (fa_iand (xi j2) 31) = 9
      · have hM := fa_if_t hM hc131
        refine g_tableIn X 9 579 d_Law_law_40 hc131 (by decide) (by decide) rfl (by decide) ?_
        refine g_aload_n X 1 rfl d_Law_law_579 ?_
        refine g_aload_n X 0 rfl d_Law_law_580 ?_
        refine g_iload X 4 rfl d_Law_law_581 ?_
        refine g_iconst X d_Law_law_583 ?_
        refine g_iadd X d_Law_law_584 ?_
        obtain ⟨j132, ej132, hM⟩ := fa_ob hM
        refine l_sld X hX hbl ej132 d_Law_law_585 ?_
        refine g_aload_n X 0 rfl d_Law_law_586 ?_
        refine g_iload X 4 rfl d_Law_law_587 ?_
        refine g_iconst X d_Law_law_589 ?_
        refine g_iadd X d_Law_law_590 ?_
        obtain ⟨j133, ej133, hM⟩ := fa_ob hM
        refine l_sld X hX hbl ej133 d_Law_law_591 ?_
        refine g_aload_n X 3 rfl d_Law_law_592 ?_
        obtain ⟨v135, w136, e134, hM⟩ := fa_obd hM
        refine l_callW X (n := 4) wd_1258 wd_0 wd_1257 ⟨by decide, by decide, by decide +kernel⟩ (by decide) (c_Law_site (Nat.le_trans (by decide) hN) (Nat.le_trans (by decide) hT) (Nat.lt_of_lt_of_le (by decide) hN) hfl (xi j132) (xi j133) w _ _ e134) wd_1256 rfl (Nat.le_of_ble_eq_true rfl) (st := []) (Nat.le_of_ble_eq_true rfl) rfl d_Law_law_593 (by omega) (by omega) ?_
        refine g_istorec X [(5, .int (fa_I v135)), (0, .ref sb), (1, .ref (s.heap.size + 0)), (2, .ref (s.heap.size + 181)), (3, .ref (s.heap.size + 237)), (4, .int (fa_I i))] d_Law_law_596 (by decide) rfl ?_
        refine g_aload_n X 3 rfl d_Law_law_598 ?_
        refine g_aload_n X 1 rfl d_Law_law_599 ?_
        refine g_iload X 5 rfl d_Law_law_600 ?_
        refine g_iconst X d_Law_law_602 ?_
        refine g_iadd X d_Law_law_603 ?_
        obtain ⟨j137, ej137, hM⟩ := fa_ob hM
        refine l_sld X hX hbl ej137 d_Law_law_604 ?_
        refine g_aload_n X 1 rfl d_Law_law_605 ?_
        refine g_iload X 5 rfl d_Law_law_606 ?_
        refine g_iconst X d_Law_law_608 ?_
        refine g_iadd X d_Law_law_609 ?_
        obtain ⟨j138, ej138, hM⟩ := fa_ob hM
        refine l_sld X hX hbl ej138 d_Law_law_610 ?_
        obtain ⟨v140, w141, e139, hM⟩ := fa_obd hM
        refine l_callV X ck_10 fo_181 (Nat.lt_of_lt_of_le (by decide) hN) rfl mi_Mod_site (c_Mod_site (Nat.le_trans (by decide) hN) hT (xi j137) (xi j138) w136 _ e139) wd_2192 rfl (Nat.le_of_ble_eq_true rfl) (st := []) (Nat.le_of_ble_eq_true rfl) rfl d_Law_law_611 (by omega) (by omega) ?_
        refine g_istorec X [(6, .int (fa_I v140)), (5, .int (fa_I v135)), (0, .ref sb), (1, .ref (s.heap.size + 0)), (2, .ref (s.heap.size + 181)), (3, .ref (s.heap.size + 237)), (4, .int (fa_I i))] d_Law_law_614 (by decide) rfl ?_
        refine g_aload_n X 4 rfl d_Law_law_616 ?_
        refine l_callV X ck_10 fo_181 (Nat.lt_of_lt_of_le (by decide) hN) rfl mi_Mod_thrown (c_Mod_thrown (Nat.le_trans (by decide) hN) hT w141 _ rfl) wd_1466 rfl (Nat.le_of_ble_eq_true rfl) (st := []) (Nat.le_of_ble_eq_true rfl) rfl d_Law_law_617 (by omega) (by omega) ?_
        refine g_iload X 1 rfl d_Law_law_620 ?_
        refine g_icmp_eq X 627 d_Law_law_622 (by decide) (fun hc143 => ?_) (fun hc143 => ?_)
        · have hM := fa_if_t hM hc143
          refine g_iload X 1 rfl d_Law_law_627 ?_
          refine g_if_ne X 644 d_Law_law_629 (by decide) (fun hc144 => ?_) (fun hc144 => ?_)
          · have hM := fa_if_f hM hc144
            refine g_goto X 1216 d_Law_law_644 (by decide) ?_
            refine g_iinc X 6 (fun x4_145 => [(4, .int (fa_I x4_145)), (6, .int (fa_I v140)), (5, .int (fa_I v135)), (0, .ref sb), (1, .ref (s.heap.size + 0)), (2, .ref (s.heap.size + 181)), (3, .ref (s.heap.size + 237))]) d_Law_law_1216 rfl (by decide) (fun _ => rfl) (fun x4_145 ex4_145 => ?_)
            have hM := fa_let_to hM ex4_145
            refine g_goto X 23 d_Law_law_1219 (by decide) ?_
            refine g_widen (k := c0 + 1) (n := s0 + 6) (by omega) (by omega) ?_
            exact g_lv [3, 4, 5, 6, 0] rfl (ih _ _ (c0 + 1) (s0 + 6) (by omega) (by omega) hM)
          · have hM := fa_if_t hM hc144
            refine g_aload_n X 5 rfl d_Law_law_632 ?_
            refine g_iconst X d_Law_law_633 ?_
            refine g_lald X fs_237 (Nat.lt_of_lt_of_le (by decide) hN) (by decide) d_Law_law_634 ?_
            refine g_iload X 0 rfl d_Law_law_635 ?_
            refine g_i2l X d_Law_law_637 ?_
            refine g_lcmp X d_Law_law_638 ?_
            refine g_if_eq X 644 d_Law_law_639 (by decide) (fun hc146 => ?_) (fun hc146 => ?_)
            · have hM := fa_if_t hM hc146
              refine g_goto X 1216 d_Law_law_644 (by decide) ?_
              refine g_iinc X 6 (fun x4_147 => [(4, .int (fa_I x4_147)), (6, .int (fa_I v140)), (5, .int (fa_I v135)), (0, .ref sb), (1, .ref (s.heap.size + 0)), (2, .ref (s.heap.size + 181)), (3, .ref (s.heap.size + 237))]) d_Law_law_1216 rfl (by decide) (fun _ => rfl) (fun x4_147 ex4_147 => ?_)
              have hM := fa_let_to hM ex4_147
              refine g_goto X 23 d_Law_law_1219 (by decide) ?_
              refine g_widen (k := c0 + 1) (n := s0 + 6) (by omega) (by omega) ?_
              exact g_lv [3, 4, 5, 6, 0] rfl (ih _ _ (c0 + 1) (s0 + 6) (by omega) (by omega) hM)
            · have hM := fa_if_f hM hc146
              refine g_iconst X d_Law_law_642 ?_
              exact absurd (Option.some.inj hM) (by decide)
        · have hM := fa_if_f hM hc143
          refine g_iconst X d_Law_law_625 ?_
          exact absurd (Option.some.inj hM) (by decide)
      have hM := fa_if_f hM hc131
      by_cases hc148 : fa_wr (fa_iand (xi j2) 31) = 10
      · have hM := fa_if_t hM hc148
        refine g_tableIn X 10 647 d_Law_law_40 hc148 (by decide) (by decide) rfl (by decide) ?_
        refine g_aload_n X 1 rfl d_Law_law_647 ?_
        refine g_aload_n X 0 rfl d_Law_law_648 ?_
        refine g_iload X 4 rfl d_Law_law_649 ?_
        refine g_iconst X d_Law_law_651 ?_
        refine g_iadd X d_Law_law_652 ?_
        obtain ⟨j149, ej149, hM⟩ := fa_ob hM
        refine l_sld X hX hbl ej149 d_Law_law_653 ?_
        refine g_aload_n X 0 rfl d_Law_law_654 ?_
        refine g_iload X 4 rfl d_Law_law_655 ?_
        refine g_iconst X d_Law_law_657 ?_
        refine g_iadd X d_Law_law_658 ?_
        obtain ⟨j150, ej150, hM⟩ := fa_ob hM
        refine l_sld X hX hbl ej150 d_Law_law_659 ?_
        refine g_aload_n X 3 rfl d_Law_law_660 ?_
        obtain ⟨v152, w153, e151, hM⟩ := fa_obd hM
        refine l_callW X (n := 4) wd_1273 wd_0 wd_1272 ⟨by decide, by decide, by decide +kernel⟩ (by decide) (c_Law_split (Nat.le_trans (by decide) hN) (Nat.le_trans (by decide) hT) (Nat.lt_of_lt_of_le (by decide) hN) hfl (xi j149) (xi j150) w _ _ e151) wd_1271 rfl (Nat.le_of_ble_eq_true rfl) (st := []) (Nat.le_of_ble_eq_true rfl) rfl d_Law_law_661 (by omega) (by omega) ?_
        refine g_istorec X [(5, .int (fa_I v152)), (0, .ref sb), (1, .ref (s.heap.size + 0)), (2, .ref (s.heap.size + 181)), (3, .ref (s.heap.size + 237)), (4, .int (fa_I i))] d_Law_law_664 (by decide) rfl ?_
        refine g_aload_n X 3 rfl d_Law_law_666 ?_
        refine g_aload_n X 1 rfl d_Law_law_667 ?_
        refine g_iload X 5 rfl d_Law_law_668 ?_
        refine g_iconst X d_Law_law_670 ?_
        refine g_iadd X d_Law_law_671 ?_
        obtain ⟨j154, ej154, hM⟩ := fa_ob hM
        refine l_sld X hX hbl ej154 d_Law_law_672 ?_
        refine g_aload_n X 1 rfl d_Law_law_673 ?_
        refine g_iload X 5 rfl d_Law_law_674 ?_
        refine g_iconst X d_Law_law_676 ?_
        refine g_iadd X d_Law_law_677 ?_
        obtain ⟨j155, ej155, hM⟩ := fa_ob hM
        refine l_sld X hX hbl ej155 d_Law_law_678 ?_
        obtain ⟨v157, w158, e156, hM⟩ := fa_obd hM
        refine l_callV X ck_10 fo_181 (Nat.lt_of_lt_of_le (by decide) hN) rfl mi_Mod_split (c_Mod_split (Nat.le_trans (by decide) hN) hT (xi j154) (xi j155) w153 _ e156) wd_2200 rfl (Nat.le_of_ble_eq_true rfl) (st := []) (Nat.le_of_ble_eq_true rfl) rfl d_Law_law_679 (by omega) (by omega) ?_
        refine g_istorec X [(6, .int (fa_I v157)), (5, .int (fa_I v152)), (0, .ref sb), (1, .ref (s.heap.size + 0)), (2, .ref (s.heap.size + 181)), (3, .ref (s.heap.size + 237)), (4, .int (fa_I i))] d_Law_law_682 (by decide) rfl ?_
        refine g_aload_n X 4 rfl d_Law_law_684 ?_
        refine l_callV X ck_10 fo_181 (Nat.lt_of_lt_of_le (by decide) hN) rfl mi_Mod_thrown (c_Mod_thrown (Nat.le_trans (by decide) hN) hT w158 _ rfl) wd_1466 rfl (Nat.le_of_ble_eq_true rfl) (st := []) (Nat.le_of_ble_eq_true rfl) rfl d_Law_law_685 (by omega) (by omega) ?_
        refine g_iload X 1 rfl d_Law_law_688 ?_
        refine g_icmp_eq X 695 d_Law_law_690 (by decide) (fun hc160 => ?_) (fun hc160 => ?_)
        · have hM := fa_if_t hM hc160
          refine g_iload X 1 rfl d_Law_law_695 ?_
          refine g_if_ne X 712 d_Law_law_697 (by decide) (fun hc161 => ?_) (fun hc161 => ?_)
          · have hM := fa_if_f hM hc161
            refine g_goto X 1216 d_Law_law_712 (by decide) ?_
            refine g_iinc X 6 (fun x4_162 => [(4, .int (fa_I x4_162)), (6, .int (fa_I v157)), (5, .int (fa_I v152)), (0, .ref sb), (1, .ref (s.heap.size + 0)), (2, .ref (s.heap.size + 181)), (3, .ref (s.heap.size + 237))]) d_Law_law_1216 rfl (by decide) (fun _ => rfl) (fun x4_162 ex4_162 => ?_)
            have hM := fa_let_to hM ex4_162
            refine g_goto X 23 d_Law_law_1219 (by decide) ?_
            refine g_widen (k := c0 + 1) (n := s0 + 6) (by omega) (by omega) ?_
            exact g_lv [3, 4, 5, 6, 0] rfl (ih _ _ (c0 + 1) (s0 + 6) (by omega) (by omega) hM)
          · have hM := fa_if_t hM hc161
            refine g_aload_n X 5 rfl d_Law_law_700 ?_
            refine g_iconst X d_Law_law_701 ?_
            refine g_lald X fs_237 (Nat.lt_of_lt_of_le (by decide) hN) (by decide) d_Law_law_702 ?_
            refine g_iload X 0 rfl d_Law_law_703 ?_
            refine g_i2l X d_Law_law_705 ?_
            refine g_lcmp X d_Law_law_706 ?_
            refine g_if_eq X 712 d_Law_law_707 (by decide) (fun hc163 => ?_) (fun hc163 => ?_)
            · have hM := fa_if_t hM hc163
              refine g_goto X 1216 d_Law_law_712 (by decide) ?_
              refine g_iinc X 6 (fun x4_164 => [(4, .int (fa_I x4_164)), (6, .int (fa_I v157)), (5, .int (fa_I v152)), (0, .ref sb), (1, .ref (s.heap.size + 0)), (2, .ref (s.heap.size + 181)), (3, .ref (s.heap.size + 237))]) d_Law_law_1216 rfl (by decide) (fun _ => rfl) (fun x4_164 ex4_164 => ?_)
              have hM := fa_let_to hM ex4_164
              refine g_goto X 23 d_Law_law_1219 (by decide) ?_
              refine g_widen (k := c0 + 1) (n := s0 + 6) (by omega) (by omega) ?_
              exact g_lv [3, 4, 5, 6, 0] rfl (ih _ _ (c0 + 1) (s0 + 6) (by omega) (by omega) hM)
            · have hM := fa_if_f hM hc163
              refine g_iconst X d_Law_law_710 ?_
              exact absurd (Option.some.inj hM) (by decide)
        · have hM := fa_if_f hM hc160
          refine g_iconst X d_Law_law_693 ?_
          exact absurd (Option.some.inj hM) (by decide)
      have hM := fa_if_f hM hc148
      by_cases hc165 : fa_wr (fa_iand (xi j2) 31) = 11
      · have hM := fa_if_t hM hc165
        refine g_tableIn X 11 715 d_Law_law_40 hc165 (by decide) (by decide) rfl (by decide) ?_
        refine g_aload_n X 1 rfl d_Law_law_715 ?_
        refine g_aload_n X 0 rfl d_Law_law_716 ?_
        refine g_iload X 4 rfl d_Law_law_717 ?_
        refine g_iconst X d_Law_law_719 ?_
        refine g_iadd X d_Law_law_720 ?_
        obtain ⟨j166, ej166, hM⟩ := fa_ob hM
        refine l_sld X hX hbl ej166 d_Law_law_721 ?_
        refine g_aload_n X 0 rfl d_Law_law_722 ?_
        refine g_iload X 4 rfl d_Law_law_723 ?_
        refine g_iconst X d_Law_law_725 ?_
        refine g_iadd X d_Law_law_726 ?_
        obtain ⟨j167, ej167, hM⟩ := fa_ob hM
        refine l_sld X hX hbl ej167 d_Law_law_727 ?_
        refine g_aload_n X 0 rfl d_Law_law_728 ?_
        refine g_iload X 4 rfl d_Law_law_729 ?_
        refine g_iconst X d_Law_law_731 ?_
        refine g_iadd X d_Law_law_732 ?_
        obtain ⟨j168, ej168, hM⟩ := fa_ob hM
        refine l_sld X hX hbl ej168 d_Law_law_733 ?_
        refine g_if_eq X 741 d_Law_law_734 (by decide) (fun hc169 => ?_) (fun hc169 => ?_)
        · have hM := fa_if_t hM hc169
          refine g_iconst X d_Law_law_741 ?_
          refine g_aload_n X 3 rfl d_Law_law_742 ?_
          obtain ⟨v171, w172, e170, hM⟩ := fa_obd hM
          refine l_callW X (n := 5) wd_1302 wd_0 wd_1301 ⟨by decide, by decide, by decide +kernel⟩ (by decide) (c_Law_group (Nat.le_trans (by decide) hN) (Nat.le_trans (by decide) hT) (Nat.lt_of_lt_of_le (by decide) hN) hfl (xi j166) (xi j167) false w _ _ e170) wd_1300 rfl (Nat.le_of_ble_eq_true rfl) (st := []) (Nat.le_of_ble_eq_true rfl) rfl d_Law_law_743 (by omega) (by omega) ?_
          refine g_istorec X [(5, .int (fa_I v171)), (0, .ref sb), (1, .ref (s.heap.size + 0)), (2, .ref (s.heap.size + 181)), (3, .ref (s.heap.size + 237)), (4, .int (fa_I i))] d_Law_law_746 (by decide) rfl ?_
          refine g_aload_n X 3 rfl d_Law_law_748 ?_
          refine g_aload_n X 1 rfl d_Law_law_749 ?_
          refine g_iload X 5 rfl d_Law_law_750 ?_
          refine g_iconst X d_Law_law_752 ?_
          refine g_iadd X d_Law_law_753 ?_
          obtain ⟨j173, ej173, hM⟩ := fa_ob hM
          refine l_sld X hX hbl ej173 d_Law_law_754 ?_
          refine g_aload_n X 1 rfl d_Law_law_755 ?_
          refine g_iload X 5 rfl d_Law_law_756 ?_
          refine g_iconst X d_Law_law_758 ?_
          refine g_iadd X d_Law_law_759 ?_
          obtain ⟨j174, ej174, hM⟩ := fa_ob hM
          refine l_sld X hX hbl ej174 d_Law_law_760 ?_
          refine g_aload_n X 1 rfl d_Law_law_761 ?_
          refine g_iload X 5 rfl d_Law_law_762 ?_
          refine g_iconst X d_Law_law_764 ?_
          refine g_iadd X d_Law_law_765 ?_
          obtain ⟨j175, ej175, hM⟩ := fa_ob hM
          refine l_sld X hX hbl ej175 d_Law_law_766 ?_
          refine g_if_eq X 774 d_Law_law_767 (by decide) (fun hc176 => ?_) (fun hc176 => ?_)
          · have hM := fa_if_t hM hc176
            refine g_iconst X d_Law_law_774 ?_
            obtain ⟨v178, w179, e177, hM⟩ := fa_obd hM
            refine l_callV X ck_10 fo_181 (Nat.lt_of_lt_of_le (by decide) hN) rfl mi_Mod_group (c_Mod_group (Nat.le_trans (by decide) hN) hT (xi j173) (xi j174) false w172 _ e177) wd_2204 rfl (Nat.le_of_ble_eq_true rfl) (st := []) (Nat.le_of_ble_eq_true rfl) rfl d_Law_law_775 (by omega) (by omega) ?_
            refine g_istorec X [(6, .int (fa_I v178)), (5, .int (fa_I v171)), (0, .ref sb), (1, .ref (s.heap.size + 0)), (2, .ref (s.heap.size + 181)), (3, .ref (s.heap.size + 237)), (4, .int (fa_I i))] d_Law_law_778 (by decide) rfl ?_
            refine g_aload_n X 4 rfl d_Law_law_780 ?_
            refine l_callV X ck_10 fo_181 (Nat.lt_of_lt_of_le (by decide) hN) rfl mi_Mod_thrown (c_Mod_thrown (Nat.le_trans (by decide) hN) hT w179 _ rfl) wd_1466 rfl (Nat.le_of_ble_eq_true rfl) (st := []) (Nat.le_of_ble_eq_true rfl) rfl d_Law_law_781 (by omega) (by omega) ?_
            refine g_iload X 1 rfl d_Law_law_784 ?_
            refine g_icmp_eq X 791 d_Law_law_786 (by decide) (fun hc181 => ?_) (fun hc181 => ?_)
            · have hM := fa_if_t hM hc181
              refine g_iload X 1 rfl d_Law_law_791 ?_
              refine g_if_ne X 808 d_Law_law_793 (by decide) (fun hc182 => ?_) (fun hc182 => ?_)
              · have hM := fa_if_f hM hc182
                refine g_goto X 1216 d_Law_law_808 (by decide) ?_
                refine g_iinc X 6 (fun x4_183 => [(4, .int (fa_I x4_183)), (6, .int (fa_I v178)), (5, .int (fa_I v171)), (0, .ref sb), (1, .ref (s.heap.size + 0)), (2, .ref (s.heap.size + 181)), (3, .ref (s.heap.size + 237))]) d_Law_law_1216 rfl (by decide) (fun _ => rfl) (fun x4_183 ex4_183 => ?_)
                have hM := fa_let_to hM ex4_183
                refine g_goto X 23 d_Law_law_1219 (by decide) ?_
                refine g_widen (k := c0 + 1) (n := s0 + 6) (by omega) (by omega) ?_
                exact g_lv [3, 4, 5, 6, 0] rfl (ih _ _ (c0 + 1) (s0 + 6) (by omega) (by omega) hM)
              · have hM := fa_if_t hM hc182
                refine g_aload_n X 5 rfl d_Law_law_796 ?_
                refine g_iconst X d_Law_law_797 ?_
                refine g_lald X fs_237 (Nat.lt_of_lt_of_le (by decide) hN) (by decide) d_Law_law_798 ?_
                refine g_iload X 0 rfl d_Law_law_799 ?_
                refine g_i2l X d_Law_law_801 ?_
                refine g_lcmp X d_Law_law_802 ?_
                refine g_if_eq X 808 d_Law_law_803 (by decide) (fun hc184 => ?_) (fun hc184 => ?_)
                · have hM := fa_if_t hM hc184
                  refine g_goto X 1216 d_Law_law_808 (by decide) ?_
                  refine g_iinc X 6 (fun x4_185 => [(4, .int (fa_I x4_185)), (6, .int (fa_I v178)), (5, .int (fa_I v171)), (0, .ref sb), (1, .ref (s.heap.size + 0)), (2, .ref (s.heap.size + 181)), (3, .ref (s.heap.size + 237))]) d_Law_law_1216 rfl (by decide) (fun _ => rfl) (fun x4_185 ex4_185 => ?_)
                  have hM := fa_let_to hM ex4_185
                  refine g_goto X 23 d_Law_law_1219 (by decide) ?_
                  refine g_widen (k := c0 + 1) (n := s0 + 6) (by omega) (by omega) ?_
                  exact g_lv [3, 4, 5, 6, 0] rfl (ih _ _ (c0 + 1) (s0 + 6) (by omega) (by omega) hM)
                · have hM := fa_if_f hM hc184
                  refine g_iconst X d_Law_law_806 ?_
                  exact absurd (Option.some.inj hM) (by decide)
            · have hM := fa_if_f hM hc181
              refine g_iconst X d_Law_law_789 ?_
              exact absurd (Option.some.inj hM) (by decide)
          · have hM := fa_if_f hM hc176
            refine g_iconst X d_Law_law_770 ?_
            refine g_goto X 775 d_Law_law_771 (by decide) ?_
            obtain ⟨v187, w188, e186, hM⟩ := fa_obd hM
            refine l_callV X ck_10 fo_181 (Nat.lt_of_lt_of_le (by decide) hN) rfl mi_Mod_group (c_Mod_group (Nat.le_trans (by decide) hN) hT (xi j173) (xi j174) true w172 _ e186) wd_2204 rfl (Nat.le_of_ble_eq_true rfl) (st := []) (Nat.le_of_ble_eq_true rfl) rfl d_Law_law_775 (by omega) (by omega) ?_
            refine g_istorec X [(6, .int (fa_I v187)), (5, .int (fa_I v171)), (0, .ref sb), (1, .ref (s.heap.size + 0)), (2, .ref (s.heap.size + 181)), (3, .ref (s.heap.size + 237)), (4, .int (fa_I i))] d_Law_law_778 (by decide) rfl ?_
            refine g_aload_n X 4 rfl d_Law_law_780 ?_
            refine l_callV X ck_10 fo_181 (Nat.lt_of_lt_of_le (by decide) hN) rfl mi_Mod_thrown (c_Mod_thrown (Nat.le_trans (by decide) hN) hT w188 _ rfl) wd_1466 rfl (Nat.le_of_ble_eq_true rfl) (st := []) (Nat.le_of_ble_eq_true rfl) rfl d_Law_law_781 (by omega) (by omega) ?_
            refine g_iload X 1 rfl d_Law_law_784 ?_
            refine g_icmp_eq X 791 d_Law_law_786 (by decide) (fun hc190 => ?_) (fun hc190 => ?_)
            · have hM := fa_if_t hM hc190
              refine g_iload X 1 rfl d_Law_law_791 ?_
              refine g_if_ne X 808 d_Law_law_793 (by decide) (fun hc191 => ?_) (fun hc191 => ?_)
              · have hM := fa_if_f hM hc191
                refine g_goto X 1216 d_Law_law_808 (by decide) ?_
                refine g_iinc X 6 (fun x4_192 => [(4, .int (fa_I x4_192)), (6, .int (fa_I v187)), (5, .int (fa_I v171)), (0, .ref sb), (1, .ref (s.heap.size + 0)), (2, .ref (s.heap.size + 181)), (3, .ref (s.heap.size + 237))]) d_Law_law_1216 rfl (by decide) (fun _ => rfl) (fun x4_192 ex4_192 => ?_)
                have hM := fa_let_to hM ex4_192
                refine g_goto X 23 d_Law_law_1219 (by decide) ?_
                refine g_widen (k := c0 + 1) (n := s0 + 6) (by omega) (by omega) ?_
                exact g_lv [3, 4, 5, 6, 0] rfl (ih _ _ (c0 + 1) (s0 + 6) (by omega) (by omega) hM)
              · have hM := fa_if_t hM hc191
                refine g_aload_n X 5 rfl d_Law_law_796 ?_
                refine g_iconst X d_Law_law_797 ?_
                refine g_lald X fs_237 (Nat.lt_of_lt_of_le (by decide) hN) (by decide) d_Law_law_798 ?_
                refine g_iload X 0 rfl d_Law_law_799 ?_
                refine g_i2l X d_Law_law_801 ?_
                refine g_lcmp X d_Law_law_802 ?_
                refine g_if_eq X 808 d_Law_law_803 (by decide) (fun hc193 => ?_) (fun hc193 => ?_)
                · have hM := fa_if_t hM hc193
                  refine g_goto X 1216 d_Law_law_808 (by decide) ?_
                  refine g_iinc X 6 (fun x4_194 => [(4, .int (fa_I x4_194)), (6, .int (fa_I v187)), (5, .int (fa_I v171)), (0, .ref sb), (1, .ref (s.heap.size + 0)), (2, .ref (s.heap.size + 181)), (3, .ref (s.heap.size + 237))]) d_Law_law_1216 rfl (by decide) (fun _ => rfl) (fun x4_194 ex4_194 => ?_)
                  have hM := fa_let_to hM ex4_194
                  refine g_goto X 23 d_Law_law_1219 (by decide) ?_
                  refine g_widen (k := c0 + 1) (n := s0 + 6) (by omega) (by omega) ?_
                  exact g_lv [3, 4, 5, 6, 0] rfl (ih _ _ (c0 + 1) (s0 + 6) (by omega) (by omega) hM)
                · have hM := fa_if_f hM hc193
                  refine g_iconst X d_Law_law_806 ?_
                  exact absurd (Option.some.inj hM) (by decide)
            · have hM := fa_if_f hM hc190
              refine g_iconst X d_Law_law_789 ?_
              exact absurd (Option.some.inj hM) (by decide)
        · have hM := fa_if_f hM hc169
          refine g_iconst X d_Law_law_737 ?_
          refine g_goto X 742 d_Law_law_738 (by decide) ?_
          refine g_aload_n X 3 rfl d_Law_law_742 ?_
          obtain ⟨v196, w197, e195, hM⟩ := fa_obd hM
          refine l_callW X (n := 5) wd_1302 wd_0 wd_1301 ⟨by decide, by decide, by decide +kernel⟩ (by decide) (c_Law_group (Nat.le_trans (by decide) hN) (Nat.le_trans (by decide) hT) (Nat.lt_of_lt_of_le (by decide) hN) hfl (xi j166) (xi j167) true w _ _ e195) wd_1300 rfl (Nat.le_of_ble_eq_true rfl) (st := []) (Nat.le_of_ble_eq_true rfl) rfl d_Law_law_743 (by omega) (by omega) ?_
          refine g_istorec X [(5, .int (fa_I v196)), (0, .ref sb), (1, .ref (s.heap.size + 0)), (2, .ref (s.heap.size + 181)), (3, .ref (s.heap.size + 237)), (4, .int (fa_I i))] d_Law_law_746 (by decide) rfl ?_
          refine g_aload_n X 3 rfl d_Law_law_748 ?_
          refine g_aload_n X 1 rfl d_Law_law_749 ?_
          refine g_iload X 5 rfl d_Law_law_750 ?_
          refine g_iconst X d_Law_law_752 ?_
          refine g_iadd X d_Law_law_753 ?_
          obtain ⟨j198, ej198, hM⟩ := fa_ob hM
          refine l_sld X hX hbl ej198 d_Law_law_754 ?_
          refine g_aload_n X 1 rfl d_Law_law_755 ?_
          refine g_iload X 5 rfl d_Law_law_756 ?_
          refine g_iconst X d_Law_law_758 ?_
          refine g_iadd X d_Law_law_759 ?_
          obtain ⟨j199, ej199, hM⟩ := fa_ob hM
          refine l_sld X hX hbl ej199 d_Law_law_760 ?_
          refine g_aload_n X 1 rfl d_Law_law_761 ?_
          refine g_iload X 5 rfl d_Law_law_762 ?_
          refine g_iconst X d_Law_law_764 ?_
          refine g_iadd X d_Law_law_765 ?_
          obtain ⟨j200, ej200, hM⟩ := fa_ob hM
          refine l_sld X hX hbl ej200 d_Law_law_766 ?_
          refine g_if_eq X 774 d_Law_law_767 (by decide) (fun hc201 => ?_) (fun hc201 => ?_)
          · have hM := fa_if_t hM hc201
            refine g_iconst X d_Law_law_774 ?_
            obtain ⟨v203, w204, e202, hM⟩ := fa_obd hM
            refine l_callV X ck_10 fo_181 (Nat.lt_of_lt_of_le (by decide) hN) rfl mi_Mod_group (c_Mod_group (Nat.le_trans (by decide) hN) hT (xi j198) (xi j199) false w197 _ e202) wd_2204 rfl (Nat.le_of_ble_eq_true rfl) (st := []) (Nat.le_of_ble_eq_true rfl) rfl d_Law_law_775 (by omega) (by omega) ?_
            refine g_istorec X [(6, .int (fa_I v203)), (5, .int (fa_I v196)), (0, .ref sb), (1, .ref (s.heap.size + 0)), (2, .ref (s.heap.size + 181)), (3, .ref (s.heap.size + 237)), (4, .int (fa_I i))] d_Law_law_778 (by decide) rfl ?_
            refine g_aload_n X 4 rfl d_Law_law_780 ?_
            refine l_callV X ck_10 fo_181 (Nat.lt_of_lt_of_le (by decide) hN) rfl mi_Mod_thrown (c_Mod_thrown (Nat.le_trans (by decide) hN) hT w204 _ rfl) wd_1466 rfl (Nat.le_of_ble_eq_true rfl) (st := []) (Nat.le_of_ble_eq_true rfl) rfl d_Law_law_781 (by omega) (by omega) ?_
            refine g_iload X 1 rfl d_Law_law_784 ?_
            refine g_icmp_eq X 791 d_Law_law_786 (by decide) (fun hc206 => ?_) (fun hc206 => ?_)
            · have hM := fa_if_t hM hc206
              refine g_iload X 1 rfl d_Law_law_791 ?_
              refine g_if_ne X 808 d_Law_law_793 (by decide) (fun hc207 => ?_) (fun hc207 => ?_)
              · have hM := fa_if_f hM hc207
                refine g_goto X 1216 d_Law_law_808 (by decide) ?_
                refine g_iinc X 6 (fun x4_208 => [(4, .int (fa_I x4_208)), (6, .int (fa_I v203)), (5, .int (fa_I v196)), (0, .ref sb), (1, .ref (s.heap.size + 0)), (2, .ref (s.heap.size + 181)), (3, .ref (s.heap.size + 237))]) d_Law_law_1216 rfl (by decide) (fun _ => rfl) (fun x4_208 ex4_208 => ?_)
                have hM := fa_let_to hM ex4_208
                refine g_goto X 23 d_Law_law_1219 (by decide) ?_
                refine g_widen (k := c0 + 1) (n := s0 + 6) (by omega) (by omega) ?_
                exact g_lv [3, 4, 5, 6, 0] rfl (ih _ _ (c0 + 1) (s0 + 6) (by omega) (by omega) hM)
              · have hM := fa_if_t hM hc207
                refine g_aload_n X 5 rfl d_Law_law_796 ?_
                refine g_iconst X d_Law_law_797 ?_
                refine g_lald X fs_237 (Nat.lt_of_lt_of_le (by decide) hN) (by decide) d_Law_law_798 ?_
                refine g_iload X 0 rfl d_Law_law_799 ?_
                refine g_i2l X d_Law_law_801 ?_
                refine g_lcmp X d_Law_law_802 ?_
                refine g_if_eq X 808 d_Law_law_803 (by decide) (fun hc209 => ?_) (fun hc209 => ?_)
                · have hM := fa_if_t hM hc209
                  refine g_goto X 1216 d_Law_law_808 (by decide) ?_
                  refine g_iinc X 6 (fun x4_210 => [(4, .int (fa_I x4_210)), (6, .int (fa_I v203)), (5, .int (fa_I v196)), (0, .ref sb), (1, .ref (s.heap.size + 0)), (2, .ref (s.heap.size + 181)), (3, .ref (s.heap.size + 237))]) d_Law_law_1216 rfl (by decide) (fun _ => rfl) (fun x4_210 ex4_210 => ?_)
                  have hM := fa_let_to hM ex4_210
                  refine g_goto X 23 d_Law_law_1219 (by decide) ?_
                  refine g_widen (k := c0 + 1) (n := s0 + 6) (by omega) (by omega) ?_
                  exact g_lv [3, 4, 5, 6, 0] rfl (ih _ _ (c0 + 1) (s0 + 6) (by omega) (by omega) hM)
                · have hM := fa_if_f hM hc209
                  refine g_iconst X d_Law_law_806 ?_
                  exact absurd (Option.some.inj hM) (by decide)
            · have hM := fa_if_f hM hc206
              refine g_iconst X d_Law_law_789 ?_
              exact absurd (Option.some.inj hM) (by decide)
          · have hM := fa_if_f hM hc201
            refine g_iconst X d_Law_law_770 ?_
            refine g_goto X 775 d_Law_law_771 (by decide) ?_
            obtain ⟨v212, w213, e211, hM⟩ := fa_obd hM
            refine l_callV X ck_10 fo_181 (Nat.lt_of_lt_of_le (by decide) hN) rfl mi_Mod_group (c_Mod_group (Nat.le_trans (by decide) hN) hT (xi j198) (xi j199) true w197 _ e211) wd_2204 rfl (Nat.le_of_ble_eq_true rfl) (st := []) (Nat.le_of_ble_eq_true rfl) rfl d_Law_law_775 (by omega) (by omega) ?_
            refine g_istorec X [(6, .int (fa_I v212)), (5, .int (fa_I v196)), (0, .ref sb), (1, .ref (s.heap.size + 0)), (2, .ref (s.heap.size + 181)), (3, .ref (s.heap.size + 237)), (4, .int (fa_I i))] d_Law_law_778 (by decide) rfl ?_
            refine g_aload_n X 4 rfl d_Law_law_780 ?_
            refine l_callV X ck_10 fo_181 (Nat.lt_of_lt_of_le (by decide) hN) rfl mi_Mod_thrown (c_Mod_thrown (Nat.le_trans (by decide) hN) hT w213 _ rfl) wd_1466 rfl (Nat.le_of_ble_eq_true rfl) (st := []) (Nat.le_of_ble_eq_true rfl) rfl d_Law_law_781 (by omega) (by omega) ?_
            refine g_iload X 1 rfl d_Law_law_784 ?_
            refine g_icmp_eq X 791 d_Law_law_786 (by decide) (fun hc215 => ?_) (fun hc215 => ?_)
            · have hM := fa_if_t hM hc215
              refine g_iload X 1 rfl d_Law_law_791 ?_
              refine g_if_ne X 808 d_Law_law_793 (by decide) (fun hc216 => ?_) (fun hc216 => ?_)
              · have hM := fa_if_f hM hc216
                refine g_goto X 1216 d_Law_law_808 (by decide) ?_
                refine g_iinc X 6 (fun x4_217 => [(4, .int (fa_I x4_217)), (6, .int (fa_I v212)), (5, .int (fa_I v196)), (0, .ref sb), (1, .ref (s.heap.size + 0)), (2, .ref (s.heap.size + 181)), (3, .ref (s.heap.size + 237))]) d_Law_law_1216 rfl (by decide) (fun _ => rfl) (fun x4_217 ex4_217 => ?_)
                have hM := fa_let_to hM ex4_217
                refine g_goto X 23 d_Law_law_1219 (by decide) ?_
                refine g_widen (k := c0 + 1) (n := s0 + 6) (by omega) (by omega) ?_
                exact g_lv [3, 4, 5, 6, 0] rfl (ih _ _ (c0 + 1) (s0 + 6) (by omega) (by omega) hM)
              · have hM := fa_if_t hM hc216
                refine g_aload_n X 5 rfl d_Law_law_796 ?_
                refine g_iconst X d_Law_law_797 ?_
                refine g_lald X fs_237 (Nat.lt_of_lt_of_le (by decide) hN) (by decide) d_Law_law_798 ?_
                refine g_iload X 0 rfl d_Law_law_799 ?_
                refine g_i2l X d_Law_law_801 ?_
                refine g_lcmp X d_Law_law_802 ?_
                refine g_if_eq X 808 d_Law_law_803 (by decide) (fun hc218 => ?_) (fun hc218 => ?_)
                · have hM := fa_if_t hM hc218
                  refine g_goto X 1216 d_Law_law_808 (by decide) ?_
                  refine g_iinc X 6 (fun x4_219 => [(4, .int (fa_I x4_219)), (6, .int (fa_I v212)), (5, .int (fa_I v196)), (0, .ref sb), (1, .ref (s.heap.size + 0)), (2, .ref (s.heap.size + 181)), (3, .ref (s.heap.size + 237))]) d_Law_law_1216 rfl (by decide) (fun _ => rfl) (fun x4_219 ex4_219 => ?_)
                  have hM := fa_let_to hM ex4_219
                  refine g_goto X 23 d_Law_law_1219 (by decide) ?_
                  refine g_widen (k := c0 + 1) (n := s0 + 6) (by omega) (by omega) ?_
                  exact g_lv [3, 4, 5, 6, 0] rfl (ih _ _ (c0 + 1) (s0 + 6) (by omega) (by omega) hM)
                · have hM := fa_if_f hM hc218
                  refine g_iconst X d_Law_law_806 ?_
                  exact absurd (Option.some.inj hM) (by decide)
            · have hM := fa_if_f hM hc215
              refine g_iconst X d_Law_law_789 ?_
              exact absurd (Option.some.inj hM) (by decide)
      have hM := fa_if_f hM hc165
      by_cases hc220 : fa_wr (fa_iand (xi j2) 31) = 12
      · have hM := fa_if_t hM hc220
        refine g_tableIn X 12 811 d_Law_law_40 hc220 (by decide) (by decide) rfl (by decide) ?_
        refine g_aload_n X 1 rfl d_Law_law_811 ?_
        refine g_aload_n X 0 rfl d_Law_law_812 ?_
        refine g_iload X 4 rfl d_Law_law_813 ?_
        refine g_iconst X d_Law_law_815 ?_
        refine g_iadd X d_Law_law_816 ?_
        obtain ⟨j221, ej221, hM⟩ := fa_ob hM
        refine l_sld X hX hbl ej221 d_Law_law_817 ?_
        refine g_aload_n X 0 rfl d_Law_law_818 ?_
        refine g_iload X 4 rfl d_Law_law_819 ?_
        refine g_iconst X d_Law_law_821 ?_
        refine g_iadd X d_Law_law_822 ?_
        obtain ⟨j222, ej222, hM⟩ := fa_ob hM
        refine l_sld X hX hbl ej222 d_Law_law_823 ?_
        refine g_aload_n X 3 rfl d_Law_law_824 ?_
        obtain ⟨v224, w225, e223, hM⟩ := fa_obd hM
        refine l_callW X (n := 4) wd_1311 wd_0 wd_1310 ⟨by decide, by decide, by decide +kernel⟩ (by decide) (c_Law_run (Nat.le_trans (by decide) hN) (Nat.le_trans (by decide) hT) (Nat.lt_of_lt_of_le (by decide) hN) hfl (xi j221) (xi j222) w _ _ e223) wd_1309 rfl (Nat.le_of_ble_eq_true rfl) (st := []) (Nat.le_of_ble_eq_true rfl) rfl d_Law_law_825 (by omega) (by omega) ?_
        refine g_istorec X [(5, .int (fa_I v224)), (0, .ref sb), (1, .ref (s.heap.size + 0)), (2, .ref (s.heap.size + 181)), (3, .ref (s.heap.size + 237)), (4, .int (fa_I i))] d_Law_law_828 (by decide) rfl ?_
        refine g_aload_n X 3 rfl d_Law_law_830 ?_
        refine g_aload_n X 1 rfl d_Law_law_831 ?_
        refine g_iload X 5 rfl d_Law_law_832 ?_
        refine g_iconst X d_Law_law_834 ?_
        refine g_iadd X d_Law_law_835 ?_
        obtain ⟨j226, ej226, hM⟩ := fa_ob hM
        refine l_sld X hX hbl ej226 d_Law_law_836 ?_
        refine g_aload_n X 1 rfl d_Law_law_837 ?_
        refine g_iload X 5 rfl d_Law_law_838 ?_
        refine g_iconst X d_Law_law_840 ?_
        refine g_iadd X d_Law_law_841 ?_
        obtain ⟨j227, ej227, hM⟩ := fa_ob hM
        refine l_sld X hX hbl ej227 d_Law_law_842 ?_
        obtain ⟨v229, w230, e228, hM⟩ := fa_obd hM
        refine l_callV X ck_10 fo_181 (Nat.lt_of_lt_of_le (by decide) hN) rfl mi_Mod_run (c_Mod_run (Nat.le_trans (by decide) hN) hT (xi j226) (xi j227) w225 _ e228) wd_2148 rfl (Nat.le_of_ble_eq_true rfl) (st := []) (Nat.le_of_ble_eq_true rfl) rfl d_Law_law_843 (by omega) (by omega) ?_
        refine g_istorec X [(6, .int (fa_I v229)), (5, .int (fa_I v224)), (0, .ref sb), (1, .ref (s.heap.size + 0)), (2, .ref (s.heap.size + 181)), (3, .ref (s.heap.size + 237)), (4, .int (fa_I i))] d_Law_law_846 (by decide) rfl ?_
        refine g_aload_n X 4 rfl d_Law_law_848 ?_
        refine l_callV X ck_10 fo_181 (Nat.lt_of_lt_of_le (by decide) hN) rfl mi_Mod_thrown (c_Mod_thrown (Nat.le_trans (by decide) hN) hT w230 _ rfl) wd_1466 rfl (Nat.le_of_ble_eq_true rfl) (st := []) (Nat.le_of_ble_eq_true rfl) rfl d_Law_law_849 (by omega) (by omega) ?_
        refine g_iload X 1 rfl d_Law_law_852 ?_
        refine g_icmp_eq X 859 d_Law_law_854 (by decide) (fun hc232 => ?_) (fun hc232 => ?_)
        · have hM := fa_if_t hM hc232
          refine g_iload X 1 rfl d_Law_law_859 ?_
          refine g_if_ne X 876 d_Law_law_861 (by decide) (fun hc233 => ?_) (fun hc233 => ?_)
          · have hM := fa_if_f hM hc233
            refine g_goto X 1216 d_Law_law_876 (by decide) ?_
            refine g_iinc X 6 (fun x4_234 => [(4, .int (fa_I x4_234)), (6, .int (fa_I v229)), (5, .int (fa_I v224)), (0, .ref sb), (1, .ref (s.heap.size + 0)), (2, .ref (s.heap.size + 181)), (3, .ref (s.heap.size + 237))]) d_Law_law_1216 rfl (by decide) (fun _ => rfl) (fun x4_234 ex4_234 => ?_)
            have hM := fa_let_to hM ex4_234
            refine g_goto X 23 d_Law_law_1219 (by decide) ?_
            refine g_widen (k := c0 + 1) (n := s0 + 6) (by omega) (by omega) ?_
            exact g_lv [3, 4, 5, 6, 0] rfl (ih _ _ (c0 + 1) (s0 + 6) (by omega) (by omega) hM)
          · have hM := fa_if_t hM hc233
            refine g_aload_n X 5 rfl d_Law_law_864 ?_
            refine g_iconst X d_Law_law_865 ?_
            refine g_lald X fs_237 (Nat.lt_of_lt_of_le (by decide) hN) (by decide) d_Law_law_866 ?_
            refine g_iload X 0 rfl d_Law_law_867 ?_
            refine g_i2l X d_Law_law_869 ?_
            refine g_lcmp X d_Law_law_870 ?_
            refine g_if_eq X 876 d_Law_law_871 (by decide) (fun hc235 => ?_) (fun hc235 => ?_)
            · have hM := fa_if_t hM hc235
              refine g_goto X 1216 d_Law_law_876 (by decide) ?_
              refine g_iinc X 6 (fun x4_236 => [(4, .int (fa_I x4_236)), (6, .int (fa_I v229)), (5, .int (fa_I v224)), (0, .ref sb), (1, .ref (s.heap.size + 0)), (2, .ref (s.heap.size + 181)), (3, .ref (s.heap.size + 237))]) d_Law_law_1216 rfl (by decide) (fun _ => rfl) (fun x4_236 ex4_236 => ?_)
              have hM := fa_let_to hM ex4_236
              refine g_goto X 23 d_Law_law_1219 (by decide) ?_
              refine g_widen (k := c0 + 1) (n := s0 + 6) (by omega) (by omega) ?_
              exact g_lv [3, 4, 5, 6, 0] rfl (ih _ _ (c0 + 1) (s0 + 6) (by omega) (by omega) hM)
            · have hM := fa_if_f hM hc235
              refine g_iconst X d_Law_law_874 ?_
              exact absurd (Option.some.inj hM) (by decide)
        · have hM := fa_if_f hM hc232
          refine g_iconst X d_Law_law_857 ?_
          exact absurd (Option.some.inj hM) (by decide)
      have hM := fa_if_f hM hc220
      by_cases hc237 : fa_wr (fa_iand (xi j2) 31) = 13
      · have hM := fa_if_t hM hc237
        refine g_tableIn X 13 879 d_Law_law_40 hc237 (by decide) (by decide) rfl (by decide) ?_
        refine g_aload_n X 1 rfl d_Law_law_879 ?_
        refine g_aload_n X 0 rfl d_Law_law_880 ?_
        refine g_iload X 4 rfl d_Law_law_881 ?_
        refine g_iconst X d_Law_law_883 ?_
        refine g_iadd X d_Law_law_884 ?_
        obtain ⟨j238, ej238, hM⟩ := fa_ob hM
        refine l_sld X hX hbl ej238 d_Law_law_885 ?_
        refine g_aload_n X 0 rfl d_Law_law_886 ?_
        refine g_iload X 4 rfl d_Law_law_887 ?_
        refine g_iconst X d_Law_law_889 ?_
        refine g_iadd X d_Law_law_890 ?_
        obtain ⟨j239, ej239, hM⟩ := fa_ob hM
        refine l_sld X hX hbl ej239 d_Law_law_891 ?_
        refine g_aload_n X 3 rfl d_Law_law_892 ?_
        obtain ⟨v241, w242, e240, hM⟩ := fa_obd hM
        refine l_callW X (n := 4) wd_1413 wd_0 wd_1412 ⟨by decide, by decide, by decide +kernel⟩ (by decide) (c_Law_blame (Nat.le_trans (by decide) hN) (Nat.le_trans (by decide) hT) (Nat.lt_of_lt_of_le (by decide) hN) hfl (xi j238) (xi j239) w _ _ e240) wd_1411 rfl (Nat.le_of_ble_eq_true rfl) (st := []) (Nat.le_of_ble_eq_true rfl) rfl d_Law_law_893 (by omega) (by omega) ?_
        refine g_istorec X [(5, .int (fa_I v241)), (0, .ref sb), (1, .ref (s.heap.size + 0)), (2, .ref (s.heap.size + 181)), (3, .ref (s.heap.size + 237)), (4, .int (fa_I i))] d_Law_law_896 (by decide) rfl ?_
        refine g_aload_n X 3 rfl d_Law_law_898 ?_
        refine g_aload_n X 1 rfl d_Law_law_899 ?_
        refine g_iload X 5 rfl d_Law_law_900 ?_
        refine g_iconst X d_Law_law_902 ?_
        refine g_iadd X d_Law_law_903 ?_
        obtain ⟨j243, ej243, hM⟩ := fa_ob hM
        refine l_sld X hX hbl ej243 d_Law_law_904 ?_
        refine g_aload_n X 1 rfl d_Law_law_905 ?_
        refine g_iload X 5 rfl d_Law_law_906 ?_
        refine g_iconst X d_Law_law_908 ?_
        refine g_iadd X d_Law_law_909 ?_
        obtain ⟨j244, ej244, hM⟩ := fa_ob hM
        refine l_sld X hX hbl ej244 d_Law_law_910 ?_
        obtain ⟨v246, w247, e245, hM⟩ := fa_obd hM
        refine l_callV X ck_10 fo_181 (Nat.lt_of_lt_of_le (by decide) hN) rfl mi_Mod_blame (c_Mod_blame (Nat.le_trans (by decide) hN) hT (xi j243) (xi j244) w242 _ e245) wd_2180 rfl (Nat.le_of_ble_eq_true rfl) (st := []) (Nat.le_of_ble_eq_true rfl) rfl d_Law_law_911 (by omega) (by omega) ?_
        refine g_istorec X [(6, .int (fa_I v246)), (5, .int (fa_I v241)), (0, .ref sb), (1, .ref (s.heap.size + 0)), (2, .ref (s.heap.size + 181)), (3, .ref (s.heap.size + 237)), (4, .int (fa_I i))] d_Law_law_914 (by decide) rfl ?_
        refine g_aload_n X 4 rfl d_Law_law_916 ?_
        refine l_callV X ck_10 fo_181 (Nat.lt_of_lt_of_le (by decide) hN) rfl mi_Mod_thrown (c_Mod_thrown (Nat.le_trans (by decide) hN) hT w247 _ rfl) wd_1466 rfl (Nat.le_of_ble_eq_true rfl) (st := []) (Nat.le_of_ble_eq_true rfl) rfl d_Law_law_917 (by omega) (by omega) ?_
        refine g_iload X 1 rfl d_Law_law_920 ?_
        refine g_icmp_eq X 927 d_Law_law_922 (by decide) (fun hc249 => ?_) (fun hc249 => ?_)
        · have hM := fa_if_t hM hc249
          refine g_iload X 1 rfl d_Law_law_927 ?_
          refine g_if_ne X 944 d_Law_law_929 (by decide) (fun hc250 => ?_) (fun hc250 => ?_)
          · have hM := fa_if_f hM hc250
            refine g_goto X 1216 d_Law_law_944 (by decide) ?_
            refine g_iinc X 6 (fun x4_251 => [(4, .int (fa_I x4_251)), (6, .int (fa_I v246)), (5, .int (fa_I v241)), (0, .ref sb), (1, .ref (s.heap.size + 0)), (2, .ref (s.heap.size + 181)), (3, .ref (s.heap.size + 237))]) d_Law_law_1216 rfl (by decide) (fun _ => rfl) (fun x4_251 ex4_251 => ?_)
            have hM := fa_let_to hM ex4_251
            refine g_goto X 23 d_Law_law_1219 (by decide) ?_
            refine g_widen (k := c0 + 1) (n := s0 + 6) (by omega) (by omega) ?_
            exact g_lv [3, 4, 5, 6, 0] rfl (ih _ _ (c0 + 1) (s0 + 6) (by omega) (by omega) hM)
          · have hM := fa_if_t hM hc250
            refine g_aload_n X 5 rfl d_Law_law_932 ?_
            refine g_iconst X d_Law_law_933 ?_
            refine g_lald X fs_237 (Nat.lt_of_lt_of_le (by decide) hN) (by decide) d_Law_law_934 ?_
            refine g_iload X 0 rfl d_Law_law_935 ?_
            refine g_i2l X d_Law_law_937 ?_
            refine g_lcmp X d_Law_law_938 ?_
            refine g_if_eq X 944 d_Law_law_939 (by decide) (fun hc252 => ?_) (fun hc252 => ?_)
            · have hM := fa_if_t hM hc252
              refine g_goto X 1216 d_Law_law_944 (by decide) ?_
              refine g_iinc X 6 (fun x4_253 => [(4, .int (fa_I x4_253)), (6, .int (fa_I v246)), (5, .int (fa_I v241)), (0, .ref sb), (1, .ref (s.heap.size + 0)), (2, .ref (s.heap.size + 181)), (3, .ref (s.heap.size + 237))]) d_Law_law_1216 rfl (by decide) (fun _ => rfl) (fun x4_253 ex4_253 => ?_)
              have hM := fa_let_to hM ex4_253
              refine g_goto X 23 d_Law_law_1219 (by decide) ?_
              refine g_widen (k := c0 + 1) (n := s0 + 6) (by omega) (by omega) ?_
              exact g_lv [3, 4, 5, 6, 0] rfl (ih _ _ (c0 + 1) (s0 + 6) (by omega) (by omega) hM)
            · have hM := fa_if_f hM hc252
              refine g_iconst X d_Law_law_942 ?_
              exact absurd (Option.some.inj hM) (by decide)
        · have hM := fa_if_f hM hc249
          refine g_iconst X d_Law_law_925 ?_
          exact absurd (Option.some.inj hM) (by decide)
      have hM := fa_if_f hM hc237
      by_cases hc254 : fa_wr (fa_iand (xi j2) 31) = 14
      · have hM := fa_if_t hM hc254
        refine g_tableIn X 14 947 d_Law_law_40 hc254 (by decide) (by decide) rfl (by decide) ?_
        refine g_aload_n X 1 rfl d_Law_law_947 ?_
        refine g_aload_n X 0 rfl d_Law_law_948 ?_
        refine g_iload X 4 rfl d_Law_law_949 ?_
        refine g_iconst X d_Law_law_951 ?_
        refine g_iadd X d_Law_law_952 ?_
        obtain ⟨j255, ej255, hM⟩ := fa_ob hM
        refine l_sld X hX hbl ej255 d_Law_law_953 ?_
        refine g_aload_n X 3 rfl d_Law_law_954 ?_
        obtain ⟨v257, w258, e256, hM⟩ := fa_obd hM
        refine l_callW X (n := 3) wd_1424 wd_0 wd_1423 ⟨by decide, by decide, by decide +kernel⟩ (by decide) (c_Law_form (Nat.le_trans (by decide) hN) (Nat.le_trans (by decide) hT) (Nat.lt_of_lt_of_le (by decide) hN) hfl (xi j255) w _ _ e256) wd_1422 rfl (Nat.le_of_ble_eq_true rfl) (st := []) (Nat.le_of_ble_eq_true rfl) rfl d_Law_law_955 (by omega) (by omega) ?_
        refine g_istorec X [(5, .int (fa_I v257)), (0, .ref sb), (1, .ref (s.heap.size + 0)), (2, .ref (s.heap.size + 181)), (3, .ref (s.heap.size + 237)), (4, .int (fa_I i))] d_Law_law_958 (by decide) rfl ?_
        refine g_aload_n X 3 rfl d_Law_law_960 ?_
        refine g_aload_n X 1 rfl d_Law_law_961 ?_
        refine g_iload X 5 rfl d_Law_law_962 ?_
        refine g_iconst X d_Law_law_964 ?_
        refine g_iadd X d_Law_law_965 ?_
        obtain ⟨j259, ej259, hM⟩ := fa_ob hM
        refine l_sld X hX hbl ej259 d_Law_law_966 ?_
        obtain ⟨v261, w262, e260, hM⟩ := fa_obd hM
        refine l_callV X ck_10 fo_181 (Nat.lt_of_lt_of_le (by decide) hN) rfl mi_Mod_form (c_Mod_form (Nat.le_trans (by decide) hN) hT (xi j259) w258 _ e260) wd_2120 rfl (Nat.le_of_ble_eq_true rfl) (st := []) (Nat.le_of_ble_eq_true rfl) rfl d_Law_law_967 (by omega) (by omega) ?_
        refine g_istorec X [(6, .int (fa_I v261)), (5, .int (fa_I v257)), (0, .ref sb), (1, .ref (s.heap.size + 0)), (2, .ref (s.heap.size + 181)), (3, .ref (s.heap.size + 237)), (4, .int (fa_I i))] d_Law_law_970 (by decide) rfl ?_
        refine g_aload_n X 4 rfl d_Law_law_972 ?_
        refine l_callV X ck_10 fo_181 (Nat.lt_of_lt_of_le (by decide) hN) rfl mi_Mod_thrown (c_Mod_thrown (Nat.le_trans (by decide) hN) hT w262 _ rfl) wd_1466 rfl (Nat.le_of_ble_eq_true rfl) (st := []) (Nat.le_of_ble_eq_true rfl) rfl d_Law_law_973 (by omega) (by omega) ?_
        refine g_iload X 1 rfl d_Law_law_976 ?_
        refine g_icmp_eq X 983 d_Law_law_978 (by decide) (fun hc264 => ?_) (fun hc264 => ?_)
        · have hM := fa_if_t hM hc264
          refine g_iload X 1 rfl d_Law_law_983 ?_
          refine g_if_ne X 1000 d_Law_law_985 (by decide) (fun hc265 => ?_) (fun hc265 => ?_)
          · have hM := fa_if_f hM hc265
            refine g_goto X 1216 d_Law_law_1000 (by decide) ?_
            refine g_iinc X 6 (fun x4_266 => [(4, .int (fa_I x4_266)), (6, .int (fa_I v261)), (5, .int (fa_I v257)), (0, .ref sb), (1, .ref (s.heap.size + 0)), (2, .ref (s.heap.size + 181)), (3, .ref (s.heap.size + 237))]) d_Law_law_1216 rfl (by decide) (fun _ => rfl) (fun x4_266 ex4_266 => ?_)
            have hM := fa_let_to hM ex4_266
            refine g_goto X 23 d_Law_law_1219 (by decide) ?_
            refine g_widen (k := c0 + 1) (n := s0 + 6) (by omega) (by omega) ?_
            exact g_lv [3, 4, 5, 6, 0] rfl (ih _ _ (c0 + 1) (s0 + 6) (by omega) (by omega) hM)
          · have hM := fa_if_t hM hc265
            refine g_aload_n X 5 rfl d_Law_law_988 ?_
            refine g_iconst X d_Law_law_989 ?_
            refine g_lald X fs_237 (Nat.lt_of_lt_of_le (by decide) hN) (by decide) d_Law_law_990 ?_
            refine g_iload X 0 rfl d_Law_law_991 ?_
            refine g_i2l X d_Law_law_993 ?_
            refine g_lcmp X d_Law_law_994 ?_
            refine g_if_eq X 1000 d_Law_law_995 (by decide) (fun hc267 => ?_) (fun hc267 => ?_)
            · have hM := fa_if_t hM hc267
              refine g_goto X 1216 d_Law_law_1000 (by decide) ?_
              refine g_iinc X 6 (fun x4_268 => [(4, .int (fa_I x4_268)), (6, .int (fa_I v261)), (5, .int (fa_I v257)), (0, .ref sb), (1, .ref (s.heap.size + 0)), (2, .ref (s.heap.size + 181)), (3, .ref (s.heap.size + 237))]) d_Law_law_1216 rfl (by decide) (fun _ => rfl) (fun x4_268 ex4_268 => ?_)
              have hM := fa_let_to hM ex4_268
              refine g_goto X 23 d_Law_law_1219 (by decide) ?_
              refine g_widen (k := c0 + 1) (n := s0 + 6) (by omega) (by omega) ?_
              exact g_lv [3, 4, 5, 6, 0] rfl (ih _ _ (c0 + 1) (s0 + 6) (by omega) (by omega) hM)
            · have hM := fa_if_f hM hc267
              refine g_iconst X d_Law_law_998 ?_
              exact absurd (Option.some.inj hM) (by decide)
        · have hM := fa_if_f hM hc264
          refine g_iconst X d_Law_law_981 ?_
          exact absurd (Option.some.inj hM) (by decide)
      have hM := fa_if_f hM hc254
      by_cases hc269 : fa_wr (fa_iand (xi j2) 31) = 15
      · have hM := fa_if_t hM hc269
        refine g_tableIn X 15 1003 d_Law_law_40 hc269 (by decide) (by decide) rfl (by decide) ?_
        refine g_aload_n X 1 rfl d_Law_law_1003 ?_
        obtain ⟨v271, w272, e270, hM⟩ := fa_obd hM
        refine l_callV X ck_0 fo_0 (Nat.lt_of_lt_of_le (by decide) hN) rfl mi_Face_back (c_Face_back (Nat.le_trans (by decide) hN) (Nat.le_trans (by decide) hT) w _ e270) wd_713 rfl (Nat.le_of_ble_eq_true rfl) (st := []) (Nat.le_of_ble_eq_true rfl) rfl d_Law_law_1004 (by omega) (by omega) ?_
        refine g_aload_n X 2 rfl d_Law_law_1007 ?_
        obtain ⟨v274, w275, e273, hM⟩ := fa_obd hM
        refine l_callV X ck_10 fo_181 (Nat.lt_of_lt_of_le (by decide) hN) rfl mi_Mod_back (c_Mod_back (Nat.le_trans (by decide) hN) hT w272 _ e273) wd_2136 rfl (Nat.le_of_ble_eq_true rfl) (st := [.int (fa_I v271)]) (Nat.le_of_ble_eq_true rfl) rfl d_Law_law_1008 (by omega) (by omega) ?_
        refine g_icmp_eq X 1216 d_Law_law_1011 (by decide) (fun hc276 => ?_) (fun hc276 => ?_)
        · have hM := fa_if_t hM hc276
          refine g_iinc X 4 (fun x4_277 => [(4, .int (fa_I x4_277)), (0, .ref sb), (1, .ref (s.heap.size + 0)), (2, .ref (s.heap.size + 181)), (3, .ref (s.heap.size + 237))]) d_Law_law_1216 rfl (by decide) (fun _ => rfl) (fun x4_277 ex4_277 => ?_)
          have hM := fa_let_to hM ex4_277
          refine g_goto X 23 d_Law_law_1219 (by decide) ?_
          refine g_widen (k := c0 + 1) (n := s0 + 6) (by omega) (by omega) ?_
          exact g_lv [1, 2, 3, 4, 0] rfl (ih _ _ (c0 + 1) (s0 + 6) (by omega) (by omega) hM)
        · have hM := fa_if_f hM hc276
          refine g_iconst X d_Law_law_1014 ?_
          exact absurd (Option.some.inj hM) (by decide)
      have hM := fa_if_f hM hc269
      by_cases hc278 : fa_wr (fa_iand (xi j2) 31) = 16
      · have hM := fa_if_t hM hc278
        refine g_tableIn X 16 1016 d_Law_law_40 hc278 (by decide) (by decide) rfl (by decide) ?_
        refine g_aload_n X 1 rfl d_Law_law_1016 ?_
        obtain ⟨v280, w281, e279, hM⟩ := fa_obd hM
        refine l_callV X ck_0 fo_0 (Nat.lt_of_lt_of_le (by decide) hN) rfl mi_Face_show (c_Face_show (Nat.le_trans (by decide) hN) (Nat.le_trans (by decide) hT) w _ e279) wd_893 rfl (Nat.le_of_ble_eq_true rfl) (st := []) (Nat.le_of_ble_eq_true rfl) rfl d_Law_law_1017 (by omega) (by omega) ?_
        refine g_aload_n X 2 rfl d_Law_law_1020 ?_
        obtain ⟨v283, w284, e282, hM⟩ := fa_obd hM
        refine l_callV X ck_10 fo_181 (Nat.lt_of_lt_of_le (by decide) hN) rfl mi_Mod_show (c_Mod_show (Nat.le_trans (by decide) hN) hT w281 _ e282) wd_2140 rfl (Nat.le_of_ble_eq_true rfl) (st := [.int (fa_I v280)]) (Nat.le_of_ble_eq_true rfl) rfl d_Law_law_1021 (by omega) (by omega) ?_
        refine g_icmp_eq X 1216 d_Law_law_1024 (by decide) (fun hc285 => ?_) (fun hc285 => ?_)
        · have hM := fa_if_t hM hc285
          refine g_iinc X 4 (fun x4_286 => [(4, .int (fa_I x4_286)), (0, .ref sb), (1, .ref (s.heap.size + 0)), (2, .ref (s.heap.size + 181)), (3, .ref (s.heap.size + 237))]) d_Law_law_1216 rfl (by decide) (fun _ => rfl) (fun x4_286 ex4_286 => ?_)
          have hM := fa_let_to hM ex4_286
          refine g_goto X 23 d_Law_law_1219 (by decide) ?_
          refine g_widen (k := c0 + 1) (n := s0 + 6) (by omega) (by omega) ?_
          exact g_lv [1, 2, 3, 4, 0] rfl (ih _ _ (c0 + 1) (s0 + 6) (by omega) (by omega) hM)
        · have hM := fa_if_f hM hc285
          refine g_iconst X d_Law_law_1027 ?_
          exact absurd (Option.some.inj hM) (by decide)
      have hM := fa_if_f hM hc278
      by_cases hc287 : fa_wr (fa_iand (xi j2) 31) = 17
      · have hM := fa_if_t hM hc287
        refine g_tableIn X 17 1029 d_Law_law_40 hc287 (by decide) (by decide) rfl (by decide) ?_
        refine g_aload_n X 1 rfl d_Law_law_1029 ?_
        obtain ⟨v289, w290, e288, hM⟩ := fa_obd hM
        refine l_callV X ck_0 fo_0 (Nat.lt_of_lt_of_le (by decide) hN) rfl mi_Face_take (c_Face_take (Nat.le_trans (by decide) hN) (Nat.le_trans (by decide) hT) w _ e288) wd_897 rfl (Nat.le_of_ble_eq_true rfl) (st := []) (Nat.le_of_ble_eq_true rfl) rfl d_Law_law_1030 (by omega) (by omega) ?_
        refine g_aload_n X 2 rfl d_Law_law_1033 ?_
        obtain ⟨v292, w293, e291, hM⟩ := fa_obd hM
        refine l_callV X ck_10 fo_181 (Nat.lt_of_lt_of_le (by decide) hN) rfl mi_Mod_take (c_Mod_take (Nat.le_trans (by decide) hN) hT w290 _ e291) wd_2037 rfl (Nat.le_of_ble_eq_true rfl) (st := [.int (fa_I v289)]) (Nat.le_of_ble_eq_true rfl) rfl d_Law_law_1034 (by omega) (by omega) ?_
        refine g_icmp_eq X 1216 d_Law_law_1037 (by decide) (fun hc294 => ?_) (fun hc294 => ?_)
        · have hM := fa_if_t hM hc294
          refine g_iinc X 4 (fun x4_295 => [(4, .int (fa_I x4_295)), (0, .ref sb), (1, .ref (s.heap.size + 0)), (2, .ref (s.heap.size + 181)), (3, .ref (s.heap.size + 237))]) d_Law_law_1216 rfl (by decide) (fun _ => rfl) (fun x4_295 ex4_295 => ?_)
          have hM := fa_let_to hM ex4_295
          refine g_goto X 23 d_Law_law_1219 (by decide) ?_
          refine g_widen (k := c0 + 1) (n := s0 + 6) (by omega) (by omega) ?_
          exact g_lv [1, 2, 3, 4, 0] rfl (ih _ _ (c0 + 1) (s0 + 6) (by omega) (by omega) hM)
        · have hM := fa_if_f hM hc294
          refine g_iconst X d_Law_law_1040 ?_
          exact absurd (Option.some.inj hM) (by decide)
      have hM := fa_if_f hM hc287
      by_cases hc296 : fa_wr (fa_iand (xi j2) 31) = 18
      · have hM := fa_if_t hM hc296
        refine g_tableIn X 18 1042 d_Law_law_40 hc296 (by decide) (by decide) rfl (by decide) ?_
        refine g_aload_n X 1 rfl d_Law_law_1042 ?_
        refine g_aload_n X 0 rfl d_Law_law_1043 ?_
        refine g_iload X 4 rfl d_Law_law_1044 ?_
        refine g_iconst X d_Law_law_1046 ?_
        refine g_iadd X d_Law_law_1047 ?_
        obtain ⟨j297, ej297, hM⟩ := fa_ob hM
        refine l_sld X hX hbl ej297 d_Law_law_1048 ?_
        refine g_aload_n X 3 rfl d_Law_law_1049 ?_
        obtain ⟨v299, w300, e298, hM⟩ := fa_obd hM
        refine l_callW X (n := 3) wd_1445 wd_0 wd_1444 ⟨by decide, by decide, by decide +kernel⟩ (by decide) (c_Law_ring (Nat.le_trans (by decide) hN) (Nat.le_trans (by decide) hT) (Nat.lt_of_lt_of_le (by decide) hN) hfl (xi j297) w _ _ e298) wd_1443 rfl (Nat.le_of_ble_eq_true rfl) (st := []) (Nat.le_of_ble_eq_true rfl) rfl d_Law_law_1050 (by omega) (by omega) ?_
        refine g_istorec X [(5, .int (fa_I v299)), (0, .ref sb), (1, .ref (s.heap.size + 0)), (2, .ref (s.heap.size + 181)), (3, .ref (s.heap.size + 237)), (4, .int (fa_I i))] d_Law_law_1053 (by decide) rfl ?_
        refine g_aload_n X 3 rfl d_Law_law_1055 ?_
        refine g_aload_n X 1 rfl d_Law_law_1056 ?_
        refine g_iload X 5 rfl d_Law_law_1057 ?_
        refine g_iconst X d_Law_law_1059 ?_
        refine g_iadd X d_Law_law_1060 ?_
        obtain ⟨j301, ej301, hM⟩ := fa_ob hM
        refine l_sld X hX hbl ej301 d_Law_law_1061 ?_
        obtain ⟨v303, w304, e302, hM⟩ := fa_obd hM
        refine l_callV X ck_10 fo_181 (Nat.lt_of_lt_of_le (by decide) hN) rfl mi_Mod_ring (c_Mod_ring (Nat.le_trans (by decide) hN) hT (xi j301) w300 _ e302) wd_2208 rfl (Nat.le_of_ble_eq_true rfl) (st := []) (Nat.le_of_ble_eq_true rfl) rfl d_Law_law_1062 (by omega) (by omega) ?_
        refine g_istorec X [(6, .int (fa_I v303)), (5, .int (fa_I v299)), (0, .ref sb), (1, .ref (s.heap.size + 0)), (2, .ref (s.heap.size + 181)), (3, .ref (s.heap.size + 237)), (4, .int (fa_I i))] d_Law_law_1065 (by decide) rfl ?_
        refine g_aload_n X 4 rfl d_Law_law_1067 ?_
        refine l_callV X ck_10 fo_181 (Nat.lt_of_lt_of_le (by decide) hN) rfl mi_Mod_thrown (c_Mod_thrown (Nat.le_trans (by decide) hN) hT w304 _ rfl) wd_1466 rfl (Nat.le_of_ble_eq_true rfl) (st := []) (Nat.le_of_ble_eq_true rfl) rfl d_Law_law_1068 (by omega) (by omega) ?_
        refine g_iload X 1 rfl d_Law_law_1071 ?_
        refine g_icmp_eq X 1078 d_Law_law_1073 (by decide) (fun hc306 => ?_) (fun hc306 => ?_)
        · have hM := fa_if_t hM hc306
          refine g_iload X 1 rfl d_Law_law_1078 ?_
          refine g_if_ne X 1095 d_Law_law_1080 (by decide) (fun hc307 => ?_) (fun hc307 => ?_)
          · have hM := fa_if_f hM hc307
            refine g_goto X 1216 d_Law_law_1095 (by decide) ?_
            refine g_iinc X 6 (fun x4_308 => [(4, .int (fa_I x4_308)), (6, .int (fa_I v303)), (5, .int (fa_I v299)), (0, .ref sb), (1, .ref (s.heap.size + 0)), (2, .ref (s.heap.size + 181)), (3, .ref (s.heap.size + 237))]) d_Law_law_1216 rfl (by decide) (fun _ => rfl) (fun x4_308 ex4_308 => ?_)
            have hM := fa_let_to hM ex4_308
            refine g_goto X 23 d_Law_law_1219 (by decide) ?_
            refine g_widen (k := c0 + 1) (n := s0 + 6) (by omega) (by omega) ?_
            exact g_lv [3, 4, 5, 6, 0] rfl (ih _ _ (c0 + 1) (s0 + 6) (by omega) (by omega) hM)
          · have hM := fa_if_t hM hc307
            refine g_aload_n X 5 rfl d_Law_law_1083 ?_
            refine g_iconst X d_Law_law_1084 ?_
            refine g_lald X fs_237 (Nat.lt_of_lt_of_le (by decide) hN) (by decide) d_Law_law_1085 ?_
            refine g_iload X 0 rfl d_Law_law_1086 ?_
            refine g_i2l X d_Law_law_1088 ?_
            refine g_lcmp X d_Law_law_1089 ?_
            refine g_if_eq X 1095 d_Law_law_1090 (by decide) (fun hc309 => ?_) (fun hc309 => ?_)
            · have hM := fa_if_t hM hc309
              refine g_goto X 1216 d_Law_law_1095 (by decide) ?_
              refine g_iinc X 6 (fun x4_310 => [(4, .int (fa_I x4_310)), (6, .int (fa_I v303)), (5, .int (fa_I v299)), (0, .ref sb), (1, .ref (s.heap.size + 0)), (2, .ref (s.heap.size + 181)), (3, .ref (s.heap.size + 237))]) d_Law_law_1216 rfl (by decide) (fun _ => rfl) (fun x4_310 ex4_310 => ?_)
              have hM := fa_let_to hM ex4_310
              refine g_goto X 23 d_Law_law_1219 (by decide) ?_
              refine g_widen (k := c0 + 1) (n := s0 + 6) (by omega) (by omega) ?_
              exact g_lv [3, 4, 5, 6, 0] rfl (ih _ _ (c0 + 1) (s0 + 6) (by omega) (by omega) hM)
            · have hM := fa_if_f hM hc309
              refine g_iconst X d_Law_law_1093 ?_
              exact absurd (Option.some.inj hM) (by decide)
        · have hM := fa_if_f hM hc306
          refine g_iconst X d_Law_law_1076 ?_
          exact absurd (Option.some.inj hM) (by decide)
      have hM := fa_if_f hM hc296
      by_cases hc311 : fa_wr (fa_iand (xi j2) 31) = 19
      · have hM := fa_if_t hM hc311
        refine g_tableIn X 19 1098 d_Law_law_40 hc311 (by decide) (by decide) rfl (by decide) ?_
        refine g_aload_n X 1 rfl d_Law_law_1098 ?_
        refine g_aload_n X 0 rfl d_Law_law_1099 ?_
        refine g_iload X 4 rfl d_Law_law_1100 ?_
        refine g_iconst X d_Law_law_1102 ?_
        refine g_iadd X d_Law_law_1103 ?_
        obtain ⟨j312, ej312, hM⟩ := fa_ob hM
        refine l_sld X hX hbl ej312 d_Law_law_1104 ?_
        refine g_aload_n X 0 rfl d_Law_law_1105 ?_
        refine g_iload X 4 rfl d_Law_law_1106 ?_
        refine g_iconst X d_Law_law_1108 ?_
        refine g_iadd X d_Law_law_1109 ?_
        obtain ⟨j313, ej313, hM⟩ := fa_ob hM
        refine l_sld X hX hbl ej313 d_Law_law_1110 ?_
        refine g_aload_n X 3 rfl d_Law_law_1111 ?_
        obtain ⟨v315, w316, e314, hM⟩ := fa_obd hM
        refine l_callW X (n := 4) wd_1453 wd_0 wd_1452 ⟨by decide, by decide, by decide +kernel⟩ (by decide) (c_Law_far (Nat.le_trans (by decide) hN) (Nat.le_trans (by decide) hT) (Nat.lt_of_lt_of_le (by decide) hN) hfl (xi j312) (xi j313) w _ _ e314) wd_1451 rfl (Nat.le_of_ble_eq_true rfl) (st := []) (Nat.le_of_ble_eq_true rfl) rfl d_Law_law_1112 (by omega) (by omega) ?_
        refine g_istorec X [(5, .int (fa_I v315)), (0, .ref sb), (1, .ref (s.heap.size + 0)), (2, .ref (s.heap.size + 181)), (3, .ref (s.heap.size + 237)), (4, .int (fa_I i))] d_Law_law_1115 (by decide) rfl ?_
        refine g_aload_n X 3 rfl d_Law_law_1117 ?_
        refine g_aload_n X 1 rfl d_Law_law_1118 ?_
        refine g_iload X 5 rfl d_Law_law_1119 ?_
        refine g_iconst X d_Law_law_1121 ?_
        refine g_iadd X d_Law_law_1122 ?_
        obtain ⟨j317, ej317, hM⟩ := fa_ob hM
        refine l_sld X hX hbl ej317 d_Law_law_1123 ?_
        refine g_aload_n X 1 rfl d_Law_law_1124 ?_
        refine g_iload X 5 rfl d_Law_law_1125 ?_
        refine g_iconst X d_Law_law_1127 ?_
        refine g_iadd X d_Law_law_1128 ?_
        obtain ⟨j318, ej318, hM⟩ := fa_ob hM
        refine l_sld X hX hbl ej318 d_Law_law_1129 ?_
        obtain ⟨v320, w321, e319, hM⟩ := fa_obd hM
        refine l_callV X ck_10 fo_181 (Nat.lt_of_lt_of_le (by decide) hN) rfl mi_Mod_far (c_Mod_far (Nat.le_trans (by decide) hN) hT (xi j317) (xi j318) w316 _ e319) wd_2212 rfl (Nat.le_of_ble_eq_true rfl) (st := []) (Nat.le_of_ble_eq_true rfl) rfl d_Law_law_1130 (by omega) (by omega) ?_
        refine g_istorec X [(6, .int (fa_I v320)), (5, .int (fa_I v315)), (0, .ref sb), (1, .ref (s.heap.size + 0)), (2, .ref (s.heap.size + 181)), (3, .ref (s.heap.size + 237)), (4, .int (fa_I i))] d_Law_law_1133 (by decide) rfl ?_
        refine g_aload_n X 4 rfl d_Law_law_1135 ?_
        refine l_callV X ck_10 fo_181 (Nat.lt_of_lt_of_le (by decide) hN) rfl mi_Mod_thrown (c_Mod_thrown (Nat.le_trans (by decide) hN) hT w321 _ rfl) wd_1466 rfl (Nat.le_of_ble_eq_true rfl) (st := []) (Nat.le_of_ble_eq_true rfl) rfl d_Law_law_1136 (by omega) (by omega) ?_
        refine g_iload X 1 rfl d_Law_law_1139 ?_
        refine g_icmp_eq X 1146 d_Law_law_1141 (by decide) (fun hc323 => ?_) (fun hc323 => ?_)
        · have hM := fa_if_t hM hc323
          refine g_iload X 1 rfl d_Law_law_1146 ?_
          refine g_if_ne X 1163 d_Law_law_1148 (by decide) (fun hc324 => ?_) (fun hc324 => ?_)
          · have hM := fa_if_f hM hc324
            refine g_goto X 1216 d_Law_law_1163 (by decide) ?_
            refine g_iinc X 6 (fun x4_325 => [(4, .int (fa_I x4_325)), (6, .int (fa_I v320)), (5, .int (fa_I v315)), (0, .ref sb), (1, .ref (s.heap.size + 0)), (2, .ref (s.heap.size + 181)), (3, .ref (s.heap.size + 237))]) d_Law_law_1216 rfl (by decide) (fun _ => rfl) (fun x4_325 ex4_325 => ?_)
            have hM := fa_let_to hM ex4_325
            refine g_goto X 23 d_Law_law_1219 (by decide) ?_
            refine g_widen (k := c0 + 1) (n := s0 + 6) (by omega) (by omega) ?_
            exact g_lv [3, 4, 5, 6, 0] rfl (ih _ _ (c0 + 1) (s0 + 6) (by omega) (by omega) hM)
          · have hM := fa_if_t hM hc324
            refine g_aload_n X 5 rfl d_Law_law_1151 ?_
            refine g_iconst X d_Law_law_1152 ?_
            refine g_lald X fs_237 (Nat.lt_of_lt_of_le (by decide) hN) (by decide) d_Law_law_1153 ?_
            refine g_iload X 0 rfl d_Law_law_1154 ?_
            refine g_i2l X d_Law_law_1156 ?_
            refine g_lcmp X d_Law_law_1157 ?_
            refine g_if_eq X 1163 d_Law_law_1158 (by decide) (fun hc326 => ?_) (fun hc326 => ?_)
            · have hM := fa_if_t hM hc326
              refine g_goto X 1216 d_Law_law_1163 (by decide) ?_
              refine g_iinc X 6 (fun x4_327 => [(4, .int (fa_I x4_327)), (6, .int (fa_I v320)), (5, .int (fa_I v315)), (0, .ref sb), (1, .ref (s.heap.size + 0)), (2, .ref (s.heap.size + 181)), (3, .ref (s.heap.size + 237))]) d_Law_law_1216 rfl (by decide) (fun _ => rfl) (fun x4_327 ex4_327 => ?_)
              have hM := fa_let_to hM ex4_327
              refine g_goto X 23 d_Law_law_1219 (by decide) ?_
              refine g_widen (k := c0 + 1) (n := s0 + 6) (by omega) (by omega) ?_
              exact g_lv [3, 4, 5, 6, 0] rfl (ih _ _ (c0 + 1) (s0 + 6) (by omega) (by omega) hM)
            · have hM := fa_if_f hM hc326
              refine g_iconst X d_Law_law_1161 ?_
              exact absurd (Option.some.inj hM) (by decide)
        · have hM := fa_if_f hM hc323
          refine g_iconst X d_Law_law_1144 ?_
          exact absurd (Option.some.inj hM) (by decide)
      have hM := fa_if_f hM hc311
      by_cases hc328 : fa_wr (fa_iand (xi j2) 31) = 20
      · have hM := fa_if_t hM hc328
        refine g_tableIn X 20 1166 d_Law_law_40 hc328 (by decide) (by decide) rfl (by decide) ?_
        refine g_aload_n X 1 rfl d_Law_law_1166 ?_
        refine g_aload_n X 0 rfl d_Law_law_1167 ?_
        refine g_iload X 4 rfl d_Law_law_1168 ?_
        refine g_iconst X d_Law_law_1170 ?_
        refine g_iadd X d_Law_law_1171 ?_
        obtain ⟨j329, ej329, hM⟩ := fa_ob hM
        refine l_sld X hX hbl ej329 d_Law_law_1172 ?_
        refine l_callV X ck_0 fo_0 (Nat.lt_of_lt_of_le (by decide) hN) rfl mi_Face_octet (c_Face_octet (Nat.le_trans (by decide) hN) (Nat.le_trans (by decide) hT) (xi j329) w _ rfl) wd_910 rfl (Nat.le_of_ble_eq_true rfl) (st := []) (Nat.le_of_ble_eq_true rfl) rfl d_Law_law_1173 (by omega) (by omega) ?_
        refine g_aload_n X 2 rfl d_Law_law_1176 ?_
        refine g_aload_n X 0 rfl d_Law_law_1177 ?_
        refine g_iload X 4 rfl d_Law_law_1178 ?_
        refine g_iconst X d_Law_law_1180 ?_
        refine g_iadd X d_Law_law_1181 ?_
        obtain ⟨j331, ej331, hM⟩ := fa_ob hM
        refine l_sld X hX hbl ej331 d_Law_law_1182 ?_
        obtain ⟨v333, w334, e332, hM⟩ := fa_obd hM
        refine l_callV X ck_10 fo_181 (Nat.lt_of_lt_of_le (by decide) hN) rfl mi_Mod_octet (c_Mod_octet (Nat.le_trans (by decide) hN) hT (xi j331) w _ e332) wd_2144 rfl (Nat.le_of_ble_eq_true rfl) (st := [.int (fa_I (fm_Face_octet (xi j329) w))]) (Nat.le_of_ble_eq_true rfl) rfl d_Law_law_1183 (by omega) (by omega) ?_
        refine g_icmp_eq X 1216 d_Law_law_1186 (by decide) (fun hc335 => ?_) (fun hc335 => ?_)
        · have hM := fa_if_t hM hc335
          refine g_iinc X 4 (fun x4_336 => [(4, .int (fa_I x4_336)), (0, .ref sb), (1, .ref (s.heap.size + 0)), (2, .ref (s.heap.size + 181)), (3, .ref (s.heap.size + 237))]) d_Law_law_1216 rfl (by decide) (fun _ => rfl) (fun x4_336 ex4_336 => ?_)
          have hM := fa_let_to hM ex4_336
          refine g_goto X 23 d_Law_law_1219 (by decide) ?_
          refine g_widen (k := c0 + 1) (n := s0 + 6) (by omega) (by omega) ?_
          exact g_lv [1, 2, 3, 4, 0] rfl (ih _ _ (c0 + 1) (s0 + 6) (by omega) (by omega) hM)
        · have hM := fa_if_f hM hc335
          refine g_iconst X d_Law_law_1189 ?_
          exact absurd (Option.some.inj hM) (by decide)
      have hM := fa_if_f hM hc328
      by_cases hc337 : fa_wr (fa_iand (xi j2) 31) = 21
      · have hM := fa_if_t hM hc337
        refine g_tableIn X 21 1191 d_Law_law_40 hc337 (by decide) (by decide) rfl (by decide) ?_
        refine g_aload_n X 1 rfl d_Law_law_1191 ?_
        refine g_aload_n X 0 rfl d_Law_law_1192 ?_
        refine g_iload X 4 rfl d_Law_law_1193 ?_
        refine g_iconst X d_Law_law_1195 ?_
        refine g_iadd X d_Law_law_1196 ?_
        obtain ⟨j338, ej338, hM⟩ := fa_ob hM
        refine l_sld X hX hbl ej338 d_Law_law_1197 ?_
        obtain ⟨v340, w341, e339, hM⟩ := fa_obd hM
        refine l_callV X ck_0 fo_0 (Nat.lt_of_lt_of_le (by decide) hN) rfl mi_Face_count (c_Face_count (Nat.le_trans (by decide) hN) (Nat.le_trans (by decide) hT) (xi j338) w _ e339) wd_914 rfl (Nat.le_of_ble_eq_true rfl) (st := []) (Nat.le_of_ble_eq_true rfl) rfl d_Law_law_1198 (by omega) (by omega) ?_
        refine g_aload_n X 2 rfl d_Law_law_1201 ?_
        refine g_aload_n X 0 rfl d_Law_law_1202 ?_
        refine g_iload X 4 rfl d_Law_law_1203 ?_
        refine g_iconst X d_Law_law_1205 ?_
        refine g_iadd X d_Law_law_1206 ?_
        obtain ⟨j342, ej342, hM⟩ := fa_ob hM
        refine l_sld X hX hbl ej342 d_Law_law_1207 ?_
        obtain ⟨v344, w345, e343, hM⟩ := fa_obd hM
        refine l_callV X ck_10 fo_181 (Nat.lt_of_lt_of_le (by decide) hN) rfl mi_Mod_count (c_Mod_count (Nat.le_trans (by decide) hN) hT (xi j342) w341 _ e343) wd_2216 rfl (Nat.le_of_ble_eq_true rfl) (st := [.int (fa_I v340)]) (Nat.le_of_ble_eq_true rfl) rfl d_Law_law_1208 (by omega) (by omega) ?_
        refine g_icmp_eq X 1216 d_Law_law_1211 (by decide) (fun hc346 => ?_) (fun hc346 => ?_)
        · have hM := fa_if_t hM hc346
          refine g_iinc X 4 (fun x4_347 => [(4, .int (fa_I x4_347)), (0, .ref sb), (1, .ref (s.heap.size + 0)), (2, .ref (s.heap.size + 181)), (3, .ref (s.heap.size + 237))]) d_Law_law_1216 rfl (by decide) (fun _ => rfl) (fun x4_347 ex4_347 => ?_)
          have hM := fa_let_to hM ex4_347
          refine g_goto X 23 d_Law_law_1219 (by decide) ?_
          refine g_widen (k := c0 + 1) (n := s0 + 6) (by omega) (by omega) ?_
          exact g_lv [1, 2, 3, 4, 0] rfl (ih _ _ (c0 + 1) (s0 + 6) (by omega) (by omega) hM)
        · have hM := fa_if_f hM hc346
          refine g_iconst X d_Law_law_1214 ?_
          exact absurd (Option.some.inj hM) (by decide)
      have hM := fa_if_f hM hc337
      refine g_tableDef X 1216 d_Law_law_40 (by
    exact Or.inl (by omega)) (by decide) ?_
      refine g_iinc X 4 (fun x4_348 => [(4, .int (fa_I x4_348)), (0, .ref sb), (1, .ref (s.heap.size + 0)), (2, .ref (s.heap.size + 181)), (3, .ref (s.heap.size + 237))]) d_Law_law_1216 rfl (by decide) (fun _ => rfl) (fun x4_348 ex4_348 => ?_)
      have hM := fa_let_to hM ex4_348
      refine g_goto X 23 d_Law_law_1219 (by decide) ?_
      refine g_widen (k := c0 + 1) (n := s0 + 6) (by omega) (by omega) ?_
      exact g_lv [1, 2, 3, 4, 0] rfl (ih _ _ (c0 + 1) (s0 + 6) (by omega) (by omega) hM)
