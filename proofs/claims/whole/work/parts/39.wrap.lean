section FaLaw
variable {p : Program} {l : Launch} {e : Env} {R : Room} {s : State} {m : MethodId} {args : Array Value} {below : List Frame} {meth : Method} {c : Code} {cells slots : Nat} {Q : State → Prop}
variable {D : va_G} {b : Nat} {aC : Nat → ClassId} {H0 : Heap} {N T N1 c1 s1 : Nat} {cc : ByteArray} {nL : Nat} {ret : Option FieldType} {own : String} {w w1 : fa_W} {pc : Nat} {lv : List (Nat × Value)} {st : List Value}
theorem fa_I64 (x : Int) : (fa_I x).toInt64 = Int64.ofInt (fa_wr x) := (Int64.ofInt_int32ToInt (x := fa_I x)).symm
theorem g_i2l (X : fa_GX p s m args meth c cc nL ret own D b aC) {x : Int} (hd : decode cc pc = .ok (.i2l, 1)) (k : fa_GJ p l e R s m args below meth c cells slots Q D b aC H0 N T nL w (pc + 1) lv (.long (Int64.ofInt (fa_wr x)) :: st)) : fa_GJ p l e R s m args below meth c cells slots Q D b aC H0 N T nL w pc lv (.int (fa_I x) :: st) := fun H locs ls hP hS hl => lv_i2l X.1.1 X.1.2.1 hd (fa_I64 x) (k H locs ls hP hS hl)
theorem g_lconst (X : fa_GX p s m args meth c cc nL ret own D b aC) {n : Fin 2} {v : Int} (hv : Int64.ofNat (n : Nat) = Int64.ofInt v) (hd : decode cc pc = .ok (.lconst n, 1)) (k : fa_GJ p l e R s m args below meth c cells slots Q D b aC H0 N T nL w (pc + 1) lv (.long (Int64.ofInt v) :: st)) : fa_GJ p l e R s m args below meth c cells slots Q D b aC H0 N T nL w pc lv st := fun H locs ls hP hS hl => lv_lconst X.1.1 X.1.2.1 hd hv (k H locs ls hP hS hl)
def fa_lcmp (x y : Int) : Int := (lg_cmp (Int64.ofInt x) (Int64.ofInt y)).toInt
theorem g_lcmp (X : fa_GX p s m args meth c cc nL ret own D b aC) {x y : Int} (hd : decode cc pc = .ok (.lcmp, 1)) (k : fa_GJ p l e R s m args below meth c cells slots Q D b aC H0 N T nL w (pc + 1) lv (.int (fa_I (fa_lcmp x y)) :: st)) : fa_GJ p l e R s m args below meth c cells slots Q D b aC H0 N T nL w pc lv (.long (Int64.ofInt y) :: .long (Int64.ofInt x) :: st) := fun H locs ls hP hS hl => W.lcmp X.1.1 X.1.2.1 hd ((Int32.ofInt_toInt _ : fa_I (fa_lcmp x y) = _) ▸ k H locs ls hP hS hl)
theorem fa_GS_la {o n : Nat} {H : Heap} (hP : fa_GS D b aC H0 N T w H) (ho : fa_sh o = (103, n)) (hN : o < N) : (fa_ws b aC N T w)[o]? = some (b + o, .inl (aC 3, n, .inr (.inl (fun j => Int64.ofInt (w o j))))) := by
  rw [fa_ws_get hN]
  unfold fa_ent
  rw [ho]
  rfl
theorem g_lald (X : fa_GX p s m args meth c cc nL ret own D b aC) {o n : Nat} (ho : fa_sh o = (103, n)) (hN : o < N) (hn : 0 < n) (hd : decode cc pc = .ok (.laload, 1)) (k : fa_GJ p l e R s m args below meth c cells slots Q D b aC H0 N T nL w (pc + 1) lv (.long (Int64.ofInt (w o 0)) :: st)) : fa_GJ p l e R s m args below meth c cells slots Q D b aC H0 N T nL w pc lv (.int (fa_I 0) :: .ref (b + o) :: st) := fun H locs ls hP hS hl =>
  va_lald X.1.1 X.1.2.1 X.2.2.2.1.1 hP.1 o 3 (fa_GS_la hP ho hN) rfl (fa_ix_in (x := 0) (j := 0) (by rw [fa_ix_some (by exact ⟨by decide, by show (0 : Int) < n; omega⟩)]; rfl)).1 hd (k H locs ls hP hS hl)
theorem g_last (X : fa_GX p s m args meth c cc nL ret own D b aC) {o n : Nat} {z : Int} (ho : fa_sh o = (103, n)) (hN : o < N) (hn : 0 < n) (hd : decode cc pc = .ok (.lastore, 1)) (k : ∀ w', w' = fa_st w o 0 z → fa_GJ p l e R s m args below meth c cells slots Q D b aC H0 N T nL w' (pc + 1) lv st) : fa_GJ p l e R s m args below meth c cells slots Q D b aC H0 N T nL w pc lv (.long (Int64.ofInt z) :: .int (fa_I 0) :: .ref (b + o) :: st) := fun H locs ls hP hS hl =>
  va_last X.1.1 X.1.2.1 X.2.2.2.1.1 hP.1 (fa_D b aC N T w) hS o 3 (fa_GS_la hP ho hN) rfl (fa_ix_in (x := 0) (j := 0) (by rw [fa_ix_some (by exact ⟨by decide, by show (0 : Int) < n; omega⟩)]; rfl)).1 hd (fun H1 locs1 hP1 _ hS1 => by
    have he : fa_ent b aC T (fa_st w o 0 z) o = .inl (aC 3, n, .inr (.inl (vp_updL (fun j => Int64.ofInt (w o j)) (fa_I 0).toNatClampNeg (Int64.ofInt z)))) := by
      unfold fa_ent
      rw [ho]
      refine congrArg (fun f => (Sum.inl (aC 3, n, Sum.inr (Sum.inl f)) : va_E)) (funext fun q => ?_)
      rw [show (fa_I 0).toNatClampNeg = 0 from rfl]
      by_cases hq : q = 0
      · subst hq; simp [vp_updL, fa_st_eq]
      · simp [vp_updL, hq, fa_st_ne]
    rw [fa_ws_set he (fun o' h => fa_st_row h)] at hP1
    exact k _ rfl H1 locs1 ls (fa_GS_next X hP hS hP1 hS1) hS1 hl)
theorem fw_ofW {y : MethodName} {ws ws' : List Cond} {rm : Room} {Pc : Array Value → State → Prop} {Qc : Array Value → State → Outcome → State → Prop} {mc ms : Nat} {free : Addr → Prop} {cc : ByteArray} {maxL : Nat} {ret : Option FieldType} {hhs : List (Nat × Nat × Nat × Nat)}
    (hy : plainName y.cls = true) (hw : ws = Cond.codeWith y cc maxL ret hhs :: ws')
    (body : ∀ p e s m args below meth c s₁, BodyLoose p l y (headSpec ws rm) cc maxL ret e s m args below meth c s₁ → c.maxLocals = maxL → c.exceptionTable.toList = tableOf hhs → Pc args s →
      W p l e (headSpec ws rm).room s m args below meth c s.heap [] 0 0 (MQ below Qc args s mc ms free) (entryFrame m args maxL)) : Met l y ws rm Pc Qc mc ms free := by
  refine MetFree.of_bodyS (code := cc) (maxLocals := maxL) (ret := ret) hy ?_ ?_
  · intro args s m h hn
    obtain ⟨m9, meth, c, hn9, h1, h2, h3, h4, -, h5, h6, -⟩ := Cond.codeWith_spec (atoms_spec (ws := ws) h _ (by rw [hw]; exact List.mem_cons_self))
    cases hn.symm.trans hn9
    exact ⟨meth, c, h1, h2, h3, h4, h5, h6⟩
  · intro p e s m args below meth c s₁ B hml hP _
    have hh0 : s₁.heap = s.heap := by rw [B.state]; rfl
    obtain ⟨t, a1, o, b1, b2, b3⟩ := body p e s m args below meth c s₁ B hml (vx_table (x := y) B (atoms_spec (ws := ws) B.pre _ (by rw [hw]; exact List.mem_cons_self))) hP s₁ hh0 (Stand.of_body B)
    exact ⟨t, o, a1, b1, b2, ⟨b3.1, b3.2⟩⟩
/-- a wrapper's contract: it answers, also where its call throws; one cell of six slots may be made -/
def fw_MC (l : Launch) (D : va_G) (b : Nat) (aC : Nat → ClassId) (H0 : Heap) (N T : Nat) (y : MethodName) (cc : ByteArray) (nL : Nat) (hhs : List (Nat × Nat × Nat × Nat)) (hg : Nat) (as : List Value) (w : fa_W) (r : Int) (w1 : fa_W) : Prop :=
  ∀ hh, hg ≤ hh → Met l y (.codeWith y cc nL (some .int) hhs :: fa_wG) (fa_rmx hh) (fa_Pc D b aC H0 N T as w) (fa_Qc D b aC H0 N T (some (.int (fa_I r))) w1) 1 6 (fun q => b ≤ q)
theorem fw_enter {y : MethodName} {hg : Nat} {as : List Value} {r : Int} {hhs : List (Nat × Nat × Nat × Nat)} (hy : plainName y.cls = true) (hlen : (lg_sl as).length ≤ nL) (hlv : lv_args 0 as = lv)
    (body : ∀ {p : Program} {e : Env} {s : State} {m : MethodId} {below : List Frame} {meth : Method} {c : Code} (hh : Nat), hg ≤ hh → c.exceptionTable.toList = tableOf hhs → fa_GX p s m as.toArray meth c cc nL (some .int) y.cls D b aC →
      fa_GJ p l e (fa_rmx hh) s m as.toArray below meth c 0 0 (MQ below (fa_Qc D b aC H0 N T (some (.int (fa_I r))) w1) as.toArray s 1 6 (fun q => b ≤ q)) D b aC H0 N T nL w 0 lv []) : fw_MC l D b aC H0 N T y cc nL hhs hg as w r w1 := by
  intro hh hle
  refine fw_ofW (cc := cc) (maxL := nL) (ret := some .int) hy rfl ?_
  intro p e s m args below meth c s₁ B hml htab hv
  obtain ⟨rfl, hGS, hGK⟩ := hv
  have hts := atoms_spec (ws := .codeWith y cc nL (some .int) hhs :: fa_wG) B.pre
  have hl := lv_entry as hlen
  rw [hlv] at hl
  rw [lg_entry_eq]
  exact body hh hle htab ⟨⟨B.exec, B.bytes, hml, findClass_of_methodNamed B.named, fun w hw => hts w (List.mem_cons_of_mem _ hw)⟩, B.notSynchronized, B.returns, hGK, Nat.le_trans (Nat.le_add_right _ _) hGS.2.1⟩ s.heap [] _ hGS va_S.rf hl
theorem g_wret (X : fa_GX p s m args meth c cc nL (some .int) own D b aC) {x : Int} (h1 : cells ≤ 1) (h2 : slots ≤ 6) (hd : decode cc pc = .ok (.ireturn, 1)) : fa_GJ p l e R s m args below meth c cells slots (MQ below (fa_Qc D b aC H0 N T (some (.int (fa_I x))) w) args s 1 6 (fun q => b ≤ q)) D b aC H0 N T nL w pc lv [.int (fa_I x)] := fun H locs ls hP hS hl =>
  W.widen h1 h2 (W.iret X.1.1 X.1.2.1 X.2.2.1 (fun t ht _ => ⟨rfl, by rw [ht]; exact hP, hS.F ht⟩) (fun q hq => hS.2.2 q hq) hd X.2.1)
theorem g_xcatch (X : fa_GX p s m args meth c cc nL ret own D b aC) {ci nn : Nat} {C : String} {F : u_T} {ty : Nat → FieldType} (ck : fa_CK ci C F nn ty) {o : Nat} (ho : (fa_sh o).1 = ci) (hN : o < N) {y : MethodName} {bytes : ByteArray} {maxL n hg hh idx : Nat} {retM : Option FieldType} {As : List Value} {k : Int} (hC : y.cls = C) (hI : fa_MI y bytes maxL retM n) (hM : fa_MX l D b aC H0 N T y bytes maxL retM hg (.ref (b + o) :: As) w k w1) (hw : Cond.methodLink own idx y ∈ fa_wG) (hn : As.length = n) (hg' : hg + 1 ≤ hh) (hs : ((st.map fun v => v.category).sum ≤ 8)) {st0 : List Value} (he : st0 = As.reverse ++ .ref (b + o) :: st) (hd : decode cc pc = .ok (.invokevirtual idx, 3))
    (pre : List ExceptionTableEntry) (x : ExceptionTableEntry) (suf : List ExceptionTableEntry) (hsplit : c.exceptionTable.toList = pre ++ x :: suf) {name : String} (hpass : ∀ z ∈ pre, z.catchType ≠ 0 ∧ ∃ nm : String, Cond.classLink own z.catchType nm ∈ fa_wG ∧ (fa_en k, nm) ∈ fa_ncL) (hx : covers x pc = true) (h0 : x.catchType ≠ 0) (hlk : Cond.classLink own x.catchType name ∈ fa_wG) (hcast : Cond.castable (fa_en k) name ∈ fa_nest)
    (kk : ∀ q : Nat, fa_GJ p l e (fa_rmx hh) s m args below meth c 1 6 Q D b aC H0 N T nL w1 x.handlerPc lv [.ref q]) :
    fa_GJ p l e (fa_rmx hh) s m args below meth c 0 0 Q D b aC H0 N T nL w pc lv st0 := fun H locs ls hP hS hl => by
  subst he
  subst hC
  obtain ⟨⟨i1, i2, i3, i4⟩, i5, i6⟩ := hI
  have hr := vx_runV (e := e) (meth := meth) (below := below) (H := H) (locs := locs) (cells := 0) (slots := 0) (g := F0 m pc ls (As.reverse ++ .ref (b + o) :: st)) (R := fa_rmx hh) X.1 (hM hg (Nat.le_refl _)) ⟨callB_of n X.1.2.2.2.2 (fa_goodC i1) rfl rfl rfl (X.1.2.2.2.2 _ i2) (X.1.2.2.2.2 _ hw) i3 (fa_room hg' i4), X.1.2.2.2.2 _ i5, X.1.2.2.2.2 _ i6⟩ ⟨fa_blind, fa_recv ck ho hN X.2.2.2.1 hP, fun U hU hW => ⟨rfl, by rw [hU]; exact hP, X.2.2.2.1.move hW hS hU⟩⟩ rfl hn hl.1 rfl (lv_room hs) hd ⟨Nat.le_refl 1, Nat.le_refl 6⟩
  intro U hU Y
  rcases hr U hU Y with ⟨_, _, _, _, _, _, _, _, _, _, h, _⟩ | ⟨q, st₀, t, T', L, E, ce, h0', Y', hL, e1, e2, ⟨rfl, hk, hP1, hF1, hF2⟩, hce, hcv, hcl, goes⟩
  · exact h.elim
  · rw [h0'] at hF1 hF2
    have hS' : va_S (fun q => b ≤ q) s.heap T'.heap (locs ++ L) := ⟨Nat.le_trans hS.1 (by rw [e1]; exact hF1), fun q h1 h2 => by rw [e1, hF2 q (Nat.lt_of_lt_of_le h1 hS.1) h2]; exact hS.2.1 q h1 h2, fun q hq => by
      rcases List.mem_append.mp hq with h | h
      · exact hS.2.2 q h
      · exact hL q h⟩
    have Z := vx_catch (p := p) (l := l) (e := e) (R := fa_rmx hh) (s := s) (m := m) (args := args) (below := below) (meth := meth) (c := c) (H := T'.heap) (locs := locs ++ L) (cells := 0 + 1) (slots := 0 + 6) (Q := Q) (pc := pc) (ls := ls) (rest := st) (own := own) X.1.2.2.2.1 pre x suf hsplit
      (fun z hz => Or.inr (by obtain ⟨z1, nm, z2, z3⟩ := hpass z hz; exact ⟨z1, nm, X.1.2.2.2.2 _ z2, X.2.2.2.1.2.2.2.2 _ z3⟩)) hx h0 (X.1.2.2.2.2 _ hlk) (va_Nw.use rfl (X.2.2.2.1.2.1 _ hcast)) (by rw [e1]; exact hce) hcv hcl
      (kk q T'.heap (locs ++ L) ls (by rw [e1]; exact hP1) hS' hl)
    obtain ⟨t2, a1, b1⟩ := Z T' rfl Y'
    exact ⟨t2, goes.trans a1, b1⟩
end FaLaw
def fa_wc {A : Type} (k : Int) (x : Option A) (f : Int → fa_W → Option A) (w : fa_W) : Option A := if k = 0 then x else f k w
theorem fa_wc_0 {A : Type} {x : Option A} {f : Int → fa_W → Option A} {w : fa_W} {r : Option A} (h : fa_wc 0 x f w = r) : x = r := by unfold fa_wc at h; rw [if_pos rfl] at h; exact h
theorem fa_wc_1 {A : Type} {k : Int} {x : Option A} {f : Int → fa_W → Option A} {w : fa_W} {r : Option A} (h : fa_wc k x f w = r) (hk : k ≠ 0) : f k w = r := by unfold fa_wc at h; rw [if_neg hk] at h; exact h
set_option maxRecDepth 100000 in
theorem wd_956 : (Jvm.Cond.codeWith ({ cls := "FlowApplyLaw", name := "read", desc := "(LFlowApply;[J)I" } : Jvm.MethodName) method_3_code (3 : Nat) (Option.some Jvm.ClassFile.FieldType.int) [((0 : Nat), (8 : Nat), (11 : Nat), (13 : Nat)), ((0 : Nat), (8 : Nat), (14 : Nat), (15 : Nat))]) ∈ fa_wG := fa_it (tb_4 _ (List.mem_of_getElem? (i := 236) rfl)) rfl
set_option maxRecDepth 100000 in
theorem wd_1173 : (Jvm.Cond.codeWith ({ cls := "FlowApplyLaw", name := "function", desc := "(LFlowApply;II[J)I" } : Jvm.MethodName) method_4_code (5 : Nat) (Option.some Jvm.ClassFile.FieldType.int) [((0 : Nat), (10 : Nat), (13 : Nat), (21 : Nat)), ((0 : Nat), (10 : Nat), (17 : Nat), (23 : Nat))]) ∈ fa_wG := fa_it (tb_5 _ (List.mem_of_getElem? (i := 213) rfl)) rfl
set_option maxRecDepth 100000 in
theorem wd_1231 : (Jvm.Cond.codeWith ({ cls := "FlowApplyLaw", name := "field", desc := "(LFlowApply;II[J)I" } : Jvm.MethodName) method_5_code (5 : Nat) (Option.some Jvm.ClassFile.FieldType.int) [((0 : Nat), (10 : Nat), (13 : Nat), (21 : Nat)), ((0 : Nat), (10 : Nat), (17 : Nat), (23 : Nat))]) ∈ fa_wG := fa_it (tb_6 _ (List.mem_of_getElem? (i := 31) rfl)) rfl
set_option maxRecDepth 100000 in
theorem wd_1243 : (Jvm.Cond.codeWith ({ cls := "FlowApplyLaw", name := "type", desc := "(LFlowApply;I[J)I" } : Jvm.MethodName) method_6_code (4 : Nat) (Option.some Jvm.ClassFile.FieldType.int) [((0 : Nat), (9 : Nat), (12 : Nat), (21 : Nat))]) ∈ fa_wG := fa_it (tb_6 _ (List.mem_of_getElem? (i := 43) rfl)) rfl
set_option maxRecDepth 100000 in
theorem wd_1250 : (Jvm.Cond.codeWith ({ cls := "FlowApplyLaw", name := "alike", desc := "(LFlowApply;II[J)I" } : Jvm.MethodName) method_7_code (5 : Nat) (Option.some Jvm.ClassFile.FieldType.int) [((0 : Nat), (17 : Nat), (20 : Nat), (21 : Nat))]) ∈ fa_wG := fa_it (tb_6 _ (List.mem_of_getElem? (i := 50) rfl)) rfl
set_option maxRecDepth 100000 in
theorem wd_1258 : (Jvm.Cond.codeWith ({ cls := "FlowApplyLaw", name := "site", desc := "(LFlowApply;II[J)I" } : Jvm.MethodName) method_8_code (5 : Nat) (Option.some Jvm.ClassFile.FieldType.int) [((0 : Nat), (10 : Nat), (13 : Nat), (21 : Nat)), ((0 : Nat), (10 : Nat), (17 : Nat), (23 : Nat))]) ∈ fa_wG := fa_it (tb_6 _ (List.mem_of_getElem? (i := 58) rfl)) rfl
set_option maxRecDepth 100000 in
theorem wd_1273 : (Jvm.Cond.codeWith ({ cls := "FlowApplyLaw", name := "split", desc := "(LFlowApply;II[J)I" } : Jvm.MethodName) method_9_code (5 : Nat) (Option.some Jvm.ClassFile.FieldType.int) [((0 : Nat), (10 : Nat), (13 : Nat), (23 : Nat)), ((0 : Nat), (10 : Nat), (17 : Nat), (13 : Nat))]) ∈ fa_wG := fa_it (tb_6 _ (List.mem_of_getElem? (i := 73) rfl)) rfl
set_option maxRecDepth 100000 in
theorem wd_1302 : (Jvm.Cond.codeWith ({ cls := "FlowApplyLaw", name := "group", desc := "(LFlowApply;IIZ[J)I" } : Jvm.MethodName) method_10_code (6 : Nat) (Option.some Jvm.ClassFile.FieldType.int) [((0 : Nat), (12 : Nat), (15 : Nat), (13 : Nat)), ((0 : Nat), (12 : Nat), (19 : Nat), (23 : Nat))]) ∈ fa_wG := fa_it (tb_6 _ (List.mem_of_getElem? (i := 102) rfl)) rfl
set_option maxRecDepth 100000 in
theorem wd_1311 : (Jvm.Cond.codeWith ({ cls := "FlowApplyLaw", name := "run", desc := "(LFlowApply;II[J)I" } : Jvm.MethodName) method_11_code (5 : Nat) (Option.some Jvm.ClassFile.FieldType.int) [((0 : Nat), (10 : Nat), (13 : Nat), (13 : Nat)), ((0 : Nat), (10 : Nat), (17 : Nat), (23 : Nat))]) ∈ fa_wG := fa_it (tb_6 _ (List.mem_of_getElem? (i := 111) rfl)) rfl
set_option maxRecDepth 100000 in
theorem wd_1413 : (Jvm.Cond.codeWith ({ cls := "FlowApplyLaw", name := "blame", desc := "(LFlowApply;II[J)I" } : Jvm.MethodName) method_12_code (5 : Nat) (Option.some Jvm.ClassFile.FieldType.int) [((0 : Nat), (10 : Nat), (13 : Nat), (13 : Nat))]) ∈ fa_wG := fa_it (tb_6 _ (List.mem_of_getElem? (i := 213) rfl)) rfl
set_option maxRecDepth 100000 in
theorem wd_1424 : (Jvm.Cond.codeWith ({ cls := "FlowApplyLaw", name := "form", desc := "(LFlowApply;I[J)I" } : Jvm.MethodName) method_13_code (4 : Nat) (Option.some Jvm.ClassFile.FieldType.int) [((0 : Nat), (9 : Nat), (12 : Nat), (13 : Nat))]) ∈ fa_wG := fa_it (tb_6 _ (List.mem_of_getElem? (i := 224) rfl)) rfl
set_option maxRecDepth 100000 in
theorem wd_1445 : (Jvm.Cond.codeWith ({ cls := "FlowApplyLaw", name := "ring", desc := "(LFlowApply;I[J)I" } : Jvm.MethodName) method_14_code (4 : Nat) (Option.some Jvm.ClassFile.FieldType.int) [((0 : Nat), (9 : Nat), (12 : Nat), (21 : Nat))]) ∈ fa_wG := fa_it (tb_7 _ (List.mem_of_getElem? (i := 5) rfl)) rfl
set_option maxRecDepth 100000 in
theorem wd_1453 : (Jvm.Cond.codeWith ({ cls := "FlowApplyLaw", name := "far", desc := "(LFlowApply;II[J)I" } : Jvm.MethodName) method_15_code (5 : Nat) (Option.some Jvm.ClassFile.FieldType.int) [((0 : Nat), (10 : Nat), (13 : Nat), (21 : Nat))]) ∈ fa_wG := fa_it (tb_7 _ (List.mem_of_getElem? (i := 13) rfl)) rfl
def y_Law_read : MethodName := ⟨"FlowApplyLaw", "read", "(LFlowApply;[J)I"⟩
theorem d_Law_read_0 : decode method_3_code 0 = .ok (.aload_n 1, 1) := by decide +kernel
theorem d_Law_read_1 : decode method_3_code 1 = .ok (.iconst 0, 1) := by decide +kernel
theorem d_Law_read_2 : decode method_3_code 2 = .ok (.aload_n 0, 1) := by decide +kernel
theorem d_Law_read_3 : decode method_3_code 3 = .ok (.invokevirtual 7, 3) := by decide +kernel
theorem d_Law_read_6 : decode method_3_code 6 = .ok (.i2l, 1) := by decide +kernel
theorem d_Law_read_7 : decode method_3_code 7 = .ok (.lastore, 1) := by decide +kernel
theorem d_Law_read_8 : decode method_3_code 8 = .ok (.goto 9, 3) := by decide +kernel
theorem d_Law_read_11 : decode method_3_code 11 = .ok (.astore_n 2, 1) := by decide +kernel
theorem d_Law_read_12 : decode method_3_code 12 = .ok (.iconst 1, 1) := by decide +kernel
theorem d_Law_read_13 : decode method_3_code 13 = .ok (.ireturn, 1) := by decide +kernel
theorem d_Law_read_14 : decode method_3_code 14 = .ok (.astore_n 2, 1) := by decide +kernel
theorem d_Law_read_15 : decode method_3_code 15 = .ok (.iconst 2, 1) := by decide +kernel
theorem d_Law_read_16 : decode method_3_code 16 = .ok (.ireturn, 1) := by decide +kernel
theorem d_Law_read_17 : decode method_3_code 17 = .ok (.iconst 0, 1) := by decide +kernel
theorem d_Law_read_18 : decode method_3_code 18 = .ok (.ireturn, 1) := by decide +kernel
def fm_Law_read  (w : fa_W) : Option (Int × fa_W) :=
  (fm_Face_read w).bind fun q => fa_wc q.1 (some (0, fa_st q.2.2 237 0 (fa_wr q.2.1))) (fun k w1 => if k = 3 then some (1, w1) else if k = 4 then some (2, w1) else none) q.2.2
set_option maxHeartbeats 4000000 in
set_option maxRecDepth 100000 in
theorem c_Law_read {l : Launch} {D : va_G} {b : Nat} {aC : Nat → ClassId} {H0 : Heap} {N T : Nat} (hN : fa_NX ≤ N) (hT : fa_TX ≤ T) (hO : 237 < N) (hfl : l.stackTraces = false)  (w : fa_W) (r : Int) (wr : fa_W) (hM : fm_Law_read  w = some (r, wr)) : fw_MC l D b aC H0 N T y_Law_read method_3_code 3 [(0, 8, 11, 13), (0, 8, 14, 15)] 908 [.ref (b + 0), .ref (b + 237)] w r wr := by
  refine fw_enter (lv := [(0, .ref (b + 0)), (1, .ref (b + 237))]) (by decide +kernel) (Nat.le_of_ble_eq_true rfl) rfl (fun hh hle htab X => ?_)
  unfold fm_Law_read at hM
  refine g_aload_n X 1 rfl d_Law_read_0 ?_
  refine g_iconst X d_Law_read_1 ?_
  refine g_aload_n X 0 rfl d_Law_read_2 ?_
  obtain ⟨⟨k, v, w1⟩, e1, hM⟩ := fa_ob hM
  by_cases hk : k = 0
  · subst hk
    have hM := fa_wc_0 hM
    refine g_callV_i X ck_0 fo_0 (fn_0 hN) rfl mi_Face_read (c_Face_read hN hT  w _ _ e1) wd_959 rfl (Nat.le_trans (Nat.le_of_ble_eq_true rfl) hle) (st := [.int (fa_I 0), .ref (b + 237)]) (Nat.le_of_ble_eq_true rfl) rfl d_Law_read_3 ?_
    refine g_i2l X d_Law_read_6 ?_
    refine g_last X (z := fa_wr v) fs_237 hO (by decide) d_Law_read_7 (fun w2 ew2 => ?_)
    subst ew2
    refine g_goto X 17 d_Law_read_8 (by decide) ?_
    refine g_iconst X d_Law_read_17 ?_
    cases hM
    exact g_wret X (Nat.zero_le 1) (Nat.zero_le 6) d_Law_read_18
  · have hM := fa_wc_1 hM hk
    by_cases hq0 : k = 3
    · have hM := fa_if_t hM hq0
      subst hq0
      refine g_xcatch X ck_0 fo_0 (fn_0 hN) rfl mi_Face_read (cx_Face_read hN hT  hfl w _ _ _ hk e1) wd_959 rfl (Nat.le_trans (Nat.le_of_ble_eq_true rfl) hle) (st := [.int (fa_I 0), .ref (b + 237)]) (Nat.le_of_ble_eq_true rfl) rfl d_Law_read_3 [] ⟨0, 8, 11, 13⟩ [⟨0, 8, 14, 15⟩] htab (name := "java/lang/IllegalArgumentException") (fun z hz => by cases hz) (by decide) (by decide) wd_957 wd_1085 (fun q => ?_)
      refine g_astore_n X [(2, .ref q), (0, .ref (b + 0)), (1, .ref (b + 237))] d_Law_read_11 (by decide) rfl ?_
      refine g_iconst X d_Law_read_12 ?_
      cases hM
      exact g_wret X (Nat.le_refl 1) (Nat.le_refl 6) d_Law_read_13
    have hM := fa_if_f hM hq0
    by_cases hq1 : k = 4
    · have hM := fa_if_t hM hq1
      subst hq1
      refine g_xcatch X ck_0 fo_0 (fn_0 hN) rfl mi_Face_read (cx_Face_read hN hT  hfl w _ _ _ hk e1) wd_959 rfl (Nat.le_trans (Nat.le_of_ble_eq_true rfl) hle) (st := [.int (fa_I 0), .ref (b + 237)]) (Nat.le_of_ble_eq_true rfl) rfl d_Law_read_3 [⟨0, 8, 11, 13⟩] ⟨0, 8, 14, 15⟩ [] htab (name := "java/lang/IllegalStateException") (fun z hz => by
        rcases List.mem_singleton.mp hz with rfl
        exact ⟨by decide, "java/lang/IllegalArgumentException", wd_957, by decide +kernel⟩) (by decide) (by decide) wd_958 wd_1157 (fun q => ?_)
      refine g_astore_n X [(2, .ref q), (0, .ref (b + 0)), (1, .ref (b + 237))] d_Law_read_14 (by decide) rfl ?_
      refine g_iconst X d_Law_read_15 ?_
      cases hM
      exact g_wret X (Nat.le_refl 1) (Nat.le_refl 6) d_Law_read_16
    have hM := fa_if_f hM hq1
    exact fa_no hM
def y_Law_function : MethodName := ⟨"FlowApplyLaw", "function", "(LFlowApply;II[J)I"⟩
theorem d_Law_function_0 : decode method_4_code 0 = .ok (.aload_n 3, 1) := by decide +kernel
theorem d_Law_function_1 : decode method_4_code 1 = .ok (.iconst 0, 1) := by decide +kernel
theorem d_Law_function_2 : decode method_4_code 2 = .ok (.aload_n 0, 1) := by decide +kernel
theorem d_Law_function_3 : decode method_4_code 3 = .ok (.iload_n 1, 1) := by decide +kernel
theorem d_Law_function_4 : decode method_4_code 4 = .ok (.iload_n 2, 1) := by decide +kernel
theorem d_Law_function_5 : decode method_4_code 5 = .ok (.invokevirtual 17, 3) := by decide +kernel
theorem d_Law_function_8 : decode method_4_code 8 = .ok (.i2l, 1) := by decide +kernel
theorem d_Law_function_9 : decode method_4_code 9 = .ok (.lastore, 1) := by decide +kernel
theorem d_Law_function_10 : decode method_4_code 10 = .ok (.goto 11, 3) := by decide +kernel
theorem d_Law_function_13 : decode method_4_code 13 = .ok (.astore 4, 2) := by decide +kernel
theorem d_Law_function_15 : decode method_4_code 15 = .ok (.iconst 1, 1) := by decide +kernel
theorem d_Law_function_16 : decode method_4_code 16 = .ok (.ireturn, 1) := by decide +kernel
theorem d_Law_function_17 : decode method_4_code 17 = .ok (.astore 4, 2) := by decide +kernel
theorem d_Law_function_19 : decode method_4_code 19 = .ok (.iconst 2, 1) := by decide +kernel
theorem d_Law_function_20 : decode method_4_code 20 = .ok (.ireturn, 1) := by decide +kernel
theorem d_Law_function_21 : decode method_4_code 21 = .ok (.iconst 0, 1) := by decide +kernel
theorem d_Law_function_22 : decode method_4_code 22 = .ok (.ireturn, 1) := by decide +kernel
def fm_Law_function (a1 : Int) (a2 : Int) (w : fa_W) : Option (Int × fa_W) :=
  (fm_Face_function a1 a2 w).bind fun q => fa_wc q.1 (some (0, fa_st q.2.2 237 0 (fa_wr q.2.1))) (fun k w1 => if k = 1 then some (1, w1) else if k = 2 then some (2, w1) else none) q.2.2
set_option maxHeartbeats 4000000 in
set_option maxRecDepth 100000 in
theorem c_Law_function {l : Launch} {D : va_G} {b : Nat} {aC : Nat → ClassId} {H0 : Heap} {N T : Nat} (hN : fa_NX ≤ N) (hT : fa_TX ≤ T) (hO : 237 < N) (hfl : l.stackTraces = false) (a1 : Int) (a2 : Int) (w : fa_W) (r : Int) (wr : fa_W) (hM : fm_Law_function a1 a2 w = some (r, wr)) : fw_MC l D b aC H0 N T y_Law_function method_4_code 5 [(0, 10, 13, 21), (0, 10, 17, 23)] 8 [.ref (b + 0), .int (fa_I a1), .int (fa_I a2), .ref (b + 237)] w r wr := by
  refine fw_enter (lv := [(0, .ref (b + 0)), (1, .int (fa_I a1)), (2, .int (fa_I a2)), (3, .ref (b + 237))]) (by decide +kernel) (Nat.le_of_ble_eq_true rfl) rfl (fun hh hle htab X => ?_)
  unfold fm_Law_function at hM
  refine g_aload_n X 3 rfl d_Law_function_0 ?_
  refine g_iconst X d_Law_function_1 ?_
  refine g_aload_n X 0 rfl d_Law_function_2 ?_
  refine g_iload_n X 1 rfl d_Law_function_3 ?_
  refine g_iload_n X 2 rfl d_Law_function_4 ?_
  obtain ⟨⟨k, v, w1⟩, e1, hM⟩ := fa_ob hM
  by_cases hk : k = 0
  · subst hk
    have hM := fa_wc_0 hM
    refine g_callV_i X ck_0 fo_0 (fn_0 hN) rfl mi_Face_function (c_Face_function hN hT a1 a2 w _ _ e1) wd_1176 rfl (Nat.le_trans (Nat.le_of_ble_eq_true rfl) hle) (st := [.int (fa_I 0), .ref (b + 237)]) (Nat.le_of_ble_eq_true rfl) rfl d_Law_function_5 ?_
    refine g_i2l X d_Law_function_8 ?_
    refine g_last X (z := fa_wr v) fs_237 hO (by decide) d_Law_function_9 (fun w2 ew2 => ?_)
    subst ew2
    refine g_goto X 21 d_Law_function_10 (by decide) ?_
    refine g_iconst X d_Law_function_21 ?_
    cases hM
    exact g_wret X (Nat.zero_le 1) (Nat.zero_le 6) d_Law_function_22
  · have hM := fa_wc_1 hM hk
    by_cases hq0 : k = 1
    · have hM := fa_if_t hM hq0
      subst hq0
      refine g_xcatch X ck_0 fo_0 (fn_0 hN) rfl mi_Face_function (cx_Face_function hN hT a1 a2 hfl w _ _ _ hk e1) wd_1176 rfl (Nat.le_trans (Nat.le_of_ble_eq_true rfl) hle) (st := [.int (fa_I 0), .ref (b + 237)]) (Nat.le_of_ble_eq_true rfl) rfl d_Law_function_5 [] ⟨0, 10, 13, 21⟩ [⟨0, 10, 17, 23⟩] htab (name := "java/lang/IndexOutOfBoundsException") (fun z hz => by cases hz) (by decide) (by decide) wd_1174 wd_1186 (fun q => ?_)
      refine g_astore X [(4, .ref q), (0, .ref (b + 0)), (1, .int (fa_I a1)), (2, .int (fa_I a2)), (3, .ref (b + 237))] d_Law_function_13 (by decide) rfl ?_
      refine g_iconst X d_Law_function_15 ?_
      cases hM
      exact g_wret X (Nat.le_refl 1) (Nat.le_refl 6) d_Law_function_16
    have hM := fa_if_f hM hq0
    by_cases hq1 : k = 2
    · have hM := fa_if_t hM hq1
      subst hq1
      refine g_xcatch X ck_0 fo_0 (fn_0 hN) rfl mi_Face_function (cx_Face_function hN hT a1 a2 hfl w _ _ _ hk e1) wd_1176 rfl (Nat.le_trans (Nat.le_of_ble_eq_true rfl) hle) (st := [.int (fa_I 0), .ref (b + 237)]) (Nat.le_of_ble_eq_true rfl) rfl d_Law_function_5 [⟨0, 10, 13, 21⟩] ⟨0, 10, 17, 23⟩ [] htab (name := "java/util/NoSuchElementException") (fun z hz => by
        rcases List.mem_singleton.mp hz with rfl
        exact ⟨by decide, "java/lang/IndexOutOfBoundsException", wd_1174, by decide +kernel⟩) (by decide) (by decide) wd_1175 wd_1215 (fun q => ?_)
      refine g_astore X [(4, .ref q), (0, .ref (b + 0)), (1, .int (fa_I a1)), (2, .int (fa_I a2)), (3, .ref (b + 237))] d_Law_function_17 (by decide) rfl ?_
      refine g_iconst X d_Law_function_19 ?_
      cases hM
      exact g_wret X (Nat.le_refl 1) (Nat.le_refl 6) d_Law_function_20
    have hM := fa_if_f hM hq1
    exact fa_no hM
def y_Law_field : MethodName := ⟨"FlowApplyLaw", "field", "(LFlowApply;II[J)I"⟩
theorem d_Law_field_0 : decode method_5_code 0 = .ok (.aload_n 3, 1) := by decide +kernel
theorem d_Law_field_1 : decode method_5_code 1 = .ok (.iconst 0, 1) := by decide +kernel
theorem d_Law_field_2 : decode method_5_code 2 = .ok (.aload_n 0, 1) := by decide +kernel
theorem d_Law_field_3 : decode method_5_code 3 = .ok (.iload_n 1, 1) := by decide +kernel
theorem d_Law_field_4 : decode method_5_code 4 = .ok (.iload_n 2, 1) := by decide +kernel
theorem d_Law_field_5 : decode method_5_code 5 = .ok (.invokevirtual 25, 3) := by decide +kernel
theorem d_Law_field_8 : decode method_5_code 8 = .ok (.i2l, 1) := by decide +kernel
theorem d_Law_field_9 : decode method_5_code 9 = .ok (.lastore, 1) := by decide +kernel
theorem d_Law_field_10 : decode method_5_code 10 = .ok (.goto 11, 3) := by decide +kernel
theorem d_Law_field_13 : decode method_5_code 13 = .ok (.astore 4, 2) := by decide +kernel
theorem d_Law_field_15 : decode method_5_code 15 = .ok (.iconst 1, 1) := by decide +kernel
theorem d_Law_field_16 : decode method_5_code 16 = .ok (.ireturn, 1) := by decide +kernel
theorem d_Law_field_17 : decode method_5_code 17 = .ok (.astore 4, 2) := by decide +kernel
theorem d_Law_field_19 : decode method_5_code 19 = .ok (.iconst 2, 1) := by decide +kernel
theorem d_Law_field_20 : decode method_5_code 20 = .ok (.ireturn, 1) := by decide +kernel
theorem d_Law_field_21 : decode method_5_code 21 = .ok (.iconst 0, 1) := by decide +kernel
theorem d_Law_field_22 : decode method_5_code 22 = .ok (.ireturn, 1) := by decide +kernel
def fm_Law_field (a1 : Int) (a2 : Int) (w : fa_W) : Option (Int × fa_W) :=
  (fm_Face_field a1 a2 w).bind fun q => fa_wc q.1 (some (0, fa_st q.2.2 237 0 (fa_wr q.2.1))) (fun k w1 => if k = 1 then some (1, w1) else if k = 2 then some (2, w1) else none) q.2.2
set_option maxHeartbeats 4000000 in
set_option maxRecDepth 100000 in
theorem c_Law_field {l : Launch} {D : va_G} {b : Nat} {aC : Nat → ClassId} {H0 : Heap} {N T : Nat} (hN : fa_NX ≤ N) (hT : fa_TX ≤ T) (hO : 237 < N) (hfl : l.stackTraces = false) (a1 : Int) (a2 : Int) (w : fa_W) (r : Int) (wr : fa_W) (hM : fm_Law_field a1 a2 w = some (r, wr)) : fw_MC l D b aC H0 N T y_Law_field method_5_code 5 [(0, 10, 13, 21), (0, 10, 17, 23)] 8 [.ref (b + 0), .int (fa_I a1), .int (fa_I a2), .ref (b + 237)] w r wr := by
  refine fw_enter (lv := [(0, .ref (b + 0)), (1, .int (fa_I a1)), (2, .int (fa_I a2)), (3, .ref (b + 237))]) (by decide +kernel) (Nat.le_of_ble_eq_true rfl) rfl (fun hh hle htab X => ?_)
  unfold fm_Law_field at hM
  refine g_aload_n X 3 rfl d_Law_field_0 ?_
  refine g_iconst X d_Law_field_1 ?_
  refine g_aload_n X 0 rfl d_Law_field_2 ?_
  refine g_iload_n X 1 rfl d_Law_field_3 ?_
  refine g_iload_n X 2 rfl d_Law_field_4 ?_
  obtain ⟨⟨k, v, w1⟩, e1, hM⟩ := fa_ob hM
  by_cases hk : k = 0
  · subst hk
    have hM := fa_wc_0 hM
    refine g_callV_i X ck_0 fo_0 (fn_0 hN) rfl mi_Face_field (c_Face_field hN hT a1 a2 w _ _ e1) wd_1232 rfl (Nat.le_trans (Nat.le_of_ble_eq_true rfl) hle) (st := [.int (fa_I 0), .ref (b + 237)]) (Nat.le_of_ble_eq_true rfl) rfl d_Law_field_5 ?_
    refine g_i2l X d_Law_field_8 ?_
    refine g_last X (z := fa_wr v) fs_237 hO (by decide) d_Law_field_9 (fun w2 ew2 => ?_)
    subst ew2
    refine g_goto X 21 d_Law_field_10 (by decide) ?_
    refine g_iconst X d_Law_field_21 ?_
    cases hM
    exact g_wret X (Nat.zero_le 1) (Nat.zero_le 6) d_Law_field_22
  · have hM := fa_wc_1 hM hk
    by_cases hq0 : k = 1
    · have hM := fa_if_t hM hq0
      subst hq0
      refine g_xcatch X ck_0 fo_0 (fn_0 hN) rfl mi_Face_field (cx_Face_field hN hT a1 a2 hfl w _ _ _ hk e1) wd_1232 rfl (Nat.le_trans (Nat.le_of_ble_eq_true rfl) hle) (st := [.int (fa_I 0), .ref (b + 237)]) (Nat.le_of_ble_eq_true rfl) rfl d_Law_field_5 [] ⟨0, 10, 13, 21⟩ [⟨0, 10, 17, 23⟩] htab (name := "java/lang/IndexOutOfBoundsException") (fun z hz => by cases hz) (by decide) (by decide) wd_1174 wd_1186 (fun q => ?_)
      refine g_astore X [(4, .ref q), (0, .ref (b + 0)), (1, .int (fa_I a1)), (2, .int (fa_I a2)), (3, .ref (b + 237))] d_Law_field_13 (by decide) rfl ?_
      refine g_iconst X d_Law_field_15 ?_
      cases hM
      exact g_wret X (Nat.le_refl 1) (Nat.le_refl 6) d_Law_field_16
    have hM := fa_if_f hM hq0
    by_cases hq1 : k = 2
    · have hM := fa_if_t hM hq1
      subst hq1
      refine g_xcatch X ck_0 fo_0 (fn_0 hN) rfl mi_Face_field (cx_Face_field hN hT a1 a2 hfl w _ _ _ hk e1) wd_1232 rfl (Nat.le_trans (Nat.le_of_ble_eq_true rfl) hle) (st := [.int (fa_I 0), .ref (b + 237)]) (Nat.le_of_ble_eq_true rfl) rfl d_Law_field_5 [⟨0, 10, 13, 21⟩] ⟨0, 10, 17, 23⟩ [] htab (name := "java/util/NoSuchElementException") (fun z hz => by
        rcases List.mem_singleton.mp hz with rfl
        exact ⟨by decide, "java/lang/IndexOutOfBoundsException", wd_1174, by decide +kernel⟩) (by decide) (by decide) wd_1175 wd_1215 (fun q => ?_)
      refine g_astore X [(4, .ref q), (0, .ref (b + 0)), (1, .int (fa_I a1)), (2, .int (fa_I a2)), (3, .ref (b + 237))] d_Law_field_17 (by decide) rfl ?_
      refine g_iconst X d_Law_field_19 ?_
      cases hM
      exact g_wret X (Nat.le_refl 1) (Nat.le_refl 6) d_Law_field_20
    have hM := fa_if_f hM hq1
    exact fa_no hM
def y_Law_type : MethodName := ⟨"FlowApplyLaw", "type", "(LFlowApply;I[J)I"⟩
theorem d_Law_type_0 : decode method_6_code 0 = .ok (.aload_n 2, 1) := by decide +kernel
theorem d_Law_type_1 : decode method_6_code 1 = .ok (.iconst 0, 1) := by decide +kernel
theorem d_Law_type_2 : decode method_6_code 2 = .ok (.aload_n 0, 1) := by decide +kernel
theorem d_Law_type_3 : decode method_6_code 3 = .ok (.iload_n 1, 1) := by decide +kernel
theorem d_Law_type_4 : decode method_6_code 4 = .ok (.invokevirtual 28, 3) := by decide +kernel
theorem d_Law_type_7 : decode method_6_code 7 = .ok (.i2l, 1) := by decide +kernel
theorem d_Law_type_8 : decode method_6_code 8 = .ok (.lastore, 1) := by decide +kernel
theorem d_Law_type_9 : decode method_6_code 9 = .ok (.goto 6, 3) := by decide +kernel
theorem d_Law_type_12 : decode method_6_code 12 = .ok (.astore_n 3, 1) := by decide +kernel
theorem d_Law_type_13 : decode method_6_code 13 = .ok (.iconst 1, 1) := by decide +kernel
theorem d_Law_type_14 : decode method_6_code 14 = .ok (.ireturn, 1) := by decide +kernel
theorem d_Law_type_15 : decode method_6_code 15 = .ok (.iconst 0, 1) := by decide +kernel
theorem d_Law_type_16 : decode method_6_code 16 = .ok (.ireturn, 1) := by decide +kernel
def fm_Law_type (a1 : Int) (w : fa_W) : Option (Int × fa_W) :=
  (fm_Face_type a1 w).bind fun q => fa_wc q.1 (some (0, fa_st q.2.2 237 0 (fa_wr q.2.1))) (fun k w1 => if k = 1 then some (1, w1) else none) q.2.2
set_option maxHeartbeats 4000000 in
set_option maxRecDepth 100000 in
theorem c_Law_type {l : Launch} {D : va_G} {b : Nat} {aC : Nat → ClassId} {H0 : Heap} {N T : Nat} (hN : fa_NX ≤ N) (hT : fa_TX ≤ T) (hO : 237 < N) (hfl : l.stackTraces = false) (a1 : Int) (w : fa_W) (r : Int) (wr : fa_W) (hM : fm_Law_type a1 w = some (r, wr)) : fw_MC l D b aC H0 N T y_Law_type method_6_code 4 [(0, 9, 12, 21)] 8 [.ref (b + 0), .int (fa_I a1), .ref (b + 237)] w r wr := by
  refine fw_enter (lv := [(0, .ref (b + 0)), (1, .int (fa_I a1)), (2, .ref (b + 237))]) (by decide +kernel) (Nat.le_of_ble_eq_true rfl) rfl (fun hh hle htab X => ?_)
  unfold fm_Law_type at hM
  refine g_aload_n X 2 rfl d_Law_type_0 ?_
  refine g_iconst X d_Law_type_1 ?_
  refine g_aload_n X 0 rfl d_Law_type_2 ?_
  refine g_iload_n X 1 rfl d_Law_type_3 ?_
  obtain ⟨⟨k, v, w1⟩, e1, hM⟩ := fa_ob hM
  by_cases hk : k = 0
  · subst hk
    have hM := fa_wc_0 hM
    refine g_callV_i X ck_0 fo_0 (fn_0 hN) rfl mi_Face_type (c_Face_type hN hT a1 w _ _ e1) wd_1244 rfl (Nat.le_trans (Nat.le_of_ble_eq_true rfl) hle) (st := [.int (fa_I 0), .ref (b + 237)]) (Nat.le_of_ble_eq_true rfl) rfl d_Law_type_4 ?_
    refine g_i2l X d_Law_type_7 ?_
    refine g_last X (z := fa_wr v) fs_237 hO (by decide) d_Law_type_8 (fun w2 ew2 => ?_)
    subst ew2
    refine g_goto X 15 d_Law_type_9 (by decide) ?_
    refine g_iconst X d_Law_type_15 ?_
    cases hM
    exact g_wret X (Nat.zero_le 1) (Nat.zero_le 6) d_Law_type_16
  · have hM := fa_wc_1 hM hk
    by_cases hq0 : k = 1
    · have hM := fa_if_t hM hq0
      subst hq0
      refine g_xcatch X ck_0 fo_0 (fn_0 hN) rfl mi_Face_type (cx_Face_type hN hT a1 hfl w _ _ _ hk e1) wd_1244 rfl (Nat.le_trans (Nat.le_of_ble_eq_true rfl) hle) (st := [.int (fa_I 0), .ref (b + 237)]) (Nat.le_of_ble_eq_true rfl) rfl d_Law_type_4 [] ⟨0, 9, 12, 21⟩ [] htab (name := "java/lang/IndexOutOfBoundsException") (fun z hz => by cases hz) (by decide) (by decide) wd_1174 wd_1186 (fun q => ?_)
      refine g_astore_n X [(3, .ref q), (0, .ref (b + 0)), (1, .int (fa_I a1)), (2, .ref (b + 237))] d_Law_type_12 (by decide) rfl ?_
      refine g_iconst X d_Law_type_13 ?_
      cases hM
      exact g_wret X (Nat.le_refl 1) (Nat.le_refl 6) d_Law_type_14
    have hM := fa_if_f hM hq0
    exact fa_no hM
def y_Law_alike : MethodName := ⟨"FlowApplyLaw", "alike", "(LFlowApply;II[J)I"⟩
theorem d_Law_alike_0 : decode method_7_code 0 = .ok (.aload_n 3, 1) := by decide +kernel
theorem d_Law_alike_1 : decode method_7_code 1 = .ok (.iconst 0, 1) := by decide +kernel
theorem d_Law_alike_2 : decode method_7_code 2 = .ok (.aload_n 0, 1) := by decide +kernel
theorem d_Law_alike_3 : decode method_7_code 3 = .ok (.iload_n 1, 1) := by decide +kernel
theorem d_Law_alike_4 : decode method_7_code 4 = .ok (.iload_n 2, 1) := by decide +kernel
theorem d_Law_alike_5 : decode method_7_code 5 = .ok (.invokevirtual 32, 3) := by decide +kernel
theorem d_Law_alike_8 : decode method_7_code 8 = .ok (.ifCond .eq 7, 3) := by decide +kernel
theorem d_Law_alike_11 : decode method_7_code 11 = .ok (.lconst 1, 1) := by decide +kernel
theorem d_Law_alike_12 : decode method_7_code 12 = .ok (.goto 4, 3) := by decide +kernel
theorem d_Law_alike_15 : decode method_7_code 15 = .ok (.lconst 0, 1) := by decide +kernel
theorem d_Law_alike_16 : decode method_7_code 16 = .ok (.lastore, 1) := by decide +kernel
theorem d_Law_alike_17 : decode method_7_code 17 = .ok (.goto 7, 3) := by decide +kernel
theorem d_Law_alike_20 : decode method_7_code 20 = .ok (.astore 4, 2) := by decide +kernel
theorem d_Law_alike_22 : decode method_7_code 22 = .ok (.iconst 1, 1) := by decide +kernel
theorem d_Law_alike_23 : decode method_7_code 23 = .ok (.ireturn, 1) := by decide +kernel
theorem d_Law_alike_24 : decode method_7_code 24 = .ok (.iconst 0, 1) := by decide +kernel
theorem d_Law_alike_25 : decode method_7_code 25 = .ok (.ireturn, 1) := by decide +kernel
def fm_Law_alike (a1 : Int) (a2 : Int) (w : fa_W) : Option (Int × fa_W) :=
  (fm_Face_alike a1 a2 w).bind fun q => fa_wc q.1 (some (0, fa_st q.2.2 237 0 (fa_bi q.2.1))) (fun k w1 => if k = 1 then some (1, w1) else none) q.2.2
set_option maxHeartbeats 4000000 in
set_option maxRecDepth 100000 in
theorem c_Law_alike {l : Launch} {D : va_G} {b : Nat} {aC : Nat → ClassId} {H0 : Heap} {N T : Nat} (hN : fa_NX ≤ N) (hT : fa_TX ≤ T) (hO : 237 < N) (hfl : l.stackTraces = false) (a1 : Int) (a2 : Int) (w : fa_W) (r : Int) (wr : fa_W) (hM : fm_Law_alike a1 a2 w = some (r, wr)) : fw_MC l D b aC H0 N T y_Law_alike method_7_code 5 [(0, 17, 20, 21)] 8 [.ref (b + 0), .int (fa_I a1), .int (fa_I a2), .ref (b + 237)] w r wr := by
  refine fw_enter (lv := [(0, .ref (b + 0)), (1, .int (fa_I a1)), (2, .int (fa_I a2)), (3, .ref (b + 237))]) (by decide +kernel) (Nat.le_of_ble_eq_true rfl) rfl (fun hh hle htab X => ?_)
  unfold fm_Law_alike at hM
  refine g_aload_n X 3 rfl d_Law_alike_0 ?_
  refine g_iconst X d_Law_alike_1 ?_
  refine g_aload_n X 0 rfl d_Law_alike_2 ?_
  refine g_iload_n X 1 rfl d_Law_alike_3 ?_
  refine g_iload_n X 2 rfl d_Law_alike_4 ?_
  obtain ⟨⟨k, v, w1⟩, e1, hM⟩ := fa_ob hM
  by_cases hk : k = 0
  · subst hk
    have hM := fa_wc_0 hM
    refine g_callV_i X ck_0 fo_0 (fn_0 hN) rfl mi_Face_alike (c_Face_alike hN hT a1 a2 w _ _ e1) wd_1251 rfl (Nat.le_trans (Nat.le_of_ble_eq_true rfl) hle) (st := [.int (fa_I 0), .ref (b + 237)]) (Nat.le_of_ble_eq_true rfl) rfl d_Law_alike_5 ?_
    refine g_ifb_eq X 15 d_Law_alike_8 (by decide) (fun hc => ?_) (fun hc => ?_)
    · subst hc
      refine g_lconst X (v := 0) (by decide) d_Law_alike_15 ?_
      refine g_last X (z := 0) fs_237 hO (by decide) d_Law_alike_16 (fun w2 ew2 => ?_)
      subst ew2
      refine g_goto X 24 d_Law_alike_17 (by decide) ?_
      refine g_iconst X d_Law_alike_24 ?_
      cases hM
      exact g_wret X (Nat.zero_le 1) (Nat.zero_le 6) d_Law_alike_25
    · subst hc
      refine g_lconst X (v := 1) (by decide) d_Law_alike_11 ?_
      refine g_goto X 16 d_Law_alike_12 (by decide) ?_
      refine g_last X (z := 1) fs_237 hO (by decide) d_Law_alike_16 (fun w2 ew2 => ?_)
      subst ew2
      refine g_goto X 24 d_Law_alike_17 (by decide) ?_
      refine g_iconst X d_Law_alike_24 ?_
      cases hM
      exact g_wret X (Nat.zero_le 1) (Nat.zero_le 6) d_Law_alike_25
  · have hM := fa_wc_1 hM hk
    by_cases hq0 : k = 1
    · have hM := fa_if_t hM hq0
      subst hq0
      refine g_xcatch X ck_0 fo_0 (fn_0 hN) rfl mi_Face_alike (cx_Face_alike hN hT a1 a2 hfl w _ _ _ hk e1) wd_1251 rfl (Nat.le_trans (Nat.le_of_ble_eq_true rfl) hle) (st := [.int (fa_I 0), .ref (b + 237)]) (Nat.le_of_ble_eq_true rfl) rfl d_Law_alike_5 [] ⟨0, 17, 20, 21⟩ [] htab (name := "java/lang/IndexOutOfBoundsException") (fun z hz => by cases hz) (by decide) (by decide) wd_1174 wd_1186 (fun q => ?_)
      refine g_astore X [(4, .ref q), (0, .ref (b + 0)), (1, .int (fa_I a1)), (2, .int (fa_I a2)), (3, .ref (b + 237))] d_Law_alike_20 (by decide) rfl ?_
      refine g_iconst X d_Law_alike_22 ?_
      cases hM
      exact g_wret X (Nat.le_refl 1) (Nat.le_refl 6) d_Law_alike_23
    have hM := fa_if_f hM hq0
    exact fa_no hM
def y_Law_site : MethodName := ⟨"FlowApplyLaw", "site", "(LFlowApply;II[J)I"⟩
theorem d_Law_site_0 : decode method_8_code 0 = .ok (.aload_n 3, 1) := by decide +kernel
theorem d_Law_site_1 : decode method_8_code 1 = .ok (.iconst 0, 1) := by decide +kernel
theorem d_Law_site_2 : decode method_8_code 2 = .ok (.aload_n 0, 1) := by decide +kernel
theorem d_Law_site_3 : decode method_8_code 3 = .ok (.iload_n 1, 1) := by decide +kernel
theorem d_Law_site_4 : decode method_8_code 4 = .ok (.iload_n 2, 1) := by decide +kernel
theorem d_Law_site_5 : decode method_8_code 5 = .ok (.invokevirtual 36, 3) := by decide +kernel
theorem d_Law_site_8 : decode method_8_code 8 = .ok (.i2l, 1) := by decide +kernel
theorem d_Law_site_9 : decode method_8_code 9 = .ok (.lastore, 1) := by decide +kernel
theorem d_Law_site_10 : decode method_8_code 10 = .ok (.goto 11, 3) := by decide +kernel
theorem d_Law_site_13 : decode method_8_code 13 = .ok (.astore 4, 2) := by decide +kernel
theorem d_Law_site_15 : decode method_8_code 15 = .ok (.iconst 1, 1) := by decide +kernel
theorem d_Law_site_16 : decode method_8_code 16 = .ok (.ireturn, 1) := by decide +kernel
theorem d_Law_site_17 : decode method_8_code 17 = .ok (.astore 4, 2) := by decide +kernel
theorem d_Law_site_19 : decode method_8_code 19 = .ok (.iconst 2, 1) := by decide +kernel
theorem d_Law_site_20 : decode method_8_code 20 = .ok (.ireturn, 1) := by decide +kernel
theorem d_Law_site_21 : decode method_8_code 21 = .ok (.iconst 0, 1) := by decide +kernel
theorem d_Law_site_22 : decode method_8_code 22 = .ok (.ireturn, 1) := by decide +kernel
def fm_Law_site (a1 : Int) (a2 : Int) (w : fa_W) : Option (Int × fa_W) :=
  (fm_Face_site a1 a2 w).bind fun q => fa_wc q.1 (some (0, fa_st q.2.2 237 0 (fa_wr q.2.1))) (fun k w1 => if k = 1 then some (1, w1) else if k = 2 then some (2, w1) else none) q.2.2
set_option maxHeartbeats 4000000 in
set_option maxRecDepth 100000 in
theorem c_Law_site {l : Launch} {D : va_G} {b : Nat} {aC : Nat → ClassId} {H0 : Heap} {N T : Nat} (hN : fa_NX ≤ N) (hT : fa_TX ≤ T) (hO : 237 < N) (hfl : l.stackTraces = false) (a1 : Int) (a2 : Int) (w : fa_W) (r : Int) (wr : fa_W) (hM : fm_Law_site a1 a2 w = some (r, wr)) : fw_MC l D b aC H0 N T y_Law_site method_8_code 5 [(0, 10, 13, 21), (0, 10, 17, 23)] 7 [.ref (b + 0), .int (fa_I a1), .int (fa_I a2), .ref (b + 237)] w r wr := by
  refine fw_enter (lv := [(0, .ref (b + 0)), (1, .int (fa_I a1)), (2, .int (fa_I a2)), (3, .ref (b + 237))]) (by decide +kernel) (Nat.le_of_ble_eq_true rfl) rfl (fun hh hle htab X => ?_)
  unfold fm_Law_site at hM
  refine g_aload_n X 3 rfl d_Law_site_0 ?_
  refine g_iconst X d_Law_site_1 ?_
  refine g_aload_n X 0 rfl d_Law_site_2 ?_
  refine g_iload_n X 1 rfl d_Law_site_3 ?_
  refine g_iload_n X 2 rfl d_Law_site_4 ?_
  obtain ⟨⟨k, v, w1⟩, e1, hM⟩ := fa_ob hM
  by_cases hk : k = 0
  · subst hk
    have hM := fa_wc_0 hM
    refine g_callV_i X ck_0 fo_0 (fn_0 hN) rfl mi_Face_site (c_Face_site hN hT a1 a2 w _ _ e1) wd_1259 rfl (Nat.le_trans (Nat.le_of_ble_eq_true rfl) hle) (st := [.int (fa_I 0), .ref (b + 237)]) (Nat.le_of_ble_eq_true rfl) rfl d_Law_site_5 ?_
    refine g_i2l X d_Law_site_8 ?_
    refine g_last X (z := fa_wr v) fs_237 hO (by decide) d_Law_site_9 (fun w2 ew2 => ?_)
    subst ew2
    refine g_goto X 21 d_Law_site_10 (by decide) ?_
    refine g_iconst X d_Law_site_21 ?_
    cases hM
    exact g_wret X (Nat.zero_le 1) (Nat.zero_le 6) d_Law_site_22
  · have hM := fa_wc_1 hM hk
    by_cases hq0 : k = 1
    · have hM := fa_if_t hM hq0
      subst hq0
      refine g_xcatch X ck_0 fo_0 (fn_0 hN) rfl mi_Face_site (cx_Face_site hN hT a1 a2 hfl w _ _ _ hk e1) wd_1259 rfl (Nat.le_trans (Nat.le_of_ble_eq_true rfl) hle) (st := [.int (fa_I 0), .ref (b + 237)]) (Nat.le_of_ble_eq_true rfl) rfl d_Law_site_5 [] ⟨0, 10, 13, 21⟩ [⟨0, 10, 17, 23⟩] htab (name := "java/lang/IndexOutOfBoundsException") (fun z hz => by cases hz) (by decide) (by decide) wd_1174 wd_1186 (fun q => ?_)
      refine g_astore X [(4, .ref q), (0, .ref (b + 0)), (1, .int (fa_I a1)), (2, .int (fa_I a2)), (3, .ref (b + 237))] d_Law_site_13 (by decide) rfl ?_
      refine g_iconst X d_Law_site_15 ?_
      cases hM
      exact g_wret X (Nat.le_refl 1) (Nat.le_refl 6) d_Law_site_16
    have hM := fa_if_f hM hq0
    by_cases hq1 : k = 2
    · have hM := fa_if_t hM hq1
      subst hq1
      refine g_xcatch X ck_0 fo_0 (fn_0 hN) rfl mi_Face_site (cx_Face_site hN hT a1 a2 hfl w _ _ _ hk e1) wd_1259 rfl (Nat.le_trans (Nat.le_of_ble_eq_true rfl) hle) (st := [.int (fa_I 0), .ref (b + 237)]) (Nat.le_of_ble_eq_true rfl) rfl d_Law_site_5 [⟨0, 10, 13, 21⟩] ⟨0, 10, 17, 23⟩ [] htab (name := "java/util/NoSuchElementException") (fun z hz => by
        rcases List.mem_singleton.mp hz with rfl
        exact ⟨by decide, "java/lang/IndexOutOfBoundsException", wd_1174, by decide +kernel⟩) (by decide) (by decide) wd_1175 wd_1215 (fun q => ?_)
      refine g_astore X [(4, .ref q), (0, .ref (b + 0)), (1, .int (fa_I a1)), (2, .int (fa_I a2)), (3, .ref (b + 237))] d_Law_site_17 (by decide) rfl ?_
      refine g_iconst X d_Law_site_19 ?_
      cases hM
      exact g_wret X (Nat.le_refl 1) (Nat.le_refl 6) d_Law_site_20
    have hM := fa_if_f hM hq1
    exact fa_no hM
def y_Law_split : MethodName := ⟨"FlowApplyLaw", "split", "(LFlowApply;II[J)I"⟩
theorem d_Law_split_0 : decode method_9_code 0 = .ok (.aload_n 3, 1) := by decide +kernel
theorem d_Law_split_1 : decode method_9_code 1 = .ok (.iconst 0, 1) := by decide +kernel
theorem d_Law_split_2 : decode method_9_code 2 = .ok (.aload_n 0, 1) := by decide +kernel
theorem d_Law_split_3 : decode method_9_code 3 = .ok (.iload_n 1, 1) := by decide +kernel
theorem d_Law_split_4 : decode method_9_code 4 = .ok (.iload_n 2, 1) := by decide +kernel
theorem d_Law_split_5 : decode method_9_code 5 = .ok (.invokevirtual 39, 3) := by decide +kernel
theorem d_Law_split_8 : decode method_9_code 8 = .ok (.i2l, 1) := by decide +kernel
theorem d_Law_split_9 : decode method_9_code 9 = .ok (.lastore, 1) := by decide +kernel
theorem d_Law_split_10 : decode method_9_code 10 = .ok (.goto 11, 3) := by decide +kernel
theorem d_Law_split_13 : decode method_9_code 13 = .ok (.astore 4, 2) := by decide +kernel
theorem d_Law_split_15 : decode method_9_code 15 = .ok (.iconst 1, 1) := by decide +kernel
theorem d_Law_split_16 : decode method_9_code 16 = .ok (.ireturn, 1) := by decide +kernel
theorem d_Law_split_17 : decode method_9_code 17 = .ok (.astore 4, 2) := by decide +kernel
theorem d_Law_split_19 : decode method_9_code 19 = .ok (.iconst 2, 1) := by decide +kernel
theorem d_Law_split_20 : decode method_9_code 20 = .ok (.ireturn, 1) := by decide +kernel
theorem d_Law_split_21 : decode method_9_code 21 = .ok (.iconst 0, 1) := by decide +kernel
theorem d_Law_split_22 : decode method_9_code 22 = .ok (.ireturn, 1) := by decide +kernel
def fm_Law_split (a1 : Int) (a2 : Int) (w : fa_W) : Option (Int × fa_W) :=
  (fm_Face_split a1 a2 w).bind fun q => fa_wc q.1 (some (0, fa_st q.2.2 237 0 (fa_wr q.2.1))) (fun k w1 => if k = 2 then some (1, w1) else if k = 3 then some (2, w1) else none) q.2.2
set_option maxHeartbeats 4000000 in
set_option maxRecDepth 100000 in
theorem c_Law_split {l : Launch} {D : va_G} {b : Nat} {aC : Nat → ClassId} {H0 : Heap} {N T : Nat} (hN : fa_NX ≤ N) (hT : fa_TX ≤ T) (hO : 237 < N) (hfl : l.stackTraces = false) (a1 : Int) (a2 : Int) (w : fa_W) (r : Int) (wr : fa_W) (hM : fm_Law_split a1 a2 w = some (r, wr)) : fw_MC l D b aC H0 N T y_Law_split method_9_code 5 [(0, 10, 13, 23), (0, 10, 17, 13)] 8 [.ref (b + 0), .int (fa_I a1), .int (fa_I a2), .ref (b + 237)] w r wr := by
  refine fw_enter (lv := [(0, .ref (b + 0)), (1, .int (fa_I a1)), (2, .int (fa_I a2)), (3, .ref (b + 237))]) (by decide +kernel) (Nat.le_of_ble_eq_true rfl) rfl (fun hh hle htab X => ?_)
  unfold fm_Law_split at hM
  refine g_aload_n X 3 rfl d_Law_split_0 ?_
  refine g_iconst X d_Law_split_1 ?_
  refine g_aload_n X 0 rfl d_Law_split_2 ?_
  refine g_iload_n X 1 rfl d_Law_split_3 ?_
  refine g_iload_n X 2 rfl d_Law_split_4 ?_
  obtain ⟨⟨k, v, w1⟩, e1, hM⟩ := fa_ob hM
  by_cases hk : k = 0
  · subst hk
    have hM := fa_wc_0 hM
    refine g_callV_i X ck_0 fo_0 (fn_0 hN) rfl mi_Face_split (c_Face_split hN hT a1 a2 w _ _ e1) wd_1274 rfl (Nat.le_trans (Nat.le_of_ble_eq_true rfl) hle) (st := [.int (fa_I 0), .ref (b + 237)]) (Nat.le_of_ble_eq_true rfl) rfl d_Law_split_5 ?_
    refine g_i2l X d_Law_split_8 ?_
    refine g_last X (z := fa_wr v) fs_237 hO (by decide) d_Law_split_9 (fun w2 ew2 => ?_)
    subst ew2
    refine g_goto X 21 d_Law_split_10 (by decide) ?_
    refine g_iconst X d_Law_split_21 ?_
    cases hM
    exact g_wret X (Nat.zero_le 1) (Nat.zero_le 6) d_Law_split_22
  · have hM := fa_wc_1 hM hk
    by_cases hq0 : k = 2
    · have hM := fa_if_t hM hq0
      subst hq0
      refine g_xcatch X ck_0 fo_0 (fn_0 hN) rfl mi_Face_split (cx_Face_split hN hT a1 a2 hfl w _ _ _ hk e1) wd_1274 rfl (Nat.le_trans (Nat.le_of_ble_eq_true rfl) hle) (st := [.int (fa_I 0), .ref (b + 237)]) (Nat.le_of_ble_eq_true rfl) rfl d_Law_split_5 [] ⟨0, 10, 13, 23⟩ [⟨0, 10, 17, 13⟩] htab (name := "java/util/NoSuchElementException") (fun z hz => by cases hz) (by decide) (by decide) wd_1175 wd_1215 (fun q => ?_)
      refine g_astore X [(4, .ref q), (0, .ref (b + 0)), (1, .int (fa_I a1)), (2, .int (fa_I a2)), (3, .ref (b + 237))] d_Law_split_13 (by decide) rfl ?_
      refine g_iconst X d_Law_split_15 ?_
      cases hM
      exact g_wret X (Nat.le_refl 1) (Nat.le_refl 6) d_Law_split_16
    have hM := fa_if_f hM hq0
    by_cases hq1 : k = 3
    · have hM := fa_if_t hM hq1
      subst hq1
      refine g_xcatch X ck_0 fo_0 (fn_0 hN) rfl mi_Face_split (cx_Face_split hN hT a1 a2 hfl w _ _ _ hk e1) wd_1274 rfl (Nat.le_trans (Nat.le_of_ble_eq_true rfl) hle) (st := [.int (fa_I 0), .ref (b + 237)]) (Nat.le_of_ble_eq_true rfl) rfl d_Law_split_5 [⟨0, 10, 13, 23⟩] ⟨0, 10, 17, 13⟩ [] htab (name := "java/lang/IllegalArgumentException") (fun z hz => by
        rcases List.mem_singleton.mp hz with rfl
        exact ⟨by decide, "java/util/NoSuchElementException", wd_1175, by decide +kernel⟩) (by decide) (by decide) wd_957 wd_1085 (fun q => ?_)
      refine g_astore X [(4, .ref q), (0, .ref (b + 0)), (1, .int (fa_I a1)), (2, .int (fa_I a2)), (3, .ref (b + 237))] d_Law_split_17 (by decide) rfl ?_
      refine g_iconst X d_Law_split_19 ?_
      cases hM
      exact g_wret X (Nat.le_refl 1) (Nat.le_refl 6) d_Law_split_20
    have hM := fa_if_f hM hq1
    exact fa_no hM
def y_Law_group : MethodName := ⟨"FlowApplyLaw", "group", "(LFlowApply;IIZ[J)I"⟩
theorem d_Law_group_0 : decode method_10_code 0 = .ok (.aload 4, 2) := by decide +kernel
theorem d_Law_group_2 : decode method_10_code 2 = .ok (.iconst 0, 1) := by decide +kernel
theorem d_Law_group_3 : decode method_10_code 3 = .ok (.aload_n 0, 1) := by decide +kernel
theorem d_Law_group_4 : decode method_10_code 4 = .ok (.iload_n 1, 1) := by decide +kernel
theorem d_Law_group_5 : decode method_10_code 5 = .ok (.iload_n 2, 1) := by decide +kernel
theorem d_Law_group_6 : decode method_10_code 6 = .ok (.iload_n 3, 1) := by decide +kernel
theorem d_Law_group_7 : decode method_10_code 7 = .ok (.invokevirtual 42, 3) := by decide +kernel
theorem d_Law_group_10 : decode method_10_code 10 = .ok (.i2l, 1) := by decide +kernel
theorem d_Law_group_11 : decode method_10_code 11 = .ok (.lastore, 1) := by decide +kernel
theorem d_Law_group_12 : decode method_10_code 12 = .ok (.goto 11, 3) := by decide +kernel
theorem d_Law_group_15 : decode method_10_code 15 = .ok (.astore 5, 2) := by decide +kernel
theorem d_Law_group_17 : decode method_10_code 17 = .ok (.iconst 1, 1) := by decide +kernel
theorem d_Law_group_18 : decode method_10_code 18 = .ok (.ireturn, 1) := by decide +kernel
theorem d_Law_group_19 : decode method_10_code 19 = .ok (.astore 5, 2) := by decide +kernel
theorem d_Law_group_21 : decode method_10_code 21 = .ok (.iconst 2, 1) := by decide +kernel
theorem d_Law_group_22 : decode method_10_code 22 = .ok (.ireturn, 1) := by decide +kernel
theorem d_Law_group_23 : decode method_10_code 23 = .ok (.iconst 0, 1) := by decide +kernel
theorem d_Law_group_24 : decode method_10_code 24 = .ok (.ireturn, 1) := by decide +kernel
def fm_Law_group (a1 : Int) (a2 : Int) (a3 : Bool) (w : fa_W) : Option (Int × fa_W) :=
  (fm_Face_group a1 a2 a3 w).bind fun q => fa_wc q.1 (some (0, fa_st q.2.2 237 0 (fa_wr q.2.1))) (fun k w1 => if k = 3 then some (1, w1) else if k = 2 then some (2, w1) else none) q.2.2
set_option maxHeartbeats 4000000 in
set_option maxRecDepth 100000 in
theorem c_Law_group {l : Launch} {D : va_G} {b : Nat} {aC : Nat → ClassId} {H0 : Heap} {N T : Nat} (hN : fa_NX ≤ N) (hT : fa_TX ≤ T) (hO : 237 < N) (hfl : l.stackTraces = false) (a1 : Int) (a2 : Int) (a3 : Bool) (w : fa_W) (r : Int) (wr : fa_W) (hM : fm_Law_group a1 a2 a3 w = some (r, wr)) : fw_MC l D b aC H0 N T y_Law_group method_10_code 6 [(0, 12, 15, 13), (0, 12, 19, 23)] 8 [.ref (b + 0), .int (fa_I a1), .int (fa_I a2), .int (fa_I (fa_bi a3)), .ref (b + 237)] w r wr := by
  refine fw_enter (lv := [(0, .ref (b + 0)), (1, .int (fa_I a1)), (2, .int (fa_I a2)), (3, .int (fa_I (fa_bi a3))), (4, .ref (b + 237))]) (by decide +kernel) (Nat.le_of_ble_eq_true rfl) rfl (fun hh hle htab X => ?_)
  unfold fm_Law_group at hM
  refine g_aload X 4 rfl d_Law_group_0 ?_
  refine g_iconst X d_Law_group_2 ?_
  refine g_aload_n X 0 rfl d_Law_group_3 ?_
  refine g_iload_n X 1 rfl d_Law_group_4 ?_
  refine g_iload_n X 2 rfl d_Law_group_5 ?_
  refine g_iload_n X 3 rfl d_Law_group_6 ?_
  obtain ⟨⟨k, v, w1⟩, e1, hM⟩ := fa_ob hM
  by_cases hk : k = 0
  · subst hk
    have hM := fa_wc_0 hM
    refine g_callV_i X ck_0 fo_0 (fn_0 hN) rfl mi_Face_group (c_Face_group hN hT a1 a2 a3 w _ _ e1) wd_1303 rfl (Nat.le_trans (Nat.le_of_ble_eq_true rfl) hle) (st := [.int (fa_I 0), .ref (b + 237)]) (Nat.le_of_ble_eq_true rfl) rfl d_Law_group_7 ?_
    refine g_i2l X d_Law_group_10 ?_
    refine g_last X (z := fa_wr v) fs_237 hO (by decide) d_Law_group_11 (fun w2 ew2 => ?_)
    subst ew2
    refine g_goto X 23 d_Law_group_12 (by decide) ?_
    refine g_iconst X d_Law_group_23 ?_
    cases hM
    exact g_wret X (Nat.zero_le 1) (Nat.zero_le 6) d_Law_group_24
  · have hM := fa_wc_1 hM hk
    by_cases hq0 : k = 3
    · have hM := fa_if_t hM hq0
      subst hq0
      refine g_xcatch X ck_0 fo_0 (fn_0 hN) rfl mi_Face_group (cx_Face_group hN hT a1 a2 a3 hfl w _ _ _ hk e1) wd_1303 rfl (Nat.le_trans (Nat.le_of_ble_eq_true rfl) hle) (st := [.int (fa_I 0), .ref (b + 237)]) (Nat.le_of_ble_eq_true rfl) rfl d_Law_group_7 [] ⟨0, 12, 15, 13⟩ [⟨0, 12, 19, 23⟩] htab (name := "java/lang/IllegalArgumentException") (fun z hz => by cases hz) (by decide) (by decide) wd_957 wd_1085 (fun q => ?_)
      refine g_astore X [(5, .ref q), (0, .ref (b + 0)), (1, .int (fa_I a1)), (2, .int (fa_I a2)), (3, .int (fa_I (fa_bi a3))), (4, .ref (b + 237))] d_Law_group_15 (by decide) rfl ?_
      refine g_iconst X d_Law_group_17 ?_
      cases hM
      exact g_wret X (Nat.le_refl 1) (Nat.le_refl 6) d_Law_group_18
    have hM := fa_if_f hM hq0
    by_cases hq1 : k = 2
    · have hM := fa_if_t hM hq1
      subst hq1
      refine g_xcatch X ck_0 fo_0 (fn_0 hN) rfl mi_Face_group (cx_Face_group hN hT a1 a2 a3 hfl w _ _ _ hk e1) wd_1303 rfl (Nat.le_trans (Nat.le_of_ble_eq_true rfl) hle) (st := [.int (fa_I 0), .ref (b + 237)]) (Nat.le_of_ble_eq_true rfl) rfl d_Law_group_7 [⟨0, 12, 15, 13⟩] ⟨0, 12, 19, 23⟩ [] htab (name := "java/util/NoSuchElementException") (fun z hz => by
        rcases List.mem_singleton.mp hz with rfl
        exact ⟨by decide, "java/lang/IllegalArgumentException", wd_957, by decide +kernel⟩) (by decide) (by decide) wd_1175 wd_1215 (fun q => ?_)
      refine g_astore X [(5, .ref q), (0, .ref (b + 0)), (1, .int (fa_I a1)), (2, .int (fa_I a2)), (3, .int (fa_I (fa_bi a3))), (4, .ref (b + 237))] d_Law_group_19 (by decide) rfl ?_
      refine g_iconst X d_Law_group_21 ?_
      cases hM
      exact g_wret X (Nat.le_refl 1) (Nat.le_refl 6) d_Law_group_22
    have hM := fa_if_f hM hq1
    exact fa_no hM
def y_Law_run : MethodName := ⟨"FlowApplyLaw", "run", "(LFlowApply;II[J)I"⟩
theorem d_Law_run_0 : decode method_11_code 0 = .ok (.aload_n 3, 1) := by decide +kernel
theorem d_Law_run_1 : decode method_11_code 1 = .ok (.iconst 0, 1) := by decide +kernel
theorem d_Law_run_2 : decode method_11_code 2 = .ok (.aload_n 0, 1) := by decide +kernel
theorem d_Law_run_3 : decode method_11_code 3 = .ok (.iload_n 1, 1) := by decide +kernel
theorem d_Law_run_4 : decode method_11_code 4 = .ok (.iload_n 2, 1) := by decide +kernel
theorem d_Law_run_5 : decode method_11_code 5 = .ok (.invokevirtual 46, 3) := by decide +kernel
theorem d_Law_run_8 : decode method_11_code 8 = .ok (.i2l, 1) := by decide +kernel
theorem d_Law_run_9 : decode method_11_code 9 = .ok (.lastore, 1) := by decide +kernel
theorem d_Law_run_10 : decode method_11_code 10 = .ok (.goto 11, 3) := by decide +kernel
theorem d_Law_run_13 : decode method_11_code 13 = .ok (.astore 4, 2) := by decide +kernel
theorem d_Law_run_15 : decode method_11_code 15 = .ok (.iconst 1, 1) := by decide +kernel
theorem d_Law_run_16 : decode method_11_code 16 = .ok (.ireturn, 1) := by decide +kernel
theorem d_Law_run_17 : decode method_11_code 17 = .ok (.astore 4, 2) := by decide +kernel
theorem d_Law_run_19 : decode method_11_code 19 = .ok (.iconst 2, 1) := by decide +kernel
theorem d_Law_run_20 : decode method_11_code 20 = .ok (.ireturn, 1) := by decide +kernel
theorem d_Law_run_21 : decode method_11_code 21 = .ok (.iconst 0, 1) := by decide +kernel
theorem d_Law_run_22 : decode method_11_code 22 = .ok (.ireturn, 1) := by decide +kernel
def fm_Law_run (a1 : Int) (a2 : Int) (w : fa_W) : Option (Int × fa_W) :=
  (fm_Face_run a1 a2 w).bind fun q => fa_wc q.1 (some (0, fa_st q.2.2 237 0 (fa_wr q.2.1))) (fun k w1 => if k = 3 then some (1, w1) else if k = 2 then some (2, w1) else none) q.2.2
set_option maxHeartbeats 4000000 in
set_option maxRecDepth 100000 in
theorem c_Law_run {l : Launch} {D : va_G} {b : Nat} {aC : Nat → ClassId} {H0 : Heap} {N T : Nat} (hN : fa_NX ≤ N) (hT : fa_TX ≤ T) (hO : 237 < N) (hfl : l.stackTraces = false) (a1 : Int) (a2 : Int) (w : fa_W) (r : Int) (wr : fa_W) (hM : fm_Law_run a1 a2 w = some (r, wr)) : fw_MC l D b aC H0 N T y_Law_run method_11_code 5 [(0, 10, 13, 13), (0, 10, 17, 23)] 8 [.ref (b + 0), .int (fa_I a1), .int (fa_I a2), .ref (b + 237)] w r wr := by
  refine fw_enter (lv := [(0, .ref (b + 0)), (1, .int (fa_I a1)), (2, .int (fa_I a2)), (3, .ref (b + 237))]) (by decide +kernel) (Nat.le_of_ble_eq_true rfl) rfl (fun hh hle htab X => ?_)
  unfold fm_Law_run at hM
  refine g_aload_n X 3 rfl d_Law_run_0 ?_
  refine g_iconst X d_Law_run_1 ?_
  refine g_aload_n X 0 rfl d_Law_run_2 ?_
  refine g_iload_n X 1 rfl d_Law_run_3 ?_
  refine g_iload_n X 2 rfl d_Law_run_4 ?_
  obtain ⟨⟨k, v, w1⟩, e1, hM⟩ := fa_ob hM
  by_cases hk : k = 0
  · subst hk
    have hM := fa_wc_0 hM
    refine g_callV_i X ck_0 fo_0 (fn_0 hN) rfl mi_Face_run (c_Face_run hN hT a1 a2 w _ _ e1) wd_1312 rfl (Nat.le_trans (Nat.le_of_ble_eq_true rfl) hle) (st := [.int (fa_I 0), .ref (b + 237)]) (Nat.le_of_ble_eq_true rfl) rfl d_Law_run_5 ?_
    refine g_i2l X d_Law_run_8 ?_
    refine g_last X (z := fa_wr v) fs_237 hO (by decide) d_Law_run_9 (fun w2 ew2 => ?_)
    subst ew2
    refine g_goto X 21 d_Law_run_10 (by decide) ?_
    refine g_iconst X d_Law_run_21 ?_
    cases hM
    exact g_wret X (Nat.zero_le 1) (Nat.zero_le 6) d_Law_run_22
  · have hM := fa_wc_1 hM hk
    by_cases hq0 : k = 3
    · have hM := fa_if_t hM hq0
      subst hq0
      refine g_xcatch X ck_0 fo_0 (fn_0 hN) rfl mi_Face_run (cx_Face_run hN hT a1 a2 hfl w _ _ _ hk e1) wd_1312 rfl (Nat.le_trans (Nat.le_of_ble_eq_true rfl) hle) (st := [.int (fa_I 0), .ref (b + 237)]) (Nat.le_of_ble_eq_true rfl) rfl d_Law_run_5 [] ⟨0, 10, 13, 13⟩ [⟨0, 10, 17, 23⟩] htab (name := "java/lang/IllegalArgumentException") (fun z hz => by cases hz) (by decide) (by decide) wd_957 wd_1085 (fun q => ?_)
      refine g_astore X [(4, .ref q), (0, .ref (b + 0)), (1, .int (fa_I a1)), (2, .int (fa_I a2)), (3, .ref (b + 237))] d_Law_run_13 (by decide) rfl ?_
      refine g_iconst X d_Law_run_15 ?_
      cases hM
      exact g_wret X (Nat.le_refl 1) (Nat.le_refl 6) d_Law_run_16
    have hM := fa_if_f hM hq0
    by_cases hq1 : k = 2
    · have hM := fa_if_t hM hq1
      subst hq1
      refine g_xcatch X ck_0 fo_0 (fn_0 hN) rfl mi_Face_run (cx_Face_run hN hT a1 a2 hfl w _ _ _ hk e1) wd_1312 rfl (Nat.le_trans (Nat.le_of_ble_eq_true rfl) hle) (st := [.int (fa_I 0), .ref (b + 237)]) (Nat.le_of_ble_eq_true rfl) rfl d_Law_run_5 [⟨0, 10, 13, 13⟩] ⟨0, 10, 17, 23⟩ [] htab (name := "java/util/NoSuchElementException") (fun z hz => by
        rcases List.mem_singleton.mp hz with rfl
        exact ⟨by decide, "java/lang/IllegalArgumentException", wd_957, by decide +kernel⟩) (by decide) (by decide) wd_1175 wd_1215 (fun q => ?_)
      refine g_astore X [(4, .ref q), (0, .ref (b + 0)), (1, .int (fa_I a1)), (2, .int (fa_I a2)), (3, .ref (b + 237))] d_Law_run_17 (by decide) rfl ?_
      refine g_iconst X d_Law_run_19 ?_
      cases hM
      exact g_wret X (Nat.le_refl 1) (Nat.le_refl 6) d_Law_run_20
    have hM := fa_if_f hM hq1
    exact fa_no hM
def y_Law_blame : MethodName := ⟨"FlowApplyLaw", "blame", "(LFlowApply;II[J)I"⟩
theorem d_Law_blame_0 : decode method_12_code 0 = .ok (.aload_n 3, 1) := by decide +kernel
theorem d_Law_blame_1 : decode method_12_code 1 = .ok (.iconst 0, 1) := by decide +kernel
theorem d_Law_blame_2 : decode method_12_code 2 = .ok (.aload_n 0, 1) := by decide +kernel
theorem d_Law_blame_3 : decode method_12_code 3 = .ok (.iload_n 1, 1) := by decide +kernel
theorem d_Law_blame_4 : decode method_12_code 4 = .ok (.iload_n 2, 1) := by decide +kernel
theorem d_Law_blame_5 : decode method_12_code 5 = .ok (.invokevirtual 49, 3) := by decide +kernel
theorem d_Law_blame_8 : decode method_12_code 8 = .ok (.i2l, 1) := by decide +kernel
theorem d_Law_blame_9 : decode method_12_code 9 = .ok (.lastore, 1) := by decide +kernel
theorem d_Law_blame_10 : decode method_12_code 10 = .ok (.goto 7, 3) := by decide +kernel
theorem d_Law_blame_13 : decode method_12_code 13 = .ok (.astore 4, 2) := by decide +kernel
theorem d_Law_blame_15 : decode method_12_code 15 = .ok (.iconst 1, 1) := by decide +kernel
theorem d_Law_blame_16 : decode method_12_code 16 = .ok (.ireturn, 1) := by decide +kernel
theorem d_Law_blame_17 : decode method_12_code 17 = .ok (.iconst 0, 1) := by decide +kernel
theorem d_Law_blame_18 : decode method_12_code 18 = .ok (.ireturn, 1) := by decide +kernel
def fm_Law_blame (a1 : Int) (a2 : Int) (w : fa_W) : Option (Int × fa_W) :=
  (fm_Face_blame a1 a2 w).bind fun q => fa_wc q.1 (some (0, fa_st q.2.2 237 0 (fa_wr q.2.1))) (fun k w1 => if k = 3 then some (1, w1) else none) q.2.2
set_option maxHeartbeats 4000000 in
set_option maxRecDepth 100000 in
theorem c_Law_blame {l : Launch} {D : va_G} {b : Nat} {aC : Nat → ClassId} {H0 : Heap} {N T : Nat} (hN : fa_NX ≤ N) (hT : fa_TX ≤ T) (hO : 237 < N) (hfl : l.stackTraces = false) (a1 : Int) (a2 : Int) (w : fa_W) (r : Int) (wr : fa_W) (hM : fm_Law_blame a1 a2 w = some (r, wr)) : fw_MC l D b aC H0 N T y_Law_blame method_12_code 5 [(0, 10, 13, 13)] 8 [.ref (b + 0), .int (fa_I a1), .int (fa_I a2), .ref (b + 237)] w r wr := by
  refine fw_enter (lv := [(0, .ref (b + 0)), (1, .int (fa_I a1)), (2, .int (fa_I a2)), (3, .ref (b + 237))]) (by decide +kernel) (Nat.le_of_ble_eq_true rfl) rfl (fun hh hle htab X => ?_)
  unfold fm_Law_blame at hM
  refine g_aload_n X 3 rfl d_Law_blame_0 ?_
  refine g_iconst X d_Law_blame_1 ?_
  refine g_aload_n X 0 rfl d_Law_blame_2 ?_
  refine g_iload_n X 1 rfl d_Law_blame_3 ?_
  refine g_iload_n X 2 rfl d_Law_blame_4 ?_
  obtain ⟨⟨k, v, w1⟩, e1, hM⟩ := fa_ob hM
  by_cases hk : k = 0
  · subst hk
    have hM := fa_wc_0 hM
    refine g_callV_i X ck_0 fo_0 (fn_0 hN) rfl mi_Face_blame (c_Face_blame hN hT a1 a2 w _ _ e1) wd_1414 rfl (Nat.le_trans (Nat.le_of_ble_eq_true rfl) hle) (st := [.int (fa_I 0), .ref (b + 237)]) (Nat.le_of_ble_eq_true rfl) rfl d_Law_blame_5 ?_
    refine g_i2l X d_Law_blame_8 ?_
    refine g_last X (z := fa_wr v) fs_237 hO (by decide) d_Law_blame_9 (fun w2 ew2 => ?_)
    subst ew2
    refine g_goto X 17 d_Law_blame_10 (by decide) ?_
    refine g_iconst X d_Law_blame_17 ?_
    cases hM
    exact g_wret X (Nat.zero_le 1) (Nat.zero_le 6) d_Law_blame_18
  · have hM := fa_wc_1 hM hk
    by_cases hq0 : k = 3
    · have hM := fa_if_t hM hq0
      subst hq0
      refine g_xcatch X ck_0 fo_0 (fn_0 hN) rfl mi_Face_blame (cx_Face_blame hN hT a1 a2 hfl w _ _ _ hk e1) wd_1414 rfl (Nat.le_trans (Nat.le_of_ble_eq_true rfl) hle) (st := [.int (fa_I 0), .ref (b + 237)]) (Nat.le_of_ble_eq_true rfl) rfl d_Law_blame_5 [] ⟨0, 10, 13, 13⟩ [] htab (name := "java/lang/IllegalArgumentException") (fun z hz => by cases hz) (by decide) (by decide) wd_957 wd_1085 (fun q => ?_)
      refine g_astore X [(4, .ref q), (0, .ref (b + 0)), (1, .int (fa_I a1)), (2, .int (fa_I a2)), (3, .ref (b + 237))] d_Law_blame_13 (by decide) rfl ?_
      refine g_iconst X d_Law_blame_15 ?_
      cases hM
      exact g_wret X (Nat.le_refl 1) (Nat.le_refl 6) d_Law_blame_16
    have hM := fa_if_f hM hq0
    exact fa_no hM
def y_Law_form : MethodName := ⟨"FlowApplyLaw", "form", "(LFlowApply;I[J)I"⟩
theorem d_Law_form_0 : decode method_13_code 0 = .ok (.aload_n 2, 1) := by decide +kernel
theorem d_Law_form_1 : decode method_13_code 1 = .ok (.iconst 0, 1) := by decide +kernel
theorem d_Law_form_2 : decode method_13_code 2 = .ok (.aload_n 0, 1) := by decide +kernel
theorem d_Law_form_3 : decode method_13_code 3 = .ok (.iload_n 1, 1) := by decide +kernel
theorem d_Law_form_4 : decode method_13_code 4 = .ok (.invokevirtual 52, 3) := by decide +kernel
theorem d_Law_form_7 : decode method_13_code 7 = .ok (.i2l, 1) := by decide +kernel
theorem d_Law_form_8 : decode method_13_code 8 = .ok (.lastore, 1) := by decide +kernel
theorem d_Law_form_9 : decode method_13_code 9 = .ok (.goto 6, 3) := by decide +kernel
theorem d_Law_form_12 : decode method_13_code 12 = .ok (.astore_n 3, 1) := by decide +kernel
theorem d_Law_form_13 : decode method_13_code 13 = .ok (.iconst 1, 1) := by decide +kernel
theorem d_Law_form_14 : decode method_13_code 14 = .ok (.ireturn, 1) := by decide +kernel
theorem d_Law_form_15 : decode method_13_code 15 = .ok (.iconst 0, 1) := by decide +kernel
theorem d_Law_form_16 : decode method_13_code 16 = .ok (.ireturn, 1) := by decide +kernel
def fm_Law_form (a1 : Int) (w : fa_W) : Option (Int × fa_W) :=
  (fm_Face_form a1 w).bind fun q => fa_wc q.1 (some (0, fa_st q.2.2 237 0 (fa_wr q.2.1))) (fun k w1 => if k = 3 then some (1, w1) else none) q.2.2
set_option maxHeartbeats 4000000 in
set_option maxRecDepth 100000 in
theorem c_Law_form {l : Launch} {D : va_G} {b : Nat} {aC : Nat → ClassId} {H0 : Heap} {N T : Nat} (hN : fa_NX ≤ N) (hT : fa_TX ≤ T) (hO : 237 < N) (hfl : l.stackTraces = false) (a1 : Int) (w : fa_W) (r : Int) (wr : fa_W) (hM : fm_Law_form a1 w = some (r, wr)) : fw_MC l D b aC H0 N T y_Law_form method_13_code 4 [(0, 9, 12, 13)] 10 [.ref (b + 0), .int (fa_I a1), .ref (b + 237)] w r wr := by
  refine fw_enter (lv := [(0, .ref (b + 0)), (1, .int (fa_I a1)), (2, .ref (b + 237))]) (by decide +kernel) (Nat.le_of_ble_eq_true rfl) rfl (fun hh hle htab X => ?_)
  unfold fm_Law_form at hM
  refine g_aload_n X 2 rfl d_Law_form_0 ?_
  refine g_iconst X d_Law_form_1 ?_
  refine g_aload_n X 0 rfl d_Law_form_2 ?_
  refine g_iload_n X 1 rfl d_Law_form_3 ?_
  obtain ⟨⟨k, v, w1⟩, e1, hM⟩ := fa_ob hM
  by_cases hk : k = 0
  · subst hk
    have hM := fa_wc_0 hM
    refine g_callV_i X ck_0 fo_0 (fn_0 hN) rfl mi_Face_form (c_Face_form hN hT a1 w _ _ e1) wd_1425 rfl (Nat.le_trans (Nat.le_of_ble_eq_true rfl) hle) (st := [.int (fa_I 0), .ref (b + 237)]) (Nat.le_of_ble_eq_true rfl) rfl d_Law_form_4 ?_
    refine g_i2l X d_Law_form_7 ?_
    refine g_last X (z := fa_wr v) fs_237 hO (by decide) d_Law_form_8 (fun w2 ew2 => ?_)
    subst ew2
    refine g_goto X 15 d_Law_form_9 (by decide) ?_
    refine g_iconst X d_Law_form_15 ?_
    cases hM
    exact g_wret X (Nat.zero_le 1) (Nat.zero_le 6) d_Law_form_16
  · have hM := fa_wc_1 hM hk
    by_cases hq0 : k = 3
    · have hM := fa_if_t hM hq0
      subst hq0
      refine g_xcatch X ck_0 fo_0 (fn_0 hN) rfl mi_Face_form (cx_Face_form hN hT a1 hfl w _ _ _ hk e1) wd_1425 rfl (Nat.le_trans (Nat.le_of_ble_eq_true rfl) hle) (st := [.int (fa_I 0), .ref (b + 237)]) (Nat.le_of_ble_eq_true rfl) rfl d_Law_form_4 [] ⟨0, 9, 12, 13⟩ [] htab (name := "java/lang/IllegalArgumentException") (fun z hz => by cases hz) (by decide) (by decide) wd_957 wd_1085 (fun q => ?_)
      refine g_astore_n X [(3, .ref q), (0, .ref (b + 0)), (1, .int (fa_I a1)), (2, .ref (b + 237))] d_Law_form_12 (by decide) rfl ?_
      refine g_iconst X d_Law_form_13 ?_
      cases hM
      exact g_wret X (Nat.le_refl 1) (Nat.le_refl 6) d_Law_form_14
    have hM := fa_if_f hM hq0
    exact fa_no hM
def y_Law_ring : MethodName := ⟨"FlowApplyLaw", "ring", "(LFlowApply;I[J)I"⟩
theorem d_Law_ring_0 : decode method_14_code 0 = .ok (.aload_n 2, 1) := by decide +kernel
theorem d_Law_ring_1 : decode method_14_code 1 = .ok (.iconst 0, 1) := by decide +kernel
theorem d_Law_ring_2 : decode method_14_code 2 = .ok (.aload_n 0, 1) := by decide +kernel
theorem d_Law_ring_3 : decode method_14_code 3 = .ok (.iload_n 1, 1) := by decide +kernel
theorem d_Law_ring_4 : decode method_14_code 4 = .ok (.invokevirtual 55, 3) := by decide +kernel
theorem d_Law_ring_7 : decode method_14_code 7 = .ok (.i2l, 1) := by decide +kernel
theorem d_Law_ring_8 : decode method_14_code 8 = .ok (.lastore, 1) := by decide +kernel
theorem d_Law_ring_9 : decode method_14_code 9 = .ok (.goto 6, 3) := by decide +kernel
theorem d_Law_ring_12 : decode method_14_code 12 = .ok (.astore_n 3, 1) := by decide +kernel
theorem d_Law_ring_13 : decode method_14_code 13 = .ok (.iconst 1, 1) := by decide +kernel
theorem d_Law_ring_14 : decode method_14_code 14 = .ok (.ireturn, 1) := by decide +kernel
theorem d_Law_ring_15 : decode method_14_code 15 = .ok (.iconst 0, 1) := by decide +kernel
theorem d_Law_ring_16 : decode method_14_code 16 = .ok (.ireturn, 1) := by decide +kernel
def fm_Law_ring (a1 : Int) (w : fa_W) : Option (Int × fa_W) :=
  (fm_Face_ring a1 w).bind fun q => fa_wc q.1 (some (0, fa_st q.2.2 237 0 (fa_wr q.2.1))) (fun k w1 => if k = 1 then some (1, w1) else none) q.2.2
set_option maxHeartbeats 4000000 in
set_option maxRecDepth 100000 in
theorem c_Law_ring {l : Launch} {D : va_G} {b : Nat} {aC : Nat → ClassId} {H0 : Heap} {N T : Nat} (hN : fa_NX ≤ N) (hT : fa_TX ≤ T) (hO : 237 < N) (hfl : l.stackTraces = false) (a1 : Int) (w : fa_W) (r : Int) (wr : fa_W) (hM : fm_Law_ring a1 w = some (r, wr)) : fw_MC l D b aC H0 N T y_Law_ring method_14_code 4 [(0, 9, 12, 21)] 7 [.ref (b + 0), .int (fa_I a1), .ref (b + 237)] w r wr := by
  refine fw_enter (lv := [(0, .ref (b + 0)), (1, .int (fa_I a1)), (2, .ref (b + 237))]) (by decide +kernel) (Nat.le_of_ble_eq_true rfl) rfl (fun hh hle htab X => ?_)
  unfold fm_Law_ring at hM
  refine g_aload_n X 2 rfl d_Law_ring_0 ?_
  refine g_iconst X d_Law_ring_1 ?_
  refine g_aload_n X 0 rfl d_Law_ring_2 ?_
  refine g_iload_n X 1 rfl d_Law_ring_3 ?_
  obtain ⟨⟨k, v, w1⟩, e1, hM⟩ := fa_ob hM
  by_cases hk : k = 0
  · subst hk
    have hM := fa_wc_0 hM
    refine g_callV_i X ck_0 fo_0 (fn_0 hN) rfl mi_Face_ring (c_Face_ring hN hT a1 w _ _ e1) wd_1446 rfl (Nat.le_trans (Nat.le_of_ble_eq_true rfl) hle) (st := [.int (fa_I 0), .ref (b + 237)]) (Nat.le_of_ble_eq_true rfl) rfl d_Law_ring_4 ?_
    refine g_i2l X d_Law_ring_7 ?_
    refine g_last X (z := fa_wr v) fs_237 hO (by decide) d_Law_ring_8 (fun w2 ew2 => ?_)
    subst ew2
    refine g_goto X 15 d_Law_ring_9 (by decide) ?_
    refine g_iconst X d_Law_ring_15 ?_
    cases hM
    exact g_wret X (Nat.zero_le 1) (Nat.zero_le 6) d_Law_ring_16
  · have hM := fa_wc_1 hM hk
    by_cases hq0 : k = 1
    · have hM := fa_if_t hM hq0
      subst hq0
      refine g_xcatch X ck_0 fo_0 (fn_0 hN) rfl mi_Face_ring (cx_Face_ring hN hT a1 hfl w _ _ _ hk e1) wd_1446 rfl (Nat.le_trans (Nat.le_of_ble_eq_true rfl) hle) (st := [.int (fa_I 0), .ref (b + 237)]) (Nat.le_of_ble_eq_true rfl) rfl d_Law_ring_4 [] ⟨0, 9, 12, 21⟩ [] htab (name := "java/lang/IndexOutOfBoundsException") (fun z hz => by cases hz) (by decide) (by decide) wd_1174 wd_1186 (fun q => ?_)
      refine g_astore_n X [(3, .ref q), (0, .ref (b + 0)), (1, .int (fa_I a1)), (2, .ref (b + 237))] d_Law_ring_12 (by decide) rfl ?_
      refine g_iconst X d_Law_ring_13 ?_
      cases hM
      exact g_wret X (Nat.le_refl 1) (Nat.le_refl 6) d_Law_ring_14
    have hM := fa_if_f hM hq0
    exact fa_no hM
def y_Law_far : MethodName := ⟨"FlowApplyLaw", "far", "(LFlowApply;II[J)I"⟩
theorem d_Law_far_0 : decode method_15_code 0 = .ok (.aload_n 3, 1) := by decide +kernel
theorem d_Law_far_1 : decode method_15_code 1 = .ok (.iconst 0, 1) := by decide +kernel
theorem d_Law_far_2 : decode method_15_code 2 = .ok (.aload_n 0, 1) := by decide +kernel
theorem d_Law_far_3 : decode method_15_code 3 = .ok (.iload_n 1, 1) := by decide +kernel
theorem d_Law_far_4 : decode method_15_code 4 = .ok (.iload_n 2, 1) := by decide +kernel
theorem d_Law_far_5 : decode method_15_code 5 = .ok (.invokevirtual 58, 3) := by decide +kernel
theorem d_Law_far_8 : decode method_15_code 8 = .ok (.i2l, 1) := by decide +kernel
theorem d_Law_far_9 : decode method_15_code 9 = .ok (.lastore, 1) := by decide +kernel
theorem d_Law_far_10 : decode method_15_code 10 = .ok (.goto 7, 3) := by decide +kernel
theorem d_Law_far_13 : decode method_15_code 13 = .ok (.astore 4, 2) := by decide +kernel
theorem d_Law_far_15 : decode method_15_code 15 = .ok (.iconst 1, 1) := by decide +kernel
theorem d_Law_far_16 : decode method_15_code 16 = .ok (.ireturn, 1) := by decide +kernel
theorem d_Law_far_17 : decode method_15_code 17 = .ok (.iconst 0, 1) := by decide +kernel
theorem d_Law_far_18 : decode method_15_code 18 = .ok (.ireturn, 1) := by decide +kernel
def fm_Law_far (a1 : Int) (a2 : Int) (w : fa_W) : Option (Int × fa_W) :=
  (fm_Face_far a1 a2 w).bind fun q => fa_wc q.1 (some (0, fa_st q.2.2 237 0 (fa_wr q.2.1))) (fun k w1 => if k = 1 then some (1, w1) else none) q.2.2
set_option maxHeartbeats 4000000 in
set_option maxRecDepth 100000 in
theorem c_Law_far {l : Launch} {D : va_G} {b : Nat} {aC : Nat → ClassId} {H0 : Heap} {N T : Nat} (hN : fa_NX ≤ N) (hT : fa_TX ≤ T) (hO : 237 < N) (hfl : l.stackTraces = false) (a1 : Int) (a2 : Int) (w : fa_W) (r : Int) (wr : fa_W) (hM : fm_Law_far a1 a2 w = some (r, wr)) : fw_MC l D b aC H0 N T y_Law_far method_15_code 5 [(0, 10, 13, 21)] 8 [.ref (b + 0), .int (fa_I a1), .int (fa_I a2), .ref (b + 237)] w r wr := by
  refine fw_enter (lv := [(0, .ref (b + 0)), (1, .int (fa_I a1)), (2, .int (fa_I a2)), (3, .ref (b + 237))]) (by decide +kernel) (Nat.le_of_ble_eq_true rfl) rfl (fun hh hle htab X => ?_)
  unfold fm_Law_far at hM
  refine g_aload_n X 3 rfl d_Law_far_0 ?_
  refine g_iconst X d_Law_far_1 ?_
  refine g_aload_n X 0 rfl d_Law_far_2 ?_
  refine g_iload_n X 1 rfl d_Law_far_3 ?_
  refine g_iload_n X 2 rfl d_Law_far_4 ?_
  obtain ⟨⟨k, v, w1⟩, e1, hM⟩ := fa_ob hM
  by_cases hk : k = 0
  · subst hk
    have hM := fa_wc_0 hM
    refine g_callV_i X ck_0 fo_0 (fn_0 hN) rfl mi_Face_far (c_Face_far hN hT a1 a2 w _ _ e1) wd_1454 rfl (Nat.le_trans (Nat.le_of_ble_eq_true rfl) hle) (st := [.int (fa_I 0), .ref (b + 237)]) (Nat.le_of_ble_eq_true rfl) rfl d_Law_far_5 ?_
    refine g_i2l X d_Law_far_8 ?_
    refine g_last X (z := fa_wr v) fs_237 hO (by decide) d_Law_far_9 (fun w2 ew2 => ?_)
    subst ew2
    refine g_goto X 17 d_Law_far_10 (by decide) ?_
    refine g_iconst X d_Law_far_17 ?_
    cases hM
    exact g_wret X (Nat.zero_le 1) (Nat.zero_le 6) d_Law_far_18
  · have hM := fa_wc_1 hM hk
    by_cases hq0 : k = 1
    · have hM := fa_if_t hM hq0
      subst hq0
      refine g_xcatch X ck_0 fo_0 (fn_0 hN) rfl mi_Face_far (cx_Face_far hN hT a1 a2 hfl w _ _ _ hk e1) wd_1454 rfl (Nat.le_trans (Nat.le_of_ble_eq_true rfl) hle) (st := [.int (fa_I 0), .ref (b + 237)]) (Nat.le_of_ble_eq_true rfl) rfl d_Law_far_5 [] ⟨0, 10, 13, 21⟩ [] htab (name := "java/lang/IndexOutOfBoundsException") (fun z hz => by cases hz) (by decide) (by decide) wd_1174 wd_1186 (fun q => ?_)
      refine g_astore X [(4, .ref q), (0, .ref (b + 0)), (1, .int (fa_I a1)), (2, .int (fa_I a2)), (3, .ref (b + 237))] d_Law_far_13 (by decide) rfl ?_
      refine g_iconst X d_Law_far_15 ?_
      cases hM
      exact g_wret X (Nat.le_refl 1) (Nat.le_refl 6) d_Law_far_16
    have hM := fa_if_f hM hq0
    exact fa_no hM
