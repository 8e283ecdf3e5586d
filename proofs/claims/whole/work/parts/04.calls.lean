/-! CONTRACTS AND CALLS over the world -/
section FaCalls
variable {p : Program} {l : Launch} {e : Env} {R : Room} {s : State} {m : MethodId} {args : Array Value} {below : List Frame} {meth : Method} {c : Code} {cells slots : Nat} {Q : State → Prop}
variable {D : va_G} {b : Nat} {aC : Nat → ClassId} {H0 : Heap} {N T : Nat} {cc : ByteArray} {nL : Nat} {ret : Option FieldType} {own : String} {w w1 : fa_W} {pc : Nat} {lv : List (Nat × Value)} {st : List Value}
def fa_rmc (h mc ms : Nat) : Room := { frames := h, cells := mc, slots := ms, locals := 40 * h }
abbrev fa_rm (h : Nat) : Room := fa_rmc h 0 0
def fa_Qc (D : va_G) (b : Nat) (aC : Nat → ClassId) (H0 : Heap) (N T : Nat) (ov : Option Value) (w1 : fa_W) : Array Value → State → Outcome → State → Prop := fun _ st oc t => oc = .returned ov ∧ fa_GS D b aC H0 N T w1 t.heap ∧ va_F (fun q => b ≤ q) st t
def fa_Pc (D : va_G) (b : Nat) (aC : Nat → ClassId) (H0 : Heap) (N T : Nat) (as : List Value) (w : fa_W) : Array Value → State → Prop := va_Pc as (fun U => fa_GS D b aC H0 N T w U.heap ∧ fa_GK D b aC U)
/-- a method's contract: from the world w, with these arguments, it answers ov and leaves w1 -/
def fa_MC (l : Launch) (D : va_G) (b : Nat) (aC : Nat → ClassId) (H0 : Heap) (N T : Nat) (y : MethodName) (cc : ByteArray) (nL : Nat) (ret : Option FieldType) (hg : Nat) (as : List Value) (w : fa_W) (ov : Option Value) (w1 : fa_W) : Prop :=
  ∀ hh, hg ≤ hh → Met l y (.code y cc nL ret :: fa_wG) (fa_rm hh) (fa_Pc D b aC H0 N T as w) (fa_Qc D b aC H0 N T ov w1) 0 0 (fun q => b ≤ q)
theorem fa_GK.move {U : State} (h : fa_GK D b aC s) (hW : s.WarmedH U.vm) {H : Heap} {locs : List Loc} (hS : va_S (fun q => b ≤ q) s.heap H locs) (hH : U.heap = H) : fa_GK D b aC U := by
  refine ⟨va_K.moved hW.alike h.1, fun w hw => ?_, ?_, fun r hr => vk_R.warm hW (h.2.2.2.1 r hr), fun q hq => va_Nc.moved hW.alike (h.2.2.2.2 q hq)⟩
  · have h1 := h.2.1 w hw
    have h2 : fa_nest.all (fun w => match w with | .fieldLinkNest _ _ _ _ _ _ => true | .methodLinkNest _ _ _ _ => true | .declares _ => true | .castable _ _ => true | _ => false) = true := by decide +kernel
    have h3 := List.all_eq_true.mp h2 w hw
    split at h3
    · exact va_Nw.warmF hW h1
    · exact va_Nw.warmM hW h1
    · exact va_Nw.warmD hW h1
    · exact va_Nw.warmC hW h1
    · cases h3
  · rw [hH]
    exact fa_GH.moved hW.alike (fa_GH.kept h.2.2.1 (fun a ha hb => hS.2.1 a ha hb))
theorem fa_GK.calling {U : State} {g : JFrame} {mk : MethodId} {a : Array Value} (h : fa_GK D b aC U) : fa_GK D b aC (U.calling g mk a) := by
  refine ⟨va_K.moved (u := U) (U := U.calling g mk a) (Vm.Alike.refl U.vm) h.1, fun w hw => ?_, fa_GH.moved (u := U) (U := U.calling g mk a) (Vm.Alike.refl U.vm) h.2.2.1, fun r hr => vk_R.same (u := U) (U := U.calling g mk a) rfl (h.2.2.2.1 r hr), fun q hq => va_Nc.moved (u := U) (U := U.calling g mk a) (Vm.Alike.refl U.vm) (h.2.2.2.2 q hq)⟩
  have h1 := h.2.1 w hw
  have h2 : fa_nest.all (fun w => w.onTables) = true := by decide +kernel
  exact va_Nw.same (List.all_eq_true.mp h2 w hw) (u := U) (U := U.calling g mk a) rfl h1
theorem fa_blind {as : List Value} : FrameBlind (fa_Pc D b aC H0 N T as w) := fun _ _ _ _ h => ⟨h.1, h.2.1, h.2.2.calling⟩
theorem fa_enter {y : MethodName} {hg : Nat} {as : List Value} {ov : Option Value} (hy : plainName y.cls = true) (hlen : (lg_sl as).length ≤ nL) (hlv : lv_args 0 as = lv)
    (body : ∀ {p : Program} {e : Env} {s : State} {m : MethodId} {below : List Frame} {meth : Method} {c : Code} (hh : Nat), hg ≤ hh → (y.name = meth.name) → fa_GX p s m as.toArray meth c cc nL ret y.cls D b aC →
      fa_GJ p l e (fa_rm hh) s m as.toArray below meth c 0 0 (MQ below (fa_Qc D b aC H0 N T ov w1) as.toArray s 0 0 (fun q => b ≤ q)) D b aC H0 N T nL w 0 lv []) : fa_MC l D b aC H0 N T y cc nL ret hg as w ov w1 := by
  intro hh hle
  refine Met.ofW (cc := cc) (maxL := nL) (ret := ret) hy rfl ?_
  intro p e s m args below meth c s₁ B hml hv
  obtain ⟨rfl, hGS, hGK⟩ := hv
  have hts := atoms_spec (ws := .code y cc nL ret :: fa_wG) B.pre
  have hl := lv_entry as hlen
  rw [hlv] at hl
  rw [lg_entry_eq]
  exact body hh hle (name_of_methodNamed B.named B.method).1.symm ⟨⟨B.exec, B.bytes, hml, findClass_of_methodNamed B.named, fun w hw => hts w (List.mem_cons_of_mem _ hw)⟩, B.notSynchronized, B.returns, hGK, Nat.le_trans (Nat.le_add_right _ _) hGS.2.1⟩ s.heap [] _ hGS va_S.rf hl
def fa_MB (y : MethodName) (bytes : ByteArray) (maxL : Nat) (ret : Option FieldType) (n : Nat) : Prop :=
  Cond.code y bytes maxL ret ∈ fa_wG ∧ Cond.initialized y.cls ∈ fa_wG ∧ (y.cls ≠ "java/lang/invoke/MethodHandle" ∧ y.cls ≠ "java/lang/invoke/VarHandle" ∧ (parseMethodDescriptor y.desc).map (fun d => d.parameters.length) = some n) ∧ maxL ≤ 21
/-- an instance's method -/
def fa_MI (y : MethodName) (bytes : ByteArray) (maxL : Nat) (ret : Option FieldType) (n : Nat) : Prop :=
  fa_MB y bytes maxL ret n ∧ Cond.instanceMethod y ∈ fa_wG ∧ Cond.selects y.cls y y ∈ fa_wG
/-- a static one -/
def fa_MS (y : MethodName) (bytes : ByteArray) (maxL : Nat) (ret : Option FieldType) (n : Nat) : Prop :=
  fa_MB y bytes maxL ret n ∧ Cond.static y ∈ fa_wG
/-- a constructor -/
def fa_MN (y : MethodName) (bytes : ByteArray) (maxL : Nat) (n : Nat) : Prop :=
  fa_MB y bytes maxL none n ∧ Cond.instanceMethod y ∈ fa_wG ∧ y.name = "<init>"
theorem fa_goodC {y : MethodName} {bytes : ByteArray} {maxL : Nat} {ret : Option FieldType} (h : Cond.code y bytes maxL ret ∈ fa_wG) : GoodIn fa_wG (.code y bytes maxL ret :: fa_wG) := fun w hw => fa_good w (by
  rcases List.mem_cons.mp hw with rfl | q
  · exact h
  · exact q)
theorem fa_room {hh hg maxL mc ms mc' ms' : Nat} (h : hg + 1 ≤ hh) (hm : maxL ≤ 21) : (fa_rmc hg mc' ms').frames + 1 ≤ (fa_rmc hh mc ms).frames ∧ 8 + (maxL + 11) + (fa_rmc hg mc' ms').locals ≤ (fa_rmc hh mc ms).locals := by
  unfold fa_rmc
  constructor
  · exact h
  · show 8 + (maxL + 11) + 40 * hg ≤ 40 * hh
    omega
theorem fa_go {H : Heap} {locs : List Loc} {ls : Array Slot} {st0 : List Value} {ov : Option Value} {a : Array Value} (X : fa_GX p s m args meth c cc nL ret own D b aC) (hr : va_Run p l e R s m args below meth c H locs cells slots 0 0 (F0 m pc ls st0) st (fa_Qc D b aC H0 N T ov w1 a) (fun q => b ≤ q)) (hS : va_S (fun q => b ≤ q) s.heap H locs) (hl : lv_has ls nL lv)
    (k : fa_GJ p l e R s m args below meth c cells slots Q D b aC H0 N T nL w1 (pc + 3) lv (ov.toList ++ st)) : W p l e R s m args below meth c H locs cells slots Q (F0 m pc ls st0) := by
  intro U hU Y
  obtain ⟨v, st₀, t, T', L, h0, X', hL, e1, e2, ⟨hv, hP, hz, hk⟩, goes⟩ := hr U hU Y
  cases hv
  rw [h0] at hz hk
  have hS' : va_S (fun q => b ≤ q) s.heap T'.heap (locs ++ L) := ⟨Nat.le_trans hS.1 (by rw [e1]; exact hz), fun q h1 h2 => by rw [e1, hk q (Nat.lt_of_lt_of_le h1 hS.1) h2]; exact hS.2.1 q h1 h2, fun q hq => by
    rcases List.mem_append.mp hq with h | h
    · exact hS.2.2 q h
    · exact hL q h⟩
  obtain ⟨t2, a1, b1⟩ := k T'.heap (locs ++ L) ls (by rw [e1]; exact hP) hS' hl T' rfl X'
  exact ⟨t2, goes t2 a1, b1⟩
theorem fa_recv {ci n : Nat} {C : String} {F : u_T} {ty : Nat → FieldType} (ck : fa_CK ci C F n ty) {o : Nat} {H : Heap} (ho : (fa_sh o).1 = ci) (hN : o < N) (hK : fa_GK D b aC s) (hP : fa_GS D b aC H0 N T w H) : ∃ cellB : Cell, H[b + o]? = some cellB ∧ cellB.vm.isStatics = false ∧ s.vm.findClass C = some cellB.cls :=
  va_recv hK.1 hP.1 ck.2.2.1 (fa_GS_at hP ho ck.1 hN)
theorem g_callV (X : fa_GX p s m args meth c cc nL ret own D b aC) {ci nn : Nat} {C : String} {F : u_T} {ty : Nat → FieldType} (ck : fa_CK ci C F nn ty) {o : Nat} (ho : (fa_sh o).1 = ci) (hN : o < N) {y : MethodName} {bytes : ByteArray} {maxL n hg hh idx mc ms : Nat} {retM : Option FieldType} {As : List Value} {ov : Option Value} (hC : y.cls = C) (hI : fa_MI y bytes maxL retM n) (hM : fa_MC l D b aC H0 N T y bytes maxL retM hg (.ref (b + o) :: As) w ov w1) (hw : Cond.methodLink own idx y ∈ fa_wG) (hn : As.length = n) (hg' : hg + 1 ≤ hh) (hs : ((st.map fun v => v.category).sum ≤ 8)) {st0 : List Value} (he : st0 = As.reverse ++ .ref (b + o) :: st) (hd : decode cc pc = .ok (.invokevirtual idx, 3)) (hc1 : cells ≤ mc) (hc2 : slots ≤ ms)
    (k : fa_GJ p l e (fa_rmc hh mc ms) s m args below meth c cells slots Q D b aC H0 N T nL w1 (pc + 3) lv (ov.toList ++ st)) : fa_GJ p l e (fa_rmc hh mc ms) s m args below meth c cells slots Q D b aC H0 N T nL w pc lv st0 := fun H locs ls hP hS hl => by
  subst he
  subst hC
  obtain ⟨⟨i1, i2, i3, i4⟩, i5, i6⟩ := hI
  exact fa_go X (va_runV X.1 (hM hg (Nat.le_refl _)) ⟨callB_of n X.1.2.2.2.2 (fa_goodC i1) rfl rfl rfl (X.1.2.2.2.2 _ i2) (X.1.2.2.2.2 _ hw) i3 (fa_room hg' i4), X.1.2.2.2.2 _ i5, X.1.2.2.2.2 _ i6⟩ ⟨fa_blind, fa_recv ck ho hN X.2.2.2.1 hP, fun U hU hW => ⟨rfl, by rw [hU]; exact hP, X.2.2.2.1.move hW hS hU⟩⟩ rfl hn hl.1 rfl (lv_room hs) hd ⟨hc1, hc2⟩) hS hl k
theorem g_callVN (X : fa_GX p s m args meth c cc nL ret own D b aC) {ci nn : Nat} {C host : String} {F : u_T} {ty : Nat → FieldType} (ck : fa_CK ci C F nn ty) {o : Nat} (ho : (fa_sh o).1 = ci) (hN : o < N) {y : MethodName} {bytes : ByteArray} {maxL n hg hh idx mc ms : Nat} {retM : Option FieldType} {As : List Value} {ov : Option Value} (hC : y.cls = C) (hI : fa_MI y bytes maxL retM n) (hM : fa_MC l D b aC H0 N T y bytes maxL retM hg (.ref (b + o) :: As) w ov w1) (hw : Cond.methodLinkNest own idx y host ∈ fa_nest) (hn : As.length = n) (hg' : hg + 1 ≤ hh) (hs : ((st.map fun v => v.category).sum ≤ 8)) {st0 : List Value} (he : st0 = As.reverse ++ .ref (b + o) :: st) (hd : decode cc pc = .ok (.invokevirtual idx, 3)) (hc1 : cells ≤ mc) (hc2 : slots ≤ ms)
    (k : fa_GJ p l e (fa_rmc hh mc ms) s m args below meth c cells slots Q D b aC H0 N T nL w1 (pc + 3) lv (ov.toList ++ st)) : fa_GJ p l e (fa_rmc hh mc ms) s m args below meth c cells slots Q D b aC H0 N T nL w pc lv st0 := fun H locs ls hP hS hl => by
  subst he
  subst hC
  obtain ⟨⟨i1, i2, i3, i4⟩, i5, i6⟩ := hI
  exact fa_go X (va_runVN X.1 (hM hg (Nat.le_refl _)) ⟨va_cnB n X.1.2.2.2.2 (fa_goodC i1) rfl rfl rfl (X.2.2.2.1.2.1 _ hw) (X.1.2.2.2.2 _ i2) i3 (fa_room hg' i4), X.1.2.2.2.2 _ i5, X.1.2.2.2.2 _ i6⟩ ⟨fa_blind, fa_recv ck ho hN X.2.2.2.1 hP, fun U hU hW => ⟨rfl, by rw [hU]; exact hP, X.2.2.2.1.move hW hS hU⟩⟩ rfl hn hl.1 rfl (lv_room hs) hd ⟨hc1, hc2⟩) hS hl k
theorem g_callS (X : fa_GX p s m args meth c cc nL ret own D b aC) {y : MethodName} {bytes : ByteArray} {maxL n hg hh idx mc ms : Nat} {retM : Option FieldType} {As : List Value} {ov : Option Value} (hI : fa_MS y bytes maxL retM n) (hM : fa_MC l D b aC H0 N T y bytes maxL retM hg As w ov w1) (hw : Cond.methodLink own idx y ∈ fa_wG) (hn : As.length = n) (hg' : hg + 1 ≤ hh) (hs : ((st.map fun v => v.category).sum ≤ 8)) {st0 : List Value} (he : st0 = As.reverse ++ st) (hd : decode cc pc = .ok (.invokestatic idx, 3)) (hc1 : cells ≤ mc) (hc2 : slots ≤ ms)
    (k : fa_GJ p l e (fa_rmc hh mc ms) s m args below meth c cells slots Q D b aC H0 N T nL w1 (pc + 3) lv (ov.toList ++ st)) : fa_GJ p l e (fa_rmc hh mc ms) s m args below meth c cells slots Q D b aC H0 N T nL w pc lv st0 := fun H locs ls hP hS hl => by
  subst he
  obtain ⟨⟨i1, i2, i3, i4⟩, i5⟩ := hI
  exact fa_go X (va_runS X.1 (hM hg (Nat.le_refl _)) ⟨callB_of n X.1.2.2.2.2 (fa_goodC i1) rfl rfl rfl (X.1.2.2.2.2 _ i2) (X.1.2.2.2.2 _ hw) i3 (fa_room hg' i4), X.1.2.2.2.2 _ i5⟩ ⟨fa_blind, fun U hU hW => ⟨rfl, by rw [hU]; exact hP, X.2.2.2.1.move hW hS hU⟩⟩ rfl hn hl.1 rfl (lv_room hs) hd ⟨hc1, hc2⟩) hS hl k
theorem g_callSN (X : fa_GX p s m args meth c cc nL ret own D b aC) {host : String} {y : MethodName} {bytes : ByteArray} {maxL n hg hh idx mc ms : Nat} {retM : Option FieldType} {As : List Value} {ov : Option Value} (hI : fa_MS y bytes maxL retM n) (hM : fa_MC l D b aC H0 N T y bytes maxL retM hg As w ov w1) (hw : Cond.methodLinkNest own idx y host ∈ fa_nest) (hn : As.length = n) (hg' : hg + 1 ≤ hh) (hs : ((st.map fun v => v.category).sum ≤ 8)) {st0 : List Value} (he : st0 = As.reverse ++ st) (hd : decode cc pc = .ok (.invokestatic idx, 3)) (hc1 : cells ≤ mc) (hc2 : slots ≤ ms)
    (k : fa_GJ p l e (fa_rmc hh mc ms) s m args below meth c cells slots Q D b aC H0 N T nL w1 (pc + 3) lv (ov.toList ++ st)) : fa_GJ p l e (fa_rmc hh mc ms) s m args below meth c cells slots Q D b aC H0 N T nL w pc lv st0 := fun H locs ls hP hS hl => by
  subst he
  obtain ⟨⟨i1, i2, i3, i4⟩, i5⟩ := hI
  exact fa_go X (va_runSN X.1 (hM hg (Nat.le_refl _)) ⟨va_cnB n X.1.2.2.2.2 (fa_goodC i1) rfl rfl rfl (X.2.2.2.1.2.1 _ hw) (X.1.2.2.2.2 _ i2) i3 (fa_room hg' i4), X.1.2.2.2.2 _ i5, trivial⟩ ⟨fa_blind, fun U hU hW => ⟨rfl, by rw [hU]; exact hP, X.2.2.2.1.move hW hS hU⟩⟩ rfl hn hl.1 rfl (lv_room hs) hd ⟨hc1, hc2⟩) hS hl k
theorem g_callV_i (X : fa_GX p s m args meth c cc nL ret own D b aC) {ci nn : Nat} {C : String} {F : u_T} {ty : Nat → FieldType} (ck : fa_CK ci C F nn ty) {o : Nat} (ho : (fa_sh o).1 = ci) (hN : o < N) {y : MethodName} {bytes : ByteArray} {maxL n hg hh idx mc ms : Nat} {retM : Option FieldType} {As : List Value} {v0 : Value} (hC : y.cls = C) (hI : fa_MI y bytes maxL retM n) (hM : fa_MC l D b aC H0 N T y bytes maxL retM hg (.ref (b + o) :: As) w (some v0) w1) (hw : Cond.methodLink own idx y ∈ fa_wG) (hn : As.length = n) (hg' : hg + 1 ≤ hh) (hs : ((st.map fun v => v.category).sum ≤ 8)) {st0 : List Value} (he : st0 = As.reverse ++ .ref (b + o) :: st) (hd : decode cc pc = .ok (.invokevirtual idx, 3))
    (k : fa_GJ p l e (fa_rmc hh mc ms) s m args below meth c 0 0 Q D b aC H0 N T nL w1 (pc + 3) lv (v0 :: st)) : fa_GJ p l e (fa_rmc hh mc ms) s m args below meth c 0 0 Q D b aC H0 N T nL w pc lv st0 := fun H locs ls hP hS hl => by
  subst he
  subst hC
  obtain ⟨⟨i1, i2, i3, i4⟩, i5, i6⟩ := hI
  exact fa_go X (va_runV X.1 (hM hg (Nat.le_refl _)) ⟨callB_of n X.1.2.2.2.2 (fa_goodC i1) rfl rfl rfl (X.1.2.2.2.2 _ i2) (X.1.2.2.2.2 _ hw) i3 (fa_room hg' i4), X.1.2.2.2.2 _ i5, X.1.2.2.2.2 _ i6⟩ ⟨fa_blind, fa_recv ck ho hN X.2.2.2.1 hP, fun U hU hW => ⟨rfl, by rw [hU]; exact hP, X.2.2.2.1.move hW hS hU⟩⟩ rfl hn hl.1 rfl (lv_room hs) hd ⟨Nat.zero_le _, Nat.zero_le _⟩) hS hl k
theorem g_callV_v (X : fa_GX p s m args meth c cc nL ret own D b aC) {ci nn : Nat} {C : String} {F : u_T} {ty : Nat → FieldType} (ck : fa_CK ci C F nn ty) {o : Nat} (ho : (fa_sh o).1 = ci) (hN : o < N) {y : MethodName} {bytes : ByteArray} {maxL n hg hh idx mc ms : Nat} {retM : Option FieldType} {As : List Value} (hC : y.cls = C) (hI : fa_MI y bytes maxL retM n) (hM : fa_MC l D b aC H0 N T y bytes maxL retM hg (.ref (b + o) :: As) w none w1) (hw : Cond.methodLink own idx y ∈ fa_wG) (hn : As.length = n) (hg' : hg + 1 ≤ hh) (hs : ((st.map fun v => v.category).sum ≤ 8)) {st0 : List Value} (he : st0 = As.reverse ++ .ref (b + o) :: st) (hd : decode cc pc = .ok (.invokevirtual idx, 3))
    (k : fa_GJ p l e (fa_rmc hh mc ms) s m args below meth c 0 0 Q D b aC H0 N T nL w1 (pc + 3) lv st) : fa_GJ p l e (fa_rmc hh mc ms) s m args below meth c 0 0 Q D b aC H0 N T nL w pc lv st0 := fun H locs ls hP hS hl => by
  subst he
  subst hC
  obtain ⟨⟨i1, i2, i3, i4⟩, i5, i6⟩ := hI
  exact fa_go X (va_runV X.1 (hM hg (Nat.le_refl _)) ⟨callB_of n X.1.2.2.2.2 (fa_goodC i1) rfl rfl rfl (X.1.2.2.2.2 _ i2) (X.1.2.2.2.2 _ hw) i3 (fa_room hg' i4), X.1.2.2.2.2 _ i5, X.1.2.2.2.2 _ i6⟩ ⟨fa_blind, fa_recv ck ho hN X.2.2.2.1 hP, fun U hU hW => ⟨rfl, by rw [hU]; exact hP, X.2.2.2.1.move hW hS hU⟩⟩ rfl hn hl.1 rfl (lv_room hs) hd ⟨Nat.zero_le _, Nat.zero_le _⟩) hS hl k
theorem g_callVN_i (X : fa_GX p s m args meth c cc nL ret own D b aC) {ci nn : Nat} {C host : String} {F : u_T} {ty : Nat → FieldType} (ck : fa_CK ci C F nn ty) {o : Nat} (ho : (fa_sh o).1 = ci) (hN : o < N) {y : MethodName} {bytes : ByteArray} {maxL n hg hh idx mc ms : Nat} {retM : Option FieldType} {As : List Value} {v0 : Value} (hC : y.cls = C) (hI : fa_MI y bytes maxL retM n) (hM : fa_MC l D b aC H0 N T y bytes maxL retM hg (.ref (b + o) :: As) w (some v0) w1) (hw : Cond.methodLinkNest own idx y host ∈ fa_nest) (hn : As.length = n) (hg' : hg + 1 ≤ hh) (hs : ((st.map fun v => v.category).sum ≤ 8)) {st0 : List Value} (he : st0 = As.reverse ++ .ref (b + o) :: st) (hd : decode cc pc = .ok (.invokevirtual idx, 3))
    (k : fa_GJ p l e (fa_rmc hh mc ms) s m args below meth c 0 0 Q D b aC H0 N T nL w1 (pc + 3) lv (v0 :: st)) : fa_GJ p l e (fa_rmc hh mc ms) s m args below meth c 0 0 Q D b aC H0 N T nL w pc lv st0 := fun H locs ls hP hS hl => by
  subst he
  subst hC
  obtain ⟨⟨i1, i2, i3, i4⟩, i5, i6⟩ := hI
  exact fa_go X (va_runVN X.1 (hM hg (Nat.le_refl _)) ⟨va_cnB n X.1.2.2.2.2 (fa_goodC i1) rfl rfl rfl (X.2.2.2.1.2.1 _ hw) (X.1.2.2.2.2 _ i2) i3 (fa_room hg' i4), X.1.2.2.2.2 _ i5, X.1.2.2.2.2 _ i6⟩ ⟨fa_blind, fa_recv ck ho hN X.2.2.2.1 hP, fun U hU hW => ⟨rfl, by rw [hU]; exact hP, X.2.2.2.1.move hW hS hU⟩⟩ rfl hn hl.1 rfl (lv_room hs) hd ⟨Nat.zero_le _, Nat.zero_le _⟩) hS hl k
theorem g_callVN_v (X : fa_GX p s m args meth c cc nL ret own D b aC) {ci nn : Nat} {C host : String} {F : u_T} {ty : Nat → FieldType} (ck : fa_CK ci C F nn ty) {o : Nat} (ho : (fa_sh o).1 = ci) (hN : o < N) {y : MethodName} {bytes : ByteArray} {maxL n hg hh idx mc ms : Nat} {retM : Option FieldType} {As : List Value} (hC : y.cls = C) (hI : fa_MI y bytes maxL retM n) (hM : fa_MC l D b aC H0 N T y bytes maxL retM hg (.ref (b + o) :: As) w none w1) (hw : Cond.methodLinkNest own idx y host ∈ fa_nest) (hn : As.length = n) (hg' : hg + 1 ≤ hh) (hs : ((st.map fun v => v.category).sum ≤ 8)) {st0 : List Value} (he : st0 = As.reverse ++ .ref (b + o) :: st) (hd : decode cc pc = .ok (.invokevirtual idx, 3))
    (k : fa_GJ p l e (fa_rmc hh mc ms) s m args below meth c 0 0 Q D b aC H0 N T nL w1 (pc + 3) lv st) : fa_GJ p l e (fa_rmc hh mc ms) s m args below meth c 0 0 Q D b aC H0 N T nL w pc lv st0 := fun H locs ls hP hS hl => by
  subst he
  subst hC
  obtain ⟨⟨i1, i2, i3, i4⟩, i5, i6⟩ := hI
  exact fa_go X (va_runVN X.1 (hM hg (Nat.le_refl _)) ⟨va_cnB n X.1.2.2.2.2 (fa_goodC i1) rfl rfl rfl (X.2.2.2.1.2.1 _ hw) (X.1.2.2.2.2 _ i2) i3 (fa_room hg' i4), X.1.2.2.2.2 _ i5, X.1.2.2.2.2 _ i6⟩ ⟨fa_blind, fa_recv ck ho hN X.2.2.2.1 hP, fun U hU hW => ⟨rfl, by rw [hU]; exact hP, X.2.2.2.1.move hW hS hU⟩⟩ rfl hn hl.1 rfl (lv_room hs) hd ⟨Nat.zero_le _, Nat.zero_le _⟩) hS hl k
theorem g_callS_i (X : fa_GX p s m args meth c cc nL ret own D b aC) {y : MethodName} {bytes : ByteArray} {maxL n hg hh idx mc ms : Nat} {retM : Option FieldType} {As : List Value} {v0 : Value} (hI : fa_MS y bytes maxL retM n) (hM : fa_MC l D b aC H0 N T y bytes maxL retM hg As w (some v0) w1) (hw : Cond.methodLink own idx y ∈ fa_wG) (hn : As.length = n) (hg' : hg + 1 ≤ hh) (hs : ((st.map fun v => v.category).sum ≤ 8)) {st0 : List Value} (he : st0 = As.reverse ++ st) (hd : decode cc pc = .ok (.invokestatic idx, 3))
    (k : fa_GJ p l e (fa_rmc hh mc ms) s m args below meth c 0 0 Q D b aC H0 N T nL w1 (pc + 3) lv (v0 :: st)) : fa_GJ p l e (fa_rmc hh mc ms) s m args below meth c 0 0 Q D b aC H0 N T nL w pc lv st0 := fun H locs ls hP hS hl => by
  subst he
  obtain ⟨⟨i1, i2, i3, i4⟩, i5⟩ := hI
  exact fa_go X (va_runS X.1 (hM hg (Nat.le_refl _)) ⟨callB_of n X.1.2.2.2.2 (fa_goodC i1) rfl rfl rfl (X.1.2.2.2.2 _ i2) (X.1.2.2.2.2 _ hw) i3 (fa_room hg' i4), X.1.2.2.2.2 _ i5⟩ ⟨fa_blind, fun U hU hW => ⟨rfl, by rw [hU]; exact hP, X.2.2.2.1.move hW hS hU⟩⟩ rfl hn hl.1 rfl (lv_room hs) hd ⟨Nat.zero_le _, Nat.zero_le _⟩) hS hl k
theorem g_callS_v (X : fa_GX p s m args meth c cc nL ret own D b aC) {y : MethodName} {bytes : ByteArray} {maxL n hg hh idx mc ms : Nat} {retM : Option FieldType} {As : List Value} (hI : fa_MS y bytes maxL retM n) (hM : fa_MC l D b aC H0 N T y bytes maxL retM hg As w none w1) (hw : Cond.methodLink own idx y ∈ fa_wG) (hn : As.length = n) (hg' : hg + 1 ≤ hh) (hs : ((st.map fun v => v.category).sum ≤ 8)) {st0 : List Value} (he : st0 = As.reverse ++ st) (hd : decode cc pc = .ok (.invokestatic idx, 3))
    (k : fa_GJ p l e (fa_rmc hh mc ms) s m args below meth c 0 0 Q D b aC H0 N T nL w1 (pc + 3) lv st) : fa_GJ p l e (fa_rmc hh mc ms) s m args below meth c 0 0 Q D b aC H0 N T nL w pc lv st0 := fun H locs ls hP hS hl => by
  subst he
  obtain ⟨⟨i1, i2, i3, i4⟩, i5⟩ := hI
  exact fa_go X (va_runS X.1 (hM hg (Nat.le_refl _)) ⟨callB_of n X.1.2.2.2.2 (fa_goodC i1) rfl rfl rfl (X.1.2.2.2.2 _ i2) (X.1.2.2.2.2 _ hw) i3 (fa_room hg' i4), X.1.2.2.2.2 _ i5⟩ ⟨fa_blind, fun U hU hW => ⟨rfl, by rw [hU]; exact hP, X.2.2.2.1.move hW hS hU⟩⟩ rfl hn hl.1 rfl (lv_room hs) hd ⟨Nat.zero_le _, Nat.zero_le _⟩) hS hl k
theorem g_callSN_i (X : fa_GX p s m args meth c cc nL ret own D b aC) {host : String} {y : MethodName} {bytes : ByteArray} {maxL n hg hh idx mc ms : Nat} {retM : Option FieldType} {As : List Value} {v0 : Value} (hI : fa_MS y bytes maxL retM n) (hM : fa_MC l D b aC H0 N T y bytes maxL retM hg As w (some v0) w1) (hw : Cond.methodLinkNest own idx y host ∈ fa_nest) (hn : As.length = n) (hg' : hg + 1 ≤ hh) (hs : ((st.map fun v => v.category).sum ≤ 8)) {st0 : List Value} (he : st0 = As.reverse ++ st) (hd : decode cc pc = .ok (.invokestatic idx, 3))
    (k : fa_GJ p l e (fa_rmc hh mc ms) s m args below meth c 0 0 Q D b aC H0 N T nL w1 (pc + 3) lv (v0 :: st)) : fa_GJ p l e (fa_rmc hh mc ms) s m args below meth c 0 0 Q D b aC H0 N T nL w pc lv st0 := fun H locs ls hP hS hl => by
  subst he
  obtain ⟨⟨i1, i2, i3, i4⟩, i5⟩ := hI
  exact fa_go X (va_runSN X.1 (hM hg (Nat.le_refl _)) ⟨va_cnB n X.1.2.2.2.2 (fa_goodC i1) rfl rfl rfl (X.2.2.2.1.2.1 _ hw) (X.1.2.2.2.2 _ i2) i3 (fa_room hg' i4), X.1.2.2.2.2 _ i5, trivial⟩ ⟨fa_blind, fun U hU hW => ⟨rfl, by rw [hU]; exact hP, X.2.2.2.1.move hW hS hU⟩⟩ rfl hn hl.1 rfl (lv_room hs) hd ⟨Nat.zero_le _, Nat.zero_le _⟩) hS hl k
theorem g_callSN_v (X : fa_GX p s m args meth c cc nL ret own D b aC) {host : String} {y : MethodName} {bytes : ByteArray} {maxL n hg hh idx mc ms : Nat} {retM : Option FieldType} {As : List Value} (hI : fa_MS y bytes maxL retM n) (hM : fa_MC l D b aC H0 N T y bytes maxL retM hg As w none w1) (hw : Cond.methodLinkNest own idx y host ∈ fa_nest) (hn : As.length = n) (hg' : hg + 1 ≤ hh) (hs : ((st.map fun v => v.category).sum ≤ 8)) {st0 : List Value} (he : st0 = As.reverse ++ st) (hd : decode cc pc = .ok (.invokestatic idx, 3))
    (k : fa_GJ p l e (fa_rmc hh mc ms) s m args below meth c 0 0 Q D b aC H0 N T nL w1 (pc + 3) lv st) : fa_GJ p l e (fa_rmc hh mc ms) s m args below meth c 0 0 Q D b aC H0 N T nL w pc lv st0 := fun H locs ls hP hS hl => by
  subst he
  obtain ⟨⟨i1, i2, i3, i4⟩, i5⟩ := hI
  exact fa_go X (va_runSN X.1 (hM hg (Nat.le_refl _)) ⟨va_cnB n X.1.2.2.2.2 (fa_goodC i1) rfl rfl rfl (X.2.2.2.1.2.1 _ hw) (X.1.2.2.2.2 _ i2) i3 (fa_room hg' i4), X.1.2.2.2.2 _ i5, trivial⟩ ⟨fa_blind, fun U hU hW => ⟨rfl, by rw [hU]; exact hP, X.2.2.2.1.move hW hS hU⟩⟩ rfl hn hl.1 rfl (lv_room hs) hd ⟨Nat.zero_le _, Nat.zero_le _⟩) hS hl k
theorem g_istorec_n (X : fa_GX p s m args meth c cc nL ret own D b aC) {i : Fin 4} {x : Int32} (lv' : List (Nat × Value)) (hd : decode cc pc = .ok (.istore_n i, 1)) (hi : (i : Nat) < nL) (hl' : ((i : Nat), Value.int x) :: lv.filter (fun q => !(q.1 == (i : Nat)) && !(q.1 + 1 == (i : Nat) && q.2.category == 2)) = lv') (k : fa_GJ p l e R s m args below meth c cells slots Q D b aC H0 N T nL w (pc + 1) lv' st) : fa_GJ p l e R s m args below meth c cells slots Q D b aC H0 N T nL w pc lv (.int x :: st) := fun H locs ls hP hS hl => lv_istore_n X.1.1 X.1.2.1 hd rfl hl hi hl' (fun ls hl => k H locs ls hP hS hl)
theorem g_istorec (X : fa_GX p s m args meth c cc nL ret own D b aC) {i : Nat} {x : Int32} (lv' : List (Nat × Value)) (hd : decode cc pc = .ok (.istore i, 2)) (hi : i < nL) (hl' : (i, Value.int x) :: lv.filter (fun q => !(q.1 == i) && !(q.1 + 1 == i && q.2.category == 2)) = lv') (k : fa_GJ p l e R s m args below meth c cells slots Q D b aC H0 N T nL w (pc + 2) lv' st) : fa_GJ p l e R s m args below meth c cells slots Q D b aC H0 N T nL w pc lv (.int x :: st) := fun H locs ls hP hS hl => lv_istore X.1.1 X.1.2.1 hd hl hi hl' (fun ls hl => k H locs ls hP hS hl)
theorem g_tableDef (X : fa_GX p s m args meth c cc nL ret own D b aC) {dflt lo hi : Int} {offs : Array Int} {len : Nat} {x : Int} (t : Nat) (hd : decode cc pc = .ok (.tableswitch dflt lo hi offs, len)) (h : (fa_wr x < lo ∨ hi < fa_wr x) ∨ (¬ fa_wr x < lo ∧ ¬ hi < fa_wr x ∧ ∃ off, offs[(fa_wr x - lo).toNat]? = some off ∧ (pc : Int) + off = (t : Int))) (ht : (pc : Int) + dflt = (t : Int)) (k : fa_GJ p l e R s m args below meth c cells slots Q D b aC H0 N T nL w t lv st) : fa_GJ p l e R s m args below meth c cells slots Q D b aC H0 N T nL w pc lv (.int (fa_I x) :: st) := by
  rcases h with h | ⟨h1, h2, off, h3, h4⟩
  · exact g_tableOut X t hd h ht k
  · exact g_tableIn X (fa_wr x) t hd rfl h1 h2 h3 h4 k
theorem g_aret (X : fa_GX p s m args meth c cc nL ret own D b aC) {x : Nat} {rt : FieldType} (hr : ret = some rt) (hrt : (∃ n, rt = .object n) ∨ ∃ t, rt = .array t) (hd : decode cc pc = .ok (.areturn, 1)) : fa_GJ p l e R s m args below meth c cells slots (MQ below (fa_Qc D b aC H0 N T (some (.ref x)) w) args s cells slots (fun q => b ≤ q)) D b aC H0 N T nL w pc lv [.ref x] := fun H locs ls hP hS hl =>
  W.aret X.1.1 X.1.2.1 (X.2.2.1.trans hr) hrt (Or.inr ⟨x, rfl⟩) (fun t ht _ => ⟨rfl, by rw [ht]; exact hP, hS.F ht⟩) (fun q hq => hS.2.2 q hq) hd X.2.1
theorem g_iret (X : fa_GX p s m args meth c cc nL (some .int) own D b aC) {x : Int} (hd : decode cc pc = .ok (.ireturn, 1)) : fa_GJ p l e R s m args below meth c cells slots (MQ below (fa_Qc D b aC H0 N T (some (.int (fa_I x))) w) args s cells slots (fun q => b ≤ q)) D b aC H0 N T nL w pc lv [.int (fa_I x)] := fun H locs ls hP hS hl =>
  W.iret X.1.1 X.1.2.1 X.2.2.1 (fun t ht _ => ⟨rfl, by rw [ht]; exact hP, hS.F ht⟩) (fun q hq => hS.2.2 q hq) hd X.2.1
theorem g_zret (X : fa_GX p s m args meth c cc nL (some .boolean) own D b aC) {B : Bool} {v : Int32} (hv : v = fa_I (fa_bi B)) (hd : decode cc pc = .ok (.ireturn, 1)) : fa_GJ p l e R s m args below meth c cells slots (MQ below (fa_Qc D b aC H0 N T (some (.int (fa_I (fa_bi B)))) w) args s cells slots (fun q => b ≤ q)) D b aC H0 N T nL w pc lv [.int v] := fun H locs ls hP hS hl => by
  subst hv
  exact W.zret X.1.1 X.1.2.1 X.2.2.1 (by cases B <;> rfl) (fun t ht _ => ⟨rfl, by rw [ht]; exact hP, hS.F ht⟩) (fun q hq => hS.2.2 q hq) hd X.2.1
theorem g_vret (X : fa_GX p s m args meth c cc nL none own D b aC) (hd : decode cc pc = .ok (.return_, 1)) : fa_GJ p l e R s m args below meth c cells slots (MQ below (fa_Qc D b aC H0 N T none w) args s cells slots (fun q => b ≤ q)) D b aC H0 N T nL w pc lv [] := fun H locs ls hP hS hl =>
  W.vret X.1.1 X.1.2.1 X.2.2.1 (fun t ht _ => ⟨rfl, by rw [ht]; exact hP, hS.F ht⟩) (fun q hq => hS.2.2 q hq) hd X.2.1
end FaCalls
