theorem fa_xn {o ci N : Nat} (h : (fa_sh o).1 = ci) (hc : ci < 10) (hN : fa_NX ≤ N) : o < N := Nat.lt_of_lt_of_le (fa_xN o (by rw [h]; exact hc)) hN
theorem fa_xt {o ci T : Nat} (h : (fa_sh o).1 = ci) (hc : ci < 10) (hT : fa_TX ≤ T) (k : Nat) : fa_tm o k < T := Nat.lt_of_lt_of_le (fa_xT o (by rw [h]; exact hc) k) hT
def fa_cp (r : Nat) : Nat := (fa_sh (fa_rf r 0)).2
/-- a Row whose cells are there -/
def fa_RO (r N T : Nat) : Prop := (fa_sh r).1 = 6 ∧ r < N ∧ fa_sh (fa_rf r 0) = (100, fa_cp r) ∧ fa_rf r 0 < N ∧ fa_tm r 0 < T
theorem fa_ro {r N T : Nat} (h : (fa_sh r).1 = 6) (hN : fa_NX ≤ N) (hT : fa_TX ≤ T) : fa_RO r N T := ⟨h, fa_xn h (by decide) hN, (fa_r6_0 r h).1, Nat.lt_of_lt_of_le (fa_r6_0 r h).2 hN, fa_xt h (by decide) hT 0⟩
def fa_bd {A B C : Type} (x : Option (A × B)) (f : A → B → Option C) : Option C := x.bind (fun q => f q.1 q.2)
theorem fa_obd {A B C : Type} {x : Option (A × B)} {f : A → B → Option C} {r : C} (h : fa_bd x f = some r) : ∃ a b, x = some (a, b) ∧ f a b = some r := by
  obtain ⟨q, h1, h2⟩ := fa_ob h
  exact ⟨q.1, q.2, h1, h2⟩
def fa_l2 {A B C : Type} (x : A × B) (f : A → B → C) : C := f x.1 x.2
theorem fa_l2_to {A B C : Type} {x : A × B} {f : A → B → C} {r : C} {a : A} {b : B} (h : fa_l2 x f = r) (ha : a = x.1) (hb : b = x.2) : f a b = r := by subst ha; subst hb; exact h
theorem fa_gt {D : va_G} {b : Nat} {aC : Nat → ClassId} {H0 : Heap} {l : Launch} {N T : Nat} {y : MethodName} {cc : ByteArray} {nL : Nat} {ret : Option FieldType} {hg : Nat} {as : List Value} {w w1 : fa_W} {ov : Option Value} {h2 : Nat} (h : fa_MC l D b aC H0 N T y cc nL ret hg as w ov w1) (hl : hg ≤ h2) : fa_MC l D b aC H0 N T y cc nL ret h2 as w ov w1 := fun hh q => h hh (Nat.le_trans hl q)
/-- fewer locals, in another order -/
theorem g_lv {p : Program} {l : Launch} {e : Env} {R : Room} {s : State} {m : MethodId} {args : Array Value} {below : List Frame} {meth : Method} {c : Code} {cells slots : Nat} {Q : State → Prop} {D : va_G} {b : Nat} {aC : Nat → ClassId} {H0 : Heap} {N T nL : Nat} {w : fa_W} {pc : Nat} {lv lv' : List (Nat × Value)} {st : List Value} (ks : List Nat) (hk : lv_pick lv ks = lv')
    (k : fa_GJ p l e R s m args below meth c cells slots Q D b aC H0 N T nL w pc lv' st) : fa_GJ p l e R s m args below meth c cells slots Q D b aC H0 N T nL w pc lv st := fun H locs ls hP hS hl => k H locs ls hP hS (lv_sub hl ks hk)
def fa_FU : Nat := 8589934592
theorem fa_tdef {x lo hi pc t : Int} {offs : Array Int} (h : (x < lo ∨ hi < x) ∨ (¬ x < lo ∧ ¬ hi < x ∧ ∃ off, offs[(x - lo).toNat]? = some off ∧ pc + off = t)) : (x < lo ∨ hi < x) ∨ (¬ x < lo ∧ ¬ hi < x ∧ ∃ off, offs[(x - lo).toNat]? = some off ∧ pc + off = t) := h
theorem fo_0 : (fa_sh 0).1 = 0 := by decide +kernel
theorem fn_0 {N : Nat} (h : fa_NX ≤ N) : 0 < N := Nat.lt_of_lt_of_le (by decide) h
theorem fr_0_0 {ci b T : Nat} {w : fa_W} (hc : ci = 0) (h : fa_TX ≤ T) : fa_fv ci b T w 0 0 = .ref (b + 1) := by subst hc; rw [fa_fvR (by decide) (Nat.lt_of_lt_of_le (by decide +kernel) h), show fa_rf 0 0 = 1 by decide +kernel]
theorem fr_0_1 {ci b T : Nat} {w : fa_W} (hc : ci = 0) (h : fa_TX ≤ T) : fa_fv ci b T w 0 1 = .ref (b + 3) := by subst hc; rw [fa_fvR (by decide) (Nat.lt_of_lt_of_le (by decide +kernel) h), show fa_rf 0 1 = 3 by decide +kernel]
theorem fr_0_2 {ci b T : Nat} {w : fa_W} (hc : ci = 0) (h : fa_TX ≤ T) : fa_fv ci b T w 0 2 = .ref (b + 5) := by subst hc; rw [fa_fvR (by decide) (Nat.lt_of_lt_of_le (by decide +kernel) h), show fa_rf 0 2 = 5 by decide +kernel]
theorem fr_0_3 {ci b T : Nat} {w : fa_W} (hc : ci = 0) (h : fa_TX ≤ T) : fa_fv ci b T w 0 3 = .ref (b + 7) := by subst hc; rw [fa_fvR (by decide) (Nat.lt_of_lt_of_le (by decide +kernel) h), show fa_rf 0 3 = 7 by decide +kernel]
theorem fr_0_4 {ci b T : Nat} {w : fa_W} (hc : ci = 0) (h : fa_TX ≤ T) : fa_fv ci b T w 0 4 = .ref (b + 37) := by subst hc; rw [fa_fvR (by decide) (Nat.lt_of_lt_of_le (by decide +kernel) h), show fa_rf 0 4 = 37 by decide +kernel]
theorem fr_0_5 {ci b T : Nat} {w : fa_W} (hc : ci = 0) (h : fa_TX ≤ T) : fa_fv ci b T w 0 5 = .ref (b + 44) := by subst hc; rw [fa_fvR (by decide) (Nat.lt_of_lt_of_le (by decide +kernel) h), show fa_rf 0 5 = 44 by decide +kernel]
theorem fr_0_6 {ci b T : Nat} {w : fa_W} (hc : ci = 0) (h : fa_TX ≤ T) : fa_fv ci b T w 0 6 = .ref (b + fa_sc (w 0 6)) := by subst hc; exact fa_fvS (by decide) (Nat.lt_of_lt_of_le (by decide +kernel) h)
theorem fr_0_7 {ci b T : Nat} {w : fa_W} (hc : ci = 0) (h : fa_TX ≤ T) : fa_fv ci b T w 0 7 = .ref (b + fa_sc (w 0 7)) := by subst hc; exact fa_fvS (by decide) (Nat.lt_of_lt_of_le (by decide +kernel) h)
theorem fo_7 : (fa_sh 7).1 = 5 := by decide +kernel
theorem fn_7 {N : Nat} (h : fa_NX ≤ N) : 7 < N := Nat.lt_of_lt_of_le (by decide) h
theorem fr_7_0 {ci b T : Nat} {w : fa_W} (hc : ci = 5) (h : fa_TX ≤ T) : fa_fv ci b T w 7 0 = .ref (b + 8) := by subst hc; rw [fa_fvR (by decide) (Nat.lt_of_lt_of_le (by decide +kernel) h), show fa_rf 7 0 = 8 by decide +kernel]
theorem fr_7_1 {ci b T : Nat} {w : fa_W} (hc : ci = 5) (h : fa_TX ≤ T) : fa_fv ci b T w 7 1 = .ref (b + 1) := by subst hc; rw [fa_fvR (by decide) (Nat.lt_of_lt_of_le (by decide +kernel) h), show fa_rf 7 1 = 1 by decide +kernel]
theorem fr_7_2 {ci b T : Nat} {w : fa_W} (hc : ci = 5) (h : fa_TX ≤ T) : fa_fv ci b T w 7 2 = .ref (b + 35) := by subst hc; rw [fa_fvR (by decide) (Nat.lt_of_lt_of_le (by decide +kernel) h), show fa_rf 7 2 = 35 by decide +kernel]
theorem fo_37 : (fa_sh 37).1 = 9 := by decide +kernel
theorem fn_37 {N : Nat} (h : fa_NX ≤ N) : 37 < N := Nat.lt_of_lt_of_le (by decide) h
theorem fr_37_0 {ci b T : Nat} {w : fa_W} (hc : ci = 9) (h : fa_TX ≤ T) : fa_fv ci b T w 37 0 = .ref (b + 3) := by subst hc; rw [fa_fvR (by decide) (Nat.lt_of_lt_of_le (by decide +kernel) h), show fa_rf 37 0 = 3 by decide +kernel]
theorem fr_37_1 {ci b T : Nat} {w : fa_W} (hc : ci = 9) (h : fa_TX ≤ T) : fa_fv ci b T w 37 1 = .ref (b + 38) := by subst hc; rw [fa_fvR (by decide) (Nat.lt_of_lt_of_le (by decide +kernel) h), show fa_rf 37 1 = 38 by decide +kernel]
theorem fr_37_2 {ci b T : Nat} {w : fa_W} (hc : ci = 9) (h : fa_TX ≤ T) : fa_fv ci b T w 37 2 = .ref (b + 40) := by subst hc; rw [fa_fvR (by decide) (Nat.lt_of_lt_of_le (by decide +kernel) h), show fa_rf 37 2 = 40 by decide +kernel]
theorem fr_37_3 {ci b T : Nat} {w : fa_W} (hc : ci = 9) (h : fa_TX ≤ T) : fa_fv ci b T w 37 3 = .ref (b + 42) := by subst hc; rw [fa_fvR (by decide) (Nat.lt_of_lt_of_le (by decide +kernel) h), show fa_rf 37 3 = 42 by decide +kernel]
theorem fo_44 : (fa_sh 44).1 = 3 := by decide +kernel
theorem fn_44 {N : Nat} (h : fa_NX ≤ N) : 44 < N := Nat.lt_of_lt_of_le (by decide) h
theorem fr_44_0 {ci b T : Nat} {w : fa_W} (hc : ci = 3) (h : fa_TX ≤ T) : fa_fv ci b T w 44 0 = .ref (b + 45) := by subst hc; rw [fa_fvR (by decide) (Nat.lt_of_lt_of_le (by decide +kernel) h), show fa_rf 44 0 = 45 by decide +kernel]
theorem fr_44_1 {ci b T : Nat} {w : fa_W} (hc : ci = 3) (h : fa_TX ≤ T) : fa_fv ci b T w 44 1 = .ref (b + 47) := by subst hc; rw [fa_fvR (by decide) (Nat.lt_of_lt_of_le (by decide +kernel) h), show fa_rf 44 1 = 47 by decide +kernel]
theorem fr_44_2 {ci b T : Nat} {w : fa_W} (hc : ci = 3) (h : fa_TX ≤ T) : fa_fv ci b T w 44 2 = .ref (b + 49) := by subst hc; rw [fa_fvR (by decide) (Nat.lt_of_lt_of_le (by decide +kernel) h), show fa_rf 44 2 = 49 by decide +kernel]
theorem fr_44_3 {ci b T : Nat} {w : fa_W} (hc : ci = 3) (h : fa_TX ≤ T) : fa_fv ci b T w 44 3 = .ref (b + 51) := by subst hc; rw [fa_fvR (by decide) (Nat.lt_of_lt_of_le (by decide +kernel) h), show fa_rf 44 3 = 51 by decide +kernel]
theorem fr_44_4 {ci b T : Nat} {w : fa_W} (hc : ci = 3) (h : fa_TX ≤ T) : fa_fv ci b T w 44 4 = .ref (b + 53) := by subst hc; rw [fa_fvR (by decide) (Nat.lt_of_lt_of_le (by decide +kernel) h), show fa_rf 44 4 = 53 by decide +kernel]
theorem fo_181 : (fa_sh 181).1 = 10 := by decide +kernel
theorem fn_181 {N : Nat} (h : fa_NM ≤ N) : 181 < N := Nat.lt_of_lt_of_le (by decide) h
theorem fr_181_1 {ci b T : Nat} {w : fa_W} (hc : ci = 10) (h : fa_TM ≤ T) : fa_fv ci b T w 181 1 = .ref (b + 182) := by subst hc; rw [fa_fvR (by decide) (Nat.lt_of_lt_of_le (by decide +kernel) h), show fa_rf 181 1 = 182 by decide +kernel]
theorem fr_181_3 {ci b T : Nat} {w : fa_W} (hc : ci = 10) (h : fa_TM ≤ T) : fa_fv ci b T w 181 3 = .ref (b + 183) := by subst hc; rw [fa_fvR (by decide) (Nat.lt_of_lt_of_le (by decide +kernel) h), show fa_rf 181 3 = 183 by decide +kernel]
theorem fr_181_4 {ci b T : Nat} {w : fa_W} (hc : ci = 10) (h : fa_TM ≤ T) : fa_fv ci b T w 181 4 = .ref (b + 184) := by subst hc; rw [fa_fvR (by decide) (Nat.lt_of_lt_of_le (by decide +kernel) h), show fa_rf 181 4 = 184 by decide +kernel]
theorem fr_181_5 {ci b T : Nat} {w : fa_W} (hc : ci = 10) (h : fa_TM ≤ T) : fa_fv ci b T w 181 5 = .ref (b + 185) := by subst hc; rw [fa_fvR (by decide) (Nat.lt_of_lt_of_le (by decide +kernel) h), show fa_rf 181 5 = 185 by decide +kernel]
theorem fr_181_6 {ci b T : Nat} {w : fa_W} (hc : ci = 10) (h : fa_TM ≤ T) : fa_fv ci b T w 181 6 = .ref (b + 186) := by subst hc; rw [fa_fvR (by decide) (Nat.lt_of_lt_of_le (by decide +kernel) h), show fa_rf 181 6 = 186 by decide +kernel]
theorem fr_181_7 {ci b T : Nat} {w : fa_W} (hc : ci = 10) (h : fa_TM ≤ T) : fa_fv ci b T w 181 7 = .ref (b + 187) := by subst hc; rw [fa_fvR (by decide) (Nat.lt_of_lt_of_le (by decide +kernel) h), show fa_rf 181 7 = 187 by decide +kernel]
theorem fr_181_8 {ci b T : Nat} {w : fa_W} (hc : ci = 10) (h : fa_TM ≤ T) : fa_fv ci b T w 181 8 = .ref (b + 188) := by subst hc; rw [fa_fvR (by decide) (Nat.lt_of_lt_of_le (by decide +kernel) h), show fa_rf 181 8 = 188 by decide +kernel]
theorem fr_181_9 {ci b T : Nat} {w : fa_W} (hc : ci = 10) (h : fa_TM ≤ T) : fa_fv ci b T w 181 9 = .ref (b + 189) := by subst hc; rw [fa_fvR (by decide) (Nat.lt_of_lt_of_le (by decide +kernel) h), show fa_rf 181 9 = 189 by decide +kernel]
theorem fr_181_10 {ci b T : Nat} {w : fa_W} (hc : ci = 10) (h : fa_TM ≤ T) : fa_fv ci b T w 181 10 = .ref (b + 190) := by subst hc; rw [fa_fvR (by decide) (Nat.lt_of_lt_of_le (by decide +kernel) h), show fa_rf 181 10 = 190 by decide +kernel]
theorem fr_181_11 {ci b T : Nat} {w : fa_W} (hc : ci = 10) (h : fa_TM ≤ T) : fa_fv ci b T w 181 11 = .ref (b + 191) := by subst hc; rw [fa_fvR (by decide) (Nat.lt_of_lt_of_le (by decide +kernel) h), show fa_rf 181 11 = 191 by decide +kernel]
theorem fr_181_12 {ci b T : Nat} {w : fa_W} (hc : ci = 10) (h : fa_TM ≤ T) : fa_fv ci b T w 181 12 = .ref (b + 192) := by subst hc; rw [fa_fvR (by decide) (Nat.lt_of_lt_of_le (by decide +kernel) h), show fa_rf 181 12 = 192 by decide +kernel]
theorem fr_181_13 {ci b T : Nat} {w : fa_W} (hc : ci = 10) (h : fa_TM ≤ T) : fa_fv ci b T w 181 13 = .ref (b + 193) := by subst hc; rw [fa_fvR (by decide) (Nat.lt_of_lt_of_le (by decide +kernel) h), show fa_rf 181 13 = 193 by decide +kernel]
theorem fr_181_14 {ci b T : Nat} {w : fa_W} (hc : ci = 10) (h : fa_TM ≤ T) : fa_fv ci b T w 181 14 = .ref (b + 194) := by subst hc; rw [fa_fvR (by decide) (Nat.lt_of_lt_of_le (by decide +kernel) h), show fa_rf 181 14 = 194 by decide +kernel]
theorem fr_181_15 {ci b T : Nat} {w : fa_W} (hc : ci = 10) (h : fa_TM ≤ T) : fa_fv ci b T w 181 15 = .ref (b + 195) := by subst hc; rw [fa_fvR (by decide) (Nat.lt_of_lt_of_le (by decide +kernel) h), show fa_rf 181 15 = 195 by decide +kernel]
theorem fr_181_22 {ci b T : Nat} {w : fa_W} (hc : ci = 10) (h : fa_TM ≤ T) : fa_fv ci b T w 181 22 = .ref (b + 196) := by subst hc; rw [fa_fvR (by decide) (Nat.lt_of_lt_of_le (by decide +kernel) h), show fa_rf 181 22 = 196 by decide +kernel]
theorem fr_181_23 {ci b T : Nat} {w : fa_W} (hc : ci = 10) (h : fa_TM ≤ T) : fa_fv ci b T w 181 23 = .ref (b + 197) := by subst hc; rw [fa_fvR (by decide) (Nat.lt_of_lt_of_le (by decide +kernel) h), show fa_rf 181 23 = 197 by decide +kernel]
theorem fr_181_32 {ci b T : Nat} {w : fa_W} (hc : ci = 10) (h : fa_TM ≤ T) : fa_fv ci b T w 181 32 = .ref (b + 198) := by subst hc; rw [fa_fvR (by decide) (Nat.lt_of_lt_of_le (by decide +kernel) h), show fa_rf 181 32 = 198 by decide +kernel]
theorem fr_181_36 {ci b T : Nat} {w : fa_W} (hc : ci = 10) (h : fa_TM ≤ T) : fa_fv ci b T w 181 36 = .ref (b + 199) := by subst hc; rw [fa_fvR (by decide) (Nat.lt_of_lt_of_le (by decide +kernel) h), show fa_rf 181 36 = 199 by decide +kernel]
theorem fr_181_37 {ci b T : Nat} {w : fa_W} (hc : ci = 10) (h : fa_TM ≤ T) : fa_fv ci b T w 181 37 = .ref (b + 200) := by subst hc; rw [fa_fvR (by decide) (Nat.lt_of_lt_of_le (by decide +kernel) h), show fa_rf 181 37 = 200 by decide +kernel]
theorem fr_181_38 {ci b T : Nat} {w : fa_W} (hc : ci = 10) (h : fa_TM ≤ T) : fa_fv ci b T w 181 38 = .ref (b + 201) := by subst hc; rw [fa_fvR (by decide) (Nat.lt_of_lt_of_le (by decide +kernel) h), show fa_rf 181 38 = 201 by decide +kernel]
theorem fr_181_39 {ci b T : Nat} {w : fa_W} (hc : ci = 10) (h : fa_TM ≤ T) : fa_fv ci b T w 181 39 = .ref (b + 202) := by subst hc; rw [fa_fvR (by decide) (Nat.lt_of_lt_of_le (by decide +kernel) h), show fa_rf 181 39 = 202 by decide +kernel]
theorem fr_181_40 {ci b T : Nat} {w : fa_W} (hc : ci = 10) (h : fa_TM ≤ T) : fa_fv ci b T w 181 40 = .ref (b + 203) := by subst hc; rw [fa_fvR (by decide) (Nat.lt_of_lt_of_le (by decide +kernel) h), show fa_rf 181 40 = 203 by decide +kernel]
theorem fr_181_41 {ci b T : Nat} {w : fa_W} (hc : ci = 10) (h : fa_TM ≤ T) : fa_fv ci b T w 181 41 = .ref (b + 204) := by subst hc; rw [fa_fvR (by decide) (Nat.lt_of_lt_of_le (by decide +kernel) h), show fa_rf 181 41 = 204 by decide +kernel]
theorem fr_181_42 {ci b T : Nat} {w : fa_W} (hc : ci = 10) (h : fa_TM ≤ T) : fa_fv ci b T w 181 42 = .ref (b + 205) := by subst hc; rw [fa_fvR (by decide) (Nat.lt_of_lt_of_le (by decide +kernel) h), show fa_rf 181 42 = 205 by decide +kernel]
theorem fr_181_45 {ci b T : Nat} {w : fa_W} (hc : ci = 10) (h : fa_TM ≤ T) : fa_fv ci b T w 181 45 = .ref (b + 206) := by subst hc; rw [fa_fvR (by decide) (Nat.lt_of_lt_of_le (by decide +kernel) h), show fa_rf 181 45 = 206 by decide +kernel]
theorem fr_181_46 {ci b T : Nat} {w : fa_W} (hc : ci = 10) (h : fa_TM ≤ T) : fa_fv ci b T w 181 46 = .ref (b + 207) := by subst hc; rw [fa_fvR (by decide) (Nat.lt_of_lt_of_le (by decide +kernel) h), show fa_rf 181 46 = 207 by decide +kernel]
theorem fr_181_47 {ci b T : Nat} {w : fa_W} (hc : ci = 10) (h : fa_TM ≤ T) : fa_fv ci b T w 181 47 = .ref (b + 208) := by subst hc; rw [fa_fvR (by decide) (Nat.lt_of_lt_of_le (by decide +kernel) h), show fa_rf 181 47 = 208 by decide +kernel]
theorem fr_181_48 {ci b T : Nat} {w : fa_W} (hc : ci = 10) (h : fa_TM ≤ T) : fa_fv ci b T w 181 48 = .ref (b + 209) := by subst hc; rw [fa_fvR (by decide) (Nat.lt_of_lt_of_le (by decide +kernel) h), show fa_rf 181 48 = 209 by decide +kernel]
theorem fr_181_49 {ci b T : Nat} {w : fa_W} (hc : ci = 10) (h : fa_TM ≤ T) : fa_fv ci b T w 181 49 = .ref (b + 210) := by subst hc; rw [fa_fvR (by decide) (Nat.lt_of_lt_of_le (by decide +kernel) h), show fa_rf 181 49 = 210 by decide +kernel]
theorem fr_181_50 {ci b T : Nat} {w : fa_W} (hc : ci = 10) (h : fa_TM ≤ T) : fa_fv ci b T w 181 50 = .ref (b + 211) := by subst hc; rw [fa_fvR (by decide) (Nat.lt_of_lt_of_le (by decide +kernel) h), show fa_rf 181 50 = 211 by decide +kernel]
theorem fr_181_51 {ci b T : Nat} {w : fa_W} (hc : ci = 10) (h : fa_TM ≤ T) : fa_fv ci b T w 181 51 = .ref (b + 212) := by subst hc; rw [fa_fvR (by decide) (Nat.lt_of_lt_of_le (by decide +kernel) h), show fa_rf 181 51 = 212 by decide +kernel]
theorem fr_181_56 {ci b T : Nat} {w : fa_W} (hc : ci = 10) (h : fa_TM ≤ T) : fa_fv ci b T w 181 56 = .ref (b + 213) := by subst hc; rw [fa_fvR (by decide) (Nat.lt_of_lt_of_le (by decide +kernel) h), show fa_rf 181 56 = 213 by decide +kernel]
theorem fr_181_57 {ci b T : Nat} {w : fa_W} (hc : ci = 10) (h : fa_TM ≤ T) : fa_fv ci b T w 181 57 = .ref (b + 214) := by subst hc; rw [fa_fvR (by decide) (Nat.lt_of_lt_of_le (by decide +kernel) h), show fa_rf 181 57 = 214 by decide +kernel]
theorem fr_181_58 {ci b T : Nat} {w : fa_W} (hc : ci = 10) (h : fa_TM ≤ T) : fa_fv ci b T w 181 58 = .ref (b + 215) := by subst hc; rw [fa_fvR (by decide) (Nat.lt_of_lt_of_le (by decide +kernel) h), show fa_rf 181 58 = 215 by decide +kernel]
theorem fr_181_59 {ci b T : Nat} {w : fa_W} (hc : ci = 10) (h : fa_TM ≤ T) : fa_fv ci b T w 181 59 = .ref (b + 216) := by subst hc; rw [fa_fvR (by decide) (Nat.lt_of_lt_of_le (by decide +kernel) h), show fa_rf 181 59 = 216 by decide +kernel]
theorem fr_181_60 {ci b T : Nat} {w : fa_W} (hc : ci = 10) (h : fa_TM ≤ T) : fa_fv ci b T w 181 60 = .ref (b + 217) := by subst hc; rw [fa_fvR (by decide) (Nat.lt_of_lt_of_le (by decide +kernel) h), show fa_rf 181 60 = 217 by decide +kernel]
theorem fr_181_61 {ci b T : Nat} {w : fa_W} (hc : ci = 10) (h : fa_TM ≤ T) : fa_fv ci b T w 181 61 = .ref (b + 218) := by subst hc; rw [fa_fvR (by decide) (Nat.lt_of_lt_of_le (by decide +kernel) h), show fa_rf 181 61 = 218 by decide +kernel]
theorem fr_181_62 {ci b T : Nat} {w : fa_W} (hc : ci = 10) (h : fa_TM ≤ T) : fa_fv ci b T w 181 62 = .ref (b + 219) := by subst hc; rw [fa_fvR (by decide) (Nat.lt_of_lt_of_le (by decide +kernel) h), show fa_rf 181 62 = 219 by decide +kernel]
theorem fr_181_63 {ci b T : Nat} {w : fa_W} (hc : ci = 10) (h : fa_TM ≤ T) : fa_fv ci b T w 181 63 = .ref (b + 220) := by subst hc; rw [fa_fvR (by decide) (Nat.lt_of_lt_of_le (by decide +kernel) h), show fa_rf 181 63 = 220 by decide +kernel]
theorem fr_181_65 {ci b T : Nat} {w : fa_W} (hc : ci = 10) (h : fa_TM ≤ T) : fa_fv ci b T w 181 65 = .ref (b + 221) := by subst hc; rw [fa_fvR (by decide) (Nat.lt_of_lt_of_le (by decide +kernel) h), show fa_rf 181 65 = 221 by decide +kernel]
theorem fr_181_66 {ci b T : Nat} {w : fa_W} (hc : ci = 10) (h : fa_TM ≤ T) : fa_fv ci b T w 181 66 = .ref (b + 222) := by subst hc; rw [fa_fvR (by decide) (Nat.lt_of_lt_of_le (by decide +kernel) h), show fa_rf 181 66 = 222 by decide +kernel]
theorem fr_181_67 {ci b T : Nat} {w : fa_W} (hc : ci = 10) (h : fa_TM ≤ T) : fa_fv ci b T w 181 67 = .ref (b + 223) := by subst hc; rw [fa_fvR (by decide) (Nat.lt_of_lt_of_le (by decide +kernel) h), show fa_rf 181 67 = 223 by decide +kernel]
theorem fr_181_71 {ci b T : Nat} {w : fa_W} (hc : ci = 10) (h : fa_TM ≤ T) : fa_fv ci b T w 181 71 = .ref (b + 224) := by subst hc; rw [fa_fvR (by decide) (Nat.lt_of_lt_of_le (by decide +kernel) h), show fa_rf 181 71 = 224 by decide +kernel]
theorem fr_181_73 {ci b T : Nat} {w : fa_W} (hc : ci = 10) (h : fa_TM ≤ T) : fa_fv ci b T w 181 73 = .ref (b + 225) := by subst hc; rw [fa_fvR (by decide) (Nat.lt_of_lt_of_le (by decide +kernel) h), show fa_rf 181 73 = 225 by decide +kernel]
theorem fr_181_75 {ci b T : Nat} {w : fa_W} (hc : ci = 10) (h : fa_TM ≤ T) : fa_fv ci b T w 181 75 = .ref (b + 226) := by subst hc; rw [fa_fvR (by decide) (Nat.lt_of_lt_of_le (by decide +kernel) h), show fa_rf 181 75 = 226 by decide +kernel]
theorem fr_181_76 {ci b T : Nat} {w : fa_W} (hc : ci = 10) (h : fa_TM ≤ T) : fa_fv ci b T w 181 76 = .ref (b + 227) := by subst hc; rw [fa_fvR (by decide) (Nat.lt_of_lt_of_le (by decide +kernel) h), show fa_rf 181 76 = 227 by decide +kernel]
theorem fr_181_77 {ci b T : Nat} {w : fa_W} (hc : ci = 10) (h : fa_TM ≤ T) : fa_fv ci b T w 181 77 = .ref (b + 228) := by subst hc; rw [fa_fvR (by decide) (Nat.lt_of_lt_of_le (by decide +kernel) h), show fa_rf 181 77 = 228 by decide +kernel]
theorem fr_181_78 {ci b T : Nat} {w : fa_W} (hc : ci = 10) (h : fa_TM ≤ T) : fa_fv ci b T w 181 78 = .ref (b + 229) := by subst hc; rw [fa_fvR (by decide) (Nat.lt_of_lt_of_le (by decide +kernel) h), show fa_rf 181 78 = 229 by decide +kernel]
theorem fr_181_79 {ci b T : Nat} {w : fa_W} (hc : ci = 10) (h : fa_TM ≤ T) : fa_fv ci b T w 181 79 = .ref (b + 230) := by subst hc; rw [fa_fvR (by decide) (Nat.lt_of_lt_of_le (by decide +kernel) h), show fa_rf 181 79 = 230 by decide +kernel]
theorem fr_181_80 {ci b T : Nat} {w : fa_W} (hc : ci = 10) (h : fa_TM ≤ T) : fa_fv ci b T w 181 80 = .ref (b + 231) := by subst hc; rw [fa_fvR (by decide) (Nat.lt_of_lt_of_le (by decide +kernel) h), show fa_rf 181 80 = 231 by decide +kernel]
theorem fr_181_81 {ci b T : Nat} {w : fa_W} (hc : ci = 10) (h : fa_TM ≤ T) : fa_fv ci b T w 181 81 = .ref (b + 232) := by subst hc; rw [fa_fvR (by decide) (Nat.lt_of_lt_of_le (by decide +kernel) h), show fa_rf 181 81 = 232 by decide +kernel]
theorem fr_181_82 {ci b T : Nat} {w : fa_W} (hc : ci = 10) (h : fa_TM ≤ T) : fa_fv ci b T w 181 82 = .ref (b + 233) := by subst hc; rw [fa_fvR (by decide) (Nat.lt_of_lt_of_le (by decide +kernel) h), show fa_rf 181 82 = 233 by decide +kernel]
theorem fr_181_83 {ci b T : Nat} {w : fa_W} (hc : ci = 10) (h : fa_TM ≤ T) : fa_fv ci b T w 181 83 = .ref (b + 234) := by subst hc; rw [fa_fvR (by decide) (Nat.lt_of_lt_of_le (by decide +kernel) h), show fa_rf 181 83 = 234 by decide +kernel]
theorem fr_181_84 {ci b T : Nat} {w : fa_W} (hc : ci = 10) (h : fa_TM ≤ T) : fa_fv ci b T w 181 84 = .ref (b + 235) := by subst hc; rw [fa_fvR (by decide) (Nat.lt_of_lt_of_le (by decide +kernel) h), show fa_rf 181 84 = 235 by decide +kernel]
theorem fr_181_85 {ci b T : Nat} {w : fa_W} (hc : ci = 10) (h : fa_TM ≤ T) : fa_fv ci b T w 181 85 = .ref (b + 236) := by subst hc; rw [fa_fvR (by decide) (Nat.lt_of_lt_of_le (by decide +kernel) h), show fa_rf 181 85 = 236 by decide +kernel]
theorem fs_182 : fa_sh 182 = (101, 400) := by decide +kernel
theorem fn_182 {N : Nat} (h : fa_NM ≤ N) : 182 < N := Nat.lt_of_lt_of_le (by decide) h
theorem fs_183 : fa_sh 183 = (100, 5) := by decide +kernel
theorem fn_183 {N : Nat} (h : fa_NM ≤ N) : 183 < N := Nat.lt_of_lt_of_le (by decide) h
theorem fs_184 : fa_sh 184 = (100, 101) := by decide +kernel
theorem fn_184 {N : Nat} (h : fa_NM ≤ N) : 184 < N := Nat.lt_of_lt_of_le (by decide) h
theorem fs_185 : fa_sh 185 = (100, 101) := by decide +kernel
theorem fn_185 {N : Nat} (h : fa_NM ≤ N) : 185 < N := Nat.lt_of_lt_of_le (by decide) h
theorem fs_186 : fa_sh 186 = (100, 101) := by decide +kernel
theorem fn_186 {N : Nat} (h : fa_NM ≤ N) : 186 < N := Nat.lt_of_lt_of_le (by decide) h
theorem fs_187 : fa_sh 187 = (100, 101) := by decide +kernel
theorem fn_187 {N : Nat} (h : fa_NM ≤ N) : 187 < N := Nat.lt_of_lt_of_le (by decide) h
theorem fs_188 : fa_sh 188 = (100, 101) := by decide +kernel
theorem fn_188 {N : Nat} (h : fa_NM ≤ N) : 188 < N := Nat.lt_of_lt_of_le (by decide) h
theorem fs_189 : fa_sh 189 = (100, 24) := by decide +kernel
theorem fn_189 {N : Nat} (h : fa_NM ≤ N) : 189 < N := Nat.lt_of_lt_of_le (by decide) h
theorem fs_190 : fa_sh 190 = (100, 6) := by decide +kernel
theorem fn_190 {N : Nat} (h : fa_NM ≤ N) : 190 < N := Nat.lt_of_lt_of_le (by decide) h
theorem fs_191 : fa_sh 191 = (100, 24) := by decide +kernel
theorem fn_191 {N : Nat} (h : fa_NM ≤ N) : 191 < N := Nat.lt_of_lt_of_le (by decide) h
theorem fs_192 : fa_sh 192 = (100, 124) := by decide +kernel
theorem fn_192 {N : Nat} (h : fa_NM ≤ N) : 192 < N := Nat.lt_of_lt_of_le (by decide) h
theorem fs_193 : fa_sh 193 = (100, 124) := by decide +kernel
theorem fn_193 {N : Nat} (h : fa_NM ≤ N) : 193 < N := Nat.lt_of_lt_of_le (by decide) h
theorem fs_194 : fa_sh 194 = (100, 101) := by decide +kernel
theorem fn_194 {N : Nat} (h : fa_NM ≤ N) : 194 < N := Nat.lt_of_lt_of_le (by decide) h
theorem fs_195 : fa_sh 195 = (100, 101) := by decide +kernel
theorem fn_195 {N : Nat} (h : fa_NM ≤ N) : 195 < N := Nat.lt_of_lt_of_le (by decide) h
theorem fs_196 : fa_sh 196 = (101, 40000) := by decide +kernel
theorem fn_196 {N : Nat} (h : fa_NM ≤ N) : 196 < N := Nat.lt_of_lt_of_le (by decide) h
theorem fs_197 : fa_sh 197 = (101, 40000) := by decide +kernel
theorem fn_197 {N : Nat} (h : fa_NM ≤ N) : 197 < N := Nat.lt_of_lt_of_le (by decide) h
theorem fs_198 : fa_sh 198 = (100, 124) := by decide +kernel
theorem fn_198 {N : Nat} (h : fa_NM ≤ N) : 198 < N := Nat.lt_of_lt_of_le (by decide) h
theorem fs_199 : fa_sh 199 = (100, 1200) := by decide +kernel
theorem fn_199 {N : Nat} (h : fa_NM ≤ N) : 199 < N := Nat.lt_of_lt_of_le (by decide) h
theorem fs_200 : fa_sh 200 = (100, 1200) := by decide +kernel
theorem fn_200 {N : Nat} (h : fa_NM ≤ N) : 200 < N := Nat.lt_of_lt_of_le (by decide) h
theorem fs_201 : fa_sh 201 = (100, 1200) := by decide +kernel
theorem fn_201 {N : Nat} (h : fa_NM ≤ N) : 201 < N := Nat.lt_of_lt_of_le (by decide) h
theorem fs_202 : fa_sh 202 = (100, 1200) := by decide +kernel
theorem fn_202 {N : Nat} (h : fa_NM ≤ N) : 202 < N := Nat.lt_of_lt_of_le (by decide) h
theorem fs_203 : fa_sh 203 = (100, 101) := by decide +kernel
theorem fn_203 {N : Nat} (h : fa_NM ≤ N) : 203 < N := Nat.lt_of_lt_of_le (by decide) h
theorem fs_204 : fa_sh 204 = (100, 124) := by decide +kernel
theorem fn_204 {N : Nat} (h : fa_NM ≤ N) : 204 < N := Nat.lt_of_lt_of_le (by decide) h
theorem fs_205 : fa_sh 205 = (100, 1200) := by decide +kernel
theorem fn_205 {N : Nat} (h : fa_NM ≤ N) : 205 < N := Nat.lt_of_lt_of_le (by decide) h
theorem fs_206 : fa_sh 206 = (100, 24) := by decide +kernel
theorem fn_206 {N : Nat} (h : fa_NM ≤ N) : 206 < N := Nat.lt_of_lt_of_le (by decide) h
theorem fs_207 : fa_sh 207 = (100, 124) := by decide +kernel
theorem fn_207 {N : Nat} (h : fa_NM ≤ N) : 207 < N := Nat.lt_of_lt_of_le (by decide) h
theorem fs_208 : fa_sh 208 = (100, 24) := by decide +kernel
theorem fn_208 {N : Nat} (h : fa_NM ≤ N) : 208 < N := Nat.lt_of_lt_of_le (by decide) h
theorem fs_209 : fa_sh 209 = (100, 101) := by decide +kernel
theorem fn_209 {N : Nat} (h : fa_NM ≤ N) : 209 < N := Nat.lt_of_lt_of_le (by decide) h
theorem fs_210 : fa_sh 210 = (100, 101) := by decide +kernel
theorem fn_210 {N : Nat} (h : fa_NM ≤ N) : 210 < N := Nat.lt_of_lt_of_le (by decide) h
theorem fs_211 : fa_sh 211 = (100, 101) := by decide +kernel
theorem fn_211 {N : Nat} (h : fa_NM ≤ N) : 211 < N := Nat.lt_of_lt_of_le (by decide) h
theorem fs_212 : fa_sh 212 = (102, 101) := by decide +kernel
theorem fn_212 {N : Nat} (h : fa_NM ≤ N) : 212 < N := Nat.lt_of_lt_of_le (by decide) h
theorem fs_213 : fa_sh 213 = (100, 2976) := by decide +kernel
theorem fn_213 {N : Nat} (h : fa_NM ≤ N) : 213 < N := Nat.lt_of_lt_of_le (by decide) h
theorem fs_214 : fa_sh 214 = (100, 24) := by decide +kernel
theorem fn_214 {N : Nat} (h : fa_NM ≤ N) : 214 < N := Nat.lt_of_lt_of_le (by decide) h
theorem fs_215 : fa_sh 215 = (100, 72) := by decide +kernel
theorem fn_215 {N : Nat} (h : fa_NM ≤ N) : 215 < N := Nat.lt_of_lt_of_le (by decide) h
theorem fs_216 : fa_sh 216 = (100, 3) := by decide +kernel
theorem fn_216 {N : Nat} (h : fa_NM ≤ N) : 216 < N := Nat.lt_of_lt_of_le (by decide) h
theorem fs_217 : fa_sh 217 = (100, 24) := by decide +kernel
theorem fn_217 {N : Nat} (h : fa_NM ≤ N) : 217 < N := Nat.lt_of_lt_of_le (by decide) h
theorem fs_218 : fa_sh 218 = (100, 24) := by decide +kernel
theorem fn_218 {N : Nat} (h : fa_NM ≤ N) : 218 < N := Nat.lt_of_lt_of_le (by decide) h
theorem fs_219 : fa_sh 219 = (100, 24) := by decide +kernel
theorem fn_219 {N : Nat} (h : fa_NM ≤ N) : 219 < N := Nat.lt_of_lt_of_le (by decide) h
theorem fs_220 : fa_sh 220 = (100, 24) := by decide +kernel
theorem fn_220 {N : Nat} (h : fa_NM ≤ N) : 220 < N := Nat.lt_of_lt_of_le (by decide) h
theorem fs_221 : fa_sh 221 = (100, 500) := by decide +kernel
theorem fn_221 {N : Nat} (h : fa_NM ≤ N) : 221 < N := Nat.lt_of_lt_of_le (by decide) h
theorem fs_222 : fa_sh 222 = (100, 500) := by decide +kernel
theorem fn_222 {N : Nat} (h : fa_NM ≤ N) : 222 < N := Nat.lt_of_lt_of_le (by decide) h
theorem fs_223 : fa_sh 223 = (100, 25) := by decide +kernel
theorem fn_223 {N : Nat} (h : fa_NM ≤ N) : 223 < N := Nat.lt_of_lt_of_le (by decide) h
theorem fs_224 : fa_sh 224 = (101, 40000) := by decide +kernel
theorem fn_224 {N : Nat} (h : fa_NM ≤ N) : 224 < N := Nat.lt_of_lt_of_le (by decide) h
theorem fs_225 : fa_sh 225 = (100, 1200) := by decide +kernel
theorem fn_225 {N : Nat} (h : fa_NM ≤ N) : 225 < N := Nat.lt_of_lt_of_le (by decide) h
theorem fs_226 : fa_sh 226 = (100, 55000) := by decide +kernel
theorem fn_226 {N : Nat} (h : fa_NM ≤ N) : 226 < N := Nat.lt_of_lt_of_le (by decide) h
theorem fs_227 : fa_sh 227 = (100, 55000) := by decide +kernel
theorem fn_227 {N : Nat} (h : fa_NM ≤ N) : 227 < N := Nat.lt_of_lt_of_le (by decide) h
theorem fs_228 : fa_sh 228 = (100, 55000) := by decide +kernel
theorem fn_228 {N : Nat} (h : fa_NM ≤ N) : 228 < N := Nat.lt_of_lt_of_le (by decide) h
theorem fs_229 : fa_sh 229 = (100, 13640) := by decide +kernel
theorem fn_229 {N : Nat} (h : fa_NM ≤ N) : 229 < N := Nat.lt_of_lt_of_le (by decide) h
theorem fs_230 : fa_sh 230 = (100, 13640) := by decide +kernel
theorem fn_230 {N : Nat} (h : fa_NM ≤ N) : 230 < N := Nat.lt_of_lt_of_le (by decide) h
theorem fs_231 : fa_sh 231 = (100, 13640) := by decide +kernel
theorem fn_231 {N : Nat} (h : fa_NM ≤ N) : 231 < N := Nat.lt_of_lt_of_le (by decide) h
theorem fs_232 : fa_sh 232 = (100, 110) := by decide +kernel
theorem fn_232 {N : Nat} (h : fa_NM ≤ N) : 232 < N := Nat.lt_of_lt_of_le (by decide) h
theorem fs_233 : fa_sh 233 = (100, 110) := by decide +kernel
theorem fn_233 {N : Nat} (h : fa_NM ≤ N) : 233 < N := Nat.lt_of_lt_of_le (by decide) h
theorem fs_234 : fa_sh 234 = (100, 110) := by decide +kernel
theorem fn_234 {N : Nat} (h : fa_NM ≤ N) : 234 < N := Nat.lt_of_lt_of_le (by decide) h
theorem fs_235 : fa_sh 235 = (100, 110) := by decide +kernel
theorem fn_235 {N : Nat} (h : fa_NM ≤ N) : 235 < N := Nat.lt_of_lt_of_le (by decide) h
theorem fs_236 : fa_sh 236 = (100, 110) := by decide +kernel
theorem fn_236 {N : Nat} (h : fa_NM ≤ N) : 236 < N := Nat.lt_of_lt_of_le (by decide) h
theorem fs_237 : fa_sh 237 = (103, 1) := by decide +kernel
theorem fo_1 : (fa_sh 1).1 = 6 := by decide +kernel
theorem fo_3 : (fa_sh 3).1 = 6 := by decide +kernel
theorem fo_5 : (fa_sh 5).1 = 6 := by decide +kernel
theorem fo_8 : (fa_sh 8).1 = 4 := by decide +kernel
theorem fo_35 : (fa_sh 35).1 = 6 := by decide +kernel
theorem fo_38 : (fa_sh 38).1 = 6 := by decide +kernel
theorem fo_40 : (fa_sh 40).1 = 6 := by decide +kernel
theorem fo_42 : (fa_sh 42).1 = 6 := by decide +kernel
theorem fo_45 : (fa_sh 45).1 = 6 := by decide +kernel
theorem fo_47 : (fa_sh 47).1 = 6 := by decide +kernel
theorem fo_49 : (fa_sh 49).1 = 6 := by decide +kernel
theorem fo_51 : (fa_sh 51).1 = 6 := by decide +kernel
theorem fo_53 : (fa_sh 53).1 = 6 := by decide +kernel
