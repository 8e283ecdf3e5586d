theorem fa_no {A : Type} {r : A} {P : Prop} (h : (none : Option A) = some r) : P := by cases h
theorem fa_nz {A : Type} {c : Prop} [Decidable c] {x : Option A} {r : A} (h : (if c then none else x) = some r) : ¬ c ∧ x = some r := by
  by_cases q : c
  · rw [if_pos q] at h; cases h
  · rw [if_neg q] at h; exact ⟨q, h⟩
theorem fa_l2_e {A B C : Type} {x : A × B} {f : A → B → C} {r : C} {a : A} {b : B} (h : fa_l2 x f = r) (e : x = (a, b)) : f a b = r := by subst e; exact h
theorem fa_nb (B : Bool) : narrow .boolean (.int (fa_I (fa_bi B))) = .int (fa_I (fa_bi B)) ∧ fits .boolean (.int (fa_I (fa_bi B))) = true := by cases B <;> exact ⟨rfl, rfl⟩
section FaExtra
variable {p : Program} {l : Launch} {e : Env} {R : Room} {s : State} {m : MethodId} {args : Array Value} {below : List Frame} {meth : Method} {c : Code} {cells slots : Nat} {Q : State → Prop}
variable {D : va_G} {b : Nat} {aC : Nat → ClassId} {H0 : Heap} {N T : Nat} {cc : ByteArray} {nL : Nat} {ret : Option FieldType} {own : String} {w w1 : fa_W} {pc : Nat} {lv : List (Nat × Value)} {st : List Value}
theorem g_ldc_w (X : fa_GX p s m args meth c cc nL ret own D b aC) {i : Nat} {v : Int32} {n : Int} (hw : Cond.constant own i v ∈ fa_wG) (hv : v = fa_I n) (hd : decode cc pc = .ok (.ldc_w i, 3)) (k : fa_GJ p l e R s m args below meth c cells slots Q D b aC H0 N T nL w (pc + 3) lv (.int (fa_I n) :: st)) : fa_GJ p l e R s m args below meth c cells slots Q D b aC H0 N T nL w pc lv st := fun H locs ls hP hS hl => lv_ldcw X.1.1 X.1.2.1 X.1.2.2.2.1 (X.1.2.2.2.2 _ hw) hd (hv ▸ k H locs ls hP hS hl)
def fa_max (x y : Int) : Int := if fa_wr x < fa_wr y then y else x
theorem g_mmax (X : fa_GX p s m args meth c cc nL ret own D b aC) {idx : Nat} {x y : Int} {hh mc ms : Nat} (hg : 1 ≤ hh) (hw : Cond.methodLink own idx Lib.Math.max.name ∈ fa_wG) (hs : ((st.map fun v => v.category).sum ≤ 8)) (hd : decode cc pc = .ok (.invokestatic idx, 3)) (k : fa_GJ p l e (fa_rmc hh mc ms) s m args below meth c 0 0 Q D b aC H0 N T nL w (pc + 3) lv (.int (fa_I (fa_max x y)) :: st)) : fa_GJ p l e (fa_rmc hh mc ms) s m args below meth c 0 0 Q D b aC H0 N T nL w pc lv (.int (fa_I y) :: .int (fa_I x) :: st) := fun H locs ls hP hS hl => by
  refine va_mmax X.1.1 X.1.2.1 (X.1.2.2.1.trans hl.1.symm) X.1.2.2.2.1 (X.1.2.2.2.2 _ hw) (X.1.2.2.2.2 _ (wd_41 : Cond.static Lib.Math.max.name ∈ fa_wG)) (X.1.2.2.2.2 _ wd_3) (X.1.2.2.2.2 _ (wd_42 : Cond.code Lib.Math.max.name Lib.Math.max.code 2 (some .int) ∈ fa_wG)) hg (by show _ ≤ 40 * hh; omega) (Nat.zero_le _) (Nat.zero_le _) hd ?_
  have e : fa_I (fa_max x y) = if fa_I x < fa_I y then fa_I y else fa_I x := by
    unfold fa_max
    by_cases q : fa_wr x < fa_wr y
    · rw [if_pos q, if_pos (fa_wrlt.mpr q)]
    · rw [if_neg q, if_neg (fun z => q (fa_wrlt.mp z))]
  rw [← e]
  exact k H locs ls hP hS hl
def fa_min (x y : Int) : Int := if fa_wr y < fa_wr x then y else x
theorem g_mmin (X : fa_GX p s m args meth c cc nL ret own D b aC) {idx : Nat} {x y : Int} {hh mc ms : Nat} (hg : 1 ≤ hh) (hw : Cond.methodLink own idx Lib.Math.min.name ∈ fa_wG) (hs : ((st.map fun v => v.category).sum ≤ 8)) (hd : decode cc pc = .ok (.invokestatic idx, 3)) (k : fa_GJ p l e (fa_rmc hh mc ms) s m args below meth c 0 0 Q D b aC H0 N T nL w (pc + 3) lv (.int (fa_I (fa_min x y)) :: st)) : fa_GJ p l e (fa_rmc hh mc ms) s m args below meth c 0 0 Q D b aC H0 N T nL w pc lv (.int (fa_I y) :: .int (fa_I x) :: st) := fun H locs ls hP hS hl => by
  refine va_mmin X.1.1 X.1.2.1 (X.1.2.2.1.trans hl.1.symm) X.1.2.2.2.1 (X.1.2.2.2.2 _ hw) (X.1.2.2.2.2 _ (wd_711 : Cond.static Lib.Math.min.name ∈ fa_wG)) (X.1.2.2.2.2 _ wd_3) (X.1.2.2.2.2 _ (wd_712 : Cond.code Lib.Math.min.name Lib.Math.min.code 2 (some .int) ∈ fa_wG)) hg (by show _ ≤ 40 * hh; omega) (Nat.zero_le _) (Nat.zero_le _) hd ?_
  have e : fa_I (fa_min x y) = if fa_I y < fa_I x then fa_I y else fa_I x := by
    unfold fa_min
    by_cases q : fa_wr y < fa_wr x
    · rw [if_pos q, if_pos (fa_wrlt.mpr q)]
    · rw [if_neg q, if_neg (fun z => q (fa_wrlt.mp z))]
  rw [← e]
  exact k H locs ls hP hS hl
def fa_cy (w : fa_W) (o1 o2 sp dp n : Nat) : fa_W := fun o k => if o = o2 ∧ dp ≤ k ∧ k < dp + n then w o1 (sp + (k - dp)) else w o k
theorem fa_cy_row {w : fa_W} {o1 o2 sp dp n o : Nat} (h : o ≠ o2) : fa_cy w o1 o2 sp dp n o = w o := by
  funext k
  exact if_neg (fun q => h q.1)
theorem fa_nlt {x : Int} (h : 0 ≤ fa_wr x) : ¬ fa_I x < 0 := fun q => by
  have q2 : fa_wr x < 0 := (fa_wrlt (y := 0)).mp q
  omega
theorem g_acopy (X : fa_GX p s m args meth c cc nL ret own D b aC) {o1 o2 n1 n2 idx : Nat} {sp dp n : Int} {hh mc ms : Nat} (hg : 1 ≤ hh) (h1 : fa_sh o1 = (100, n1)) (hN1 : o1 < N) (h2 : fa_sh o2 = (100, n2)) (hN2 : o2 < N) (hc : ¬ ¬ (0 ≤ fa_wr sp ∧ 0 ≤ fa_wr dp ∧ 0 ≤ fa_wr n ∧ fa_wr sp + fa_wr n ≤ n1 ∧ fa_wr dp + fa_wr n ≤ n2)) (hw : Cond.methodLink own idx arraycopyName ∈ fa_wG) (hs : ((st.map fun v => v.category).sum ≤ 8)) (hd : decode cc pc = .ok (.invokestatic idx, 3)) (k : ∀ w', w' = fa_cy w o1 o2 (fa_wr sp).toNat (fa_wr dp).toNat (fa_wr n).toNat → fa_GJ p l e (fa_rmc hh mc ms) s m args below meth c 0 0 Q D b aC H0 N T nL w' (pc + 3) lv st) : fa_GJ p l e (fa_rmc hh mc ms) s m args below meth c 0 0 Q D b aC H0 N T nL w pc lv (.int (fa_I n) :: .int (fa_I dp) :: .ref (b + o2) :: .int (fa_I sp) :: .ref (b + o1) :: st) := fun H locs ls hP hS hl => by
  obtain ⟨c1, c2, c3, c4, c5⟩ := Classical.not_not.mp hc
  have hn : nativeFrameWords "java/lang/System" "arraycopy" 5 = 7 := by decide
  refine va_copyi X.1.1 X.1.2.1 (X.1.2.2.1.trans hl.1.symm) X.1.2.2.2.1 (X.1.2.2.2.2 _ hw) (X.1.2.2.2.2 _ (wd_1404 : Cond.native arraycopyName ∈ fa_wG)) (X.1.2.2.2.2 _ (wd_1403 : Cond.static arraycopyName ∈ fa_wG)) (X.1.2.2.2.2 _ wd_21) X.2.2.2.1.1 hP.1 (fa_D b aC N T w) hS o1 o2 0 0 (fa_GS_ia hP h1 hN1) (fa_GS_ia hP h2 hN2) rfl rfl rfl (fa_nlt c1) (fa_nlt c2) (fa_nlt c3) (by show (fa_wr sp).toNat + (fa_wr n).toNat ≤ n1; omega) (by show (fa_wr dp).toNat + (fa_wr n).toNat ≤ n2; omega) (fun _ _ => rfl) hg (by rw [hn]; show _ ≤ 40 * hh; omega) hd (fun H1 locs1 hP1 _ hS1 => ?_)
  have he : fa_ent b aC T (fa_cy w o1 o2 (fa_wr sp).toNat (fa_wr dp).toNat (fa_wr n).toNat) o2 = .inl (aC 0, n2, .inl (va_cpy (fun j => fa_I (w o1 j)) (fun j => fa_I (w o2 j)) (fa_I sp).toNatClampNeg (fa_I dp).toNatClampNeg (fa_I n).toNatClampNeg)) := by
    unfold fa_ent
    rw [h2]
    refine congrArg (fun f => (Sum.inl (aC 0, n2, Sum.inl f) : va_E)) (funext fun q => ?_)
    show fa_I (if o2 = o2 ∧ (fa_wr dp).toNat ≤ q ∧ q < (fa_wr dp).toNat + (fa_wr n).toNat then w o1 ((fa_wr sp).toNat + (q - (fa_wr dp).toNat)) else w o2 q) = if (fa_wr dp).toNat ≤ q ∧ q < (fa_wr dp).toNat + (fa_wr n).toNat then fa_I (w o1 ((fa_wr sp).toNat + (q - (fa_wr dp).toNat))) else fa_I (w o2 q)
    by_cases hq : (fa_wr dp).toNat ≤ q ∧ q < (fa_wr dp).toNat + (fa_wr n).toNat
    · rw [if_pos ⟨rfl, hq⟩, if_pos hq]
    · rw [if_neg (fun z => hq z.2), if_neg hq]
  rw [fa_ws_set he (fun o' h => fa_cy_row h)] at hP1
  exact k _ rfl H1 locs1 ls (fa_GS_next X hP hS hP1 hS1) hS1 hl
end FaExtra
