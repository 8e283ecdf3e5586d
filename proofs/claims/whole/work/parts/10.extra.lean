theorem fa_no {A : Type} {r : A} {P : Prop} (h : (none : Option A) = some r) : P := by cases h
theorem fa_nz {A : Type} {c : Prop} [Decidable c] {x : Option A} {r : A} (h : (if c then none else x) = some r) : ¬ c ∧ x = some r := by
  by_cases q : c
  · rw [if_pos q] at h; cases h
  · rw [if_neg q] at h; exact ⟨q, h⟩
theorem fa_l2_e {A B C : Type} {x : A × B} {f : A → B → C} {r : C} {a : A} {b : B} (h : fa_l2 x f = r) (e : x = (a, b)) : f a b = r := by subst e; exact h
theorem fa_nb (B : Bool) : narrow .boolean (.int (fa_I (fa_bi B))) = .int (fa_I (fa_bi B)) ∧ fits .boolean (.int (fa_I (fa_bi B))) = true := by cases B <;> exact ⟨rfl, rfl⟩
section FaExtra
variable {p : Program} {l : Launch} {e : Env} {R : Room} {s : State} {m : MethodId} {args : Array Value} {below : List Frame} {meth : Method} {c : Code} {cells slots : Nat} {Q : State → Prop}
variable {D : va_G} {b : Nat} {aC : Nat → ClassId} {H0 : Heap} {N T : Nat} {cc : ByteArray} {nL : Nat} {ret : Option FieldType} {own : String} {w w1 : fa_W} {pc : Nat} {lv : List (Nat × Value)} {st : List Value}
theorem g_ldc_w (X : fa_GX p s m args meth c cc nL ret own D b aC) {i : Nat} {v : Int32} {n : Int} (hw : Cond.constant own i v ∈ fa_wG) (hv : v = fa_I n) (hd : decode cc pc = .ok (.ldc_w i, 3)) (k : fa_GJ p l e R s m args below meth c cells slots Q D b aC H0 N T nL w (pc + 3) lv (.int (fa_I n) :: st)) : fa_GJ p l e R s m args below meth c cells slots Q D b aC H0 N T nL w pc lv st := fun H locs ls hP hS hl => lv_ldcw X.1.1 X.1.2.1 X.1.2.2.2.1 (X.1.2.2.2.2 _ hw) hd (hv ▸ k H locs ls hP hS hl)
def fa_max (x y : Int) : Int := if fa_wr x < fa_wr y then y else x
theorem g_mmax (X : fa_GX p s m args meth c cc nL ret own D b aC) {idx : Nat} {x y : Int} {hh mc ms : Nat} (hg : 1 ≤ hh) (hw : Cond.methodLink own idx Lib.Math.max.name ∈ fa_wG) (hs : ((st.map fun v => v.category).sum ≤ 8)) (hd : decode cc pc = .ok (.invokestatic idx, 3)) (k : fa_GJ p l e (fa_rmc hh mc ms) s m args below meth c 0 0 Q D b aC H0 N T nL w (pc + 3) lv (.int (fa_I (fa_max x y)) :: st)) : fa_GJ p l e (fa_rmc hh mc ms) s m args below meth c 0 0 Q D b aC H0 N T nL w pc lv (.int (fa_I y) :: .int (fa_I x) :: st) := fun H locs ls hP hS hl => by
  refine va_mmax X.1.1 X.1.2.1 (X.1.2.2.1.trans hl.1.symm) X.1.2.2.2.1 (X.1.2.2.2.2 _ hw) (X.1.2.2.2.2 _ (wd_40 : Cond.static Lib.Math.max.name ∈ fa_wG)) (X.1.2.2.2.2 _ wd_3) (X.1.2.2.2.2 _ (wd_41 : Cond.code Lib.Math.max.name Lib.Math.max.code 2 (some .int) ∈ fa_wG)) hg (by show _ ≤ 40 * hh; omega) (Nat.zero_le _) (Nat.zero_le _) hd ?_
  have e : fa_I (fa_max x y) = if fa_I x < fa_I y then fa_I y else fa_I x := by
    unfold fa_max
    by_cases q : fa_wr x < fa_wr y
    · rw [if_pos q, if_pos (fa_wrlt.mpr q)]
    · rw [if_neg q, if_neg (fun z => q (fa_wrlt.mp z))]
  rw [← e]
  exact k H locs ls hP hS hl
def fa_min (x y : Int) : Int := if fa_wr y < fa_wr x then y else x
theorem g_mmin (X : fa_GX p s m args meth c cc nL ret own D b aC) {idx : Nat} {x y : Int} {hh mc ms : Nat} (hg : 1 ≤ hh) (hw : Cond.methodLink own idx Lib.Math.min.name ∈ fa_wG) (hs : ((st.map fun v => v.category).sum ≤ 8)) (hd : decode cc pc = .ok (.invokestatic idx, 3)) (k : fa_GJ p l e (fa_rmc hh mc ms) s m args below meth c 0 0 Q D b aC H0 N T nL w (pc + 3) lv (.int (fa_I (fa_min x y)) :: st)) : fa_GJ p l e (fa_rmc hh mc ms) s m args below meth c 0 0 Q D b aC H0 N T nL w pc lv (.int (fa_I y) :: .int (fa_I x) :: st) := fun H locs ls hP hS hl => by
  refine va_mmin X.1.1 X.1.2.1 (X.1.2.2.1.trans hl.1.symm) X.1.2.2.2.1 (X.1.2.2.2.2 _ hw) (X.1.2.2.2.2 _ (wd_708 : Cond.static Lib.Math.min.name ∈ fa_wG)) (X.1.2.2.2.2 _ wd_3) (X.1.2.2.2.2 _ (wd_709 : Cond.code Lib.Math.min.name Lib.Math.min.code 2 (some .int) ∈ fa_wG)) hg (by show _ ≤ 40 * hh; omega) (Nat.zero_le _) (Nat.zero_le _) hd ?_
  have e : fa_I (fa_min x y) = if fa_I y < fa_I x then fa_I y else fa_I x := by
    unfold fa_min
    by_cases q : fa_wr y < fa_wr x
    · rw [if_pos q, if_pos (fa_wrlt.mpr q)]
    · rw [if_neg q, if_neg (fun z => q (fa_wrlt.mp z))]
  rw [← e]
  exact k H locs ls hP hS hl
end FaExtra
