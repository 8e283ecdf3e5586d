/-! the class's COMES: its sets, and how they grow -/
def px_Fo (o : Nat) : Prop := (fa_rf o 0 = o + 1 ∧ fa_rf o 1 = o + 3 ∧ fa_rf o 2 = o + 5 ∧ fa_rf o 3 = o + 7 ∧ fa_rf o 4 = o + 9) ∧ (fa_rf (o + 1) 0 = o + 1 + 1 ∧ fa_rf (o + 3) 0 = o + 3 + 1 ∧ fa_rf (o + 5) 0 = o + 5 + 1 ∧ fa_rf (o + 7) 0 = o + 7 + 1 ∧ fa_rf (o + 9) 0 = o + 9 + 1) ∧ (fa_cp (o + 1) = 100 ∧ fa_cp (o + 3) = 74 ∧ fa_cp (o + 5) = 24 ∧ fa_cp (o + 7) = 24 ∧ fa_cp (o + 9) = 24)
theorem px_Fo_100 : px_Fo 100 := by unfold px_Fo; decide
theorem px_Fo_163 : px_Fo 163 := by unfold px_Fo; decide
def pf_Gi (z : pf_s) : Nat := pf_sum (fun v => pf_pop (z.1 v)) 100 + pf_sum (fun v => pf_pop (z.2.1 v)) 74 + pf_pop z.2.2.1
theorem pf_Gi_le (z : pf_s) : pf_Gi z ≤ 4200 := by
  have a := pf_sum_le (F := fun v => pf_pop (z.1 v)) (fun i => pf_pop_le _) 100
  have b := pf_sum_le (F := fun v => pf_pop (z.2.1 v)) (fun i => pf_pop_le _) 74
  have c := pf_pop_le z.2.2.1
  unfold pf_Gi
  omega
def pf_bi (b : Bool) : Int := if b = true then 1 else 0
/-- the class holds these sets -/
def px_xc (o nd : Nat) (z : pf_s) (b : Bool) (w : fa_W) : Prop := (w (o + 1) 1 = (nd : Int) ∧ w (o + 3) 1 = ((74 : Nat) : Int)) ∧ (∀ i, i < nd → w (o + 2) i = (z.1 i : Int)) ∧ (∀ v, v < 74 → w (o + 4) v = (z.2.1 v : Int)) ∧ w o 6 = (z.2.2.1 : Int) ∧ w o 5 = (z.2.2.2 : Int) ∧ w o 7 = pf_bi b
def pf_le (z z' : pf_s) : Prop := (∀ v f, (z.1 v).testBit f = true → (z'.1 v).testBit f = true) ∧ (∀ v f, (z.2.1 v).testBit f = true → (z'.2.1 v).testBit f = true) ∧ (∀ f, z.2.2.1.testBit f = true → z'.2.2.1.testBit f = true) ∧ ∀ f, z.2.2.2.testBit f = true → z'.2.2.2.testBit f = true
theorem pf_le_refl (z : pf_s) : pf_le z z := ⟨fun _ _ h => h, fun _ _ h => h, fun _ h => h, fun _ h => h⟩
theorem pf_le_tr {a b c : pf_s} (h : pf_le a b) (k : pf_le b c) : pf_le a c := ⟨fun v f q => k.1 v f (h.1 v f q), fun v f q => k.2.1 v f (h.2.1 v f q), fun f q => k.2.2.1 f (h.2.2.1 f q), fun f q => k.2.2.2 f (h.2.2.2 f q)⟩
def pf_xg (nf : Nat) (z : pf_s) (b : Bool) (z' : pf_s) (b' : Bool) : Prop := pf_ok nf z' ∧ pf_Gi z ≤ pf_Gi z' ∧ pf_le z z' ∧ (b' = false ↔ b = false ∧ pf_Gi z' = pf_Gi z) ∧ (pf_Gi z' = pf_Gi z → z'.1 = z.1 ∧ z'.2.1 = z.2.1 ∧ z'.2.2.1 = z.2.2.1)
theorem pf_xg_refl {nf : Nat} {z : pf_s} (b : Bool) (h : pf_ok nf z) : pf_xg nf z b z b := ⟨h, Nat.le_refl _, pf_le_refl z, ⟨fun e => ⟨e, rfl⟩, fun e => e.1⟩, fun _ => ⟨rfl, rfl, rfl⟩⟩
theorem pf_xg_tr {nf : Nat} {z1 z2 z3 : pf_s} {b1 b2 b3 : Bool} (h : pf_xg nf z1 b1 z2 b2) (k : pf_xg nf z2 b2 z3 b3) : pf_xg nf z1 b1 z3 b3 := by
  obtain ⟨_, p2, p3, p4, p5⟩ := h
  obtain ⟨q1, q2, q3, q4, q5⟩ := k
  refine ⟨q1, by omega, pf_le_tr p3 q3, ⟨fun e => ?_, fun e => ?_⟩, fun e => ?_⟩
  · obtain ⟨e1, e2⟩ := q4.mp e
    obtain ⟨e3, e4⟩ := p4.mp e1
    exact ⟨e3, by omega⟩
  · exact q4.mpr ⟨p4.mpr ⟨e.1, by omega⟩, by omega⟩
  · obtain ⟨a1, a2, a3⟩ := p5 (by omega)
    obtain ⟨b1, b2, b3⟩ := q5 (by omega)
    exact ⟨b1.trans a1, b2.trans a2, b3.trans a3⟩
theorem pf_pop_eq {a b : Nat} (h : ∀ k, a.testBit k = true → b.testBit k = true) (ha : a < 2 ^ 24) (hb : b < 2 ^ 24) (e : pf_pop b = pf_pop a) : b = a := by
  refine pf_eq hb ha (fun k hk => ⟨fun q => ?_, h k⟩)
  cases ea : a.testBit k with
  | true => rfl
  | false =>
    have := pf_pop_lt (fun k _ => h k) hk q ea
    omega
theorem pf_set_self {A : Type} (f : Nat → A) (k : Nat) : pu_set f k (f k) = f := funext fun i => by
  by_cases q : i = k
  · rw [q, pu_set_eq]
  · rw [pu_set_ne _ _ q]
/-- a THING's set -/
theorem pf_up_C {nf i x : Nat} {z : pf_s} {b : Bool} (h24 : nf ≤ 24) (ok : pf_ok nf z) (hi : i < 100) (hx : x < 2 ^ nf) (hs : ∀ f, (z.1 i).testBit f = true → x.testBit f = true) : pf_xg nf z b (pu_set z.1 i x, z.2) (b || decide (x ≠ z.1 i)) := by
  have s := pf_sum_set (F := fun v => pf_pop (z.1 v)) (F' := fun v => pf_pop (pu_set z.1 i x v)) (v := i) (fun j hj => by rw [pu_set_ne _ _ hj]) 100 hi
  rw [pu_set_eq] at s
  have m := pf_pop_mono hs
  have eq : pf_pop x = pf_pop (z.1 i) → x = z.1 i := pf_pop_eq hs (pf_two h24 (ok.1 i)) (pf_two h24 hx)
  have g : pf_Gi (pu_set z.1 i x, z.2) = pf_Gi z ↔ x = z.1 i := by
    unfold pf_Gi
    dsimp only
    constructor
    · intro e; exact eq (by omega)
    · intro e
      rw [e] at s ⊢
      omega
  refine ⟨⟨fun v => ?_, ok.2⟩, ?_, ⟨fun v f h => ?_, fun _ _ h => h, fun _ h => h, fun _ h => h⟩, ?_, fun e => ⟨?_, rfl, rfl⟩⟩
  · dsimp only
    by_cases ev : v = i
    · rw [ev, pu_set_eq]; exact hx
    · rw [pu_set_ne _ _ ev]; exact ok.1 v
  · unfold pf_Gi
    dsimp only
    omega
  · dsimp only
    by_cases ev : v = i
    · rw [ev] at h ⊢; rw [pu_set_eq]; exact hs f h
    · rw [pu_set_ne _ _ ev]; exact h
  · rw [g]
    by_cases ex : x = z.1 i
    · rw [decide_eq_false (by rw [ex]; exact fun k => k rfl), Bool.or_false]
      exact ⟨fun k => ⟨k, ex⟩, fun k => k.1⟩
    · rw [decide_eq_true ex, Bool.or_true]
      exact ⟨fun k => (by cases k), fun k => absurd k.2 ex⟩
  · dsimp only
    rw [g.mp e, pf_set_self]
theorem pf_up_H {nf i x : Nat} {z : pf_s} {b : Bool} (h24 : nf ≤ 24) (ok : pf_ok nf z) (hi : i < 74) (hx : x < 2 ^ nf) : pf_xg nf z b (z.1, pu_set z.2.1 i (z.2.1 i ||| x), z.2.2) (b || decide (z.2.1 i ||| x ≠ z.2.1 i)) := by
  have hs : ∀ f, (z.2.1 i).testBit f = true → (z.2.1 i ||| x).testBit f = true := fun f h => by rw [Nat.testBit_or, h]; rfl
  have hor := Nat.or_lt_two_pow (ok.2.1 i) hx
  generalize z.2.1 i ||| x = y at hs hor
  have s := pf_sum_set (F := fun v => pf_pop (z.2.1 v)) (F' := fun v => pf_pop (pu_set z.2.1 i y v)) (v := i) (fun j hj => by rw [pu_set_ne _ _ hj]) 74 hi
  rw [pu_set_eq] at s
  have m := pf_pop_mono hs
  have eq : pf_pop y = pf_pop (z.2.1 i) → y = z.2.1 i := pf_pop_eq hs (pf_two h24 (ok.2.1 i)) (pf_two h24 hor)
  have g : pf_Gi (z.1, pu_set z.2.1 i y, z.2.2) = pf_Gi z ↔ y = z.2.1 i := by
    unfold pf_Gi
    dsimp only
    constructor
    · intro e; exact eq (by omega)
    · intro e
      rw [e] at s ⊢
      omega
  refine ⟨⟨ok.1, fun v => ?_, ok.2.2⟩, ?_, ⟨fun _ _ h => h, fun v f h => ?_, fun _ h => h, fun _ h => h⟩, ?_, fun e => ⟨rfl, ?_, rfl⟩⟩
  · dsimp only
    by_cases ev : v = i
    · rw [ev, pu_set_eq]; exact hor
    · rw [pu_set_ne _ _ ev]; exact ok.2.1 v
  · unfold pf_Gi
    dsimp only
    omega
  · dsimp only
    by_cases ev : v = i
    · rw [ev] at h ⊢; rw [pu_set_eq]; exact hs f h
    · rw [pu_set_ne _ _ ev]; exact h
  · rw [g]
    by_cases ex : y = z.2.1 i
    · rw [decide_eq_false (by rw [ex]; exact fun k => k rfl), Bool.or_false]
      exact ⟨fun k => ⟨k, ex⟩, fun k => k.1⟩
    · rw [decide_eq_true ex, Bool.or_true]
      exact ⟨fun k => (by cases k), fun k => absurd k.2 ex⟩
  · dsimp only
    rw [g.mp e, pf_set_self]
/-- a FUNCTION is called for the first time -/
theorem pf_up_L {nf k : Nat} {z : pf_s} {b : Bool} (hk : k < nf) (h24 : nf ≤ 24) (ok : pf_ok nf z) (hn : z.2.2.1.testBit k = false) : pf_xg nf z b (z.1, z.2.1, z.2.2.1 ||| 2 ^ k, z.2.2.2) true := by
  have hb : 2 ^ k < 2 ^ nf := Nat.pow_lt_pow_right (by decide) hk
  have lt := pf_pop_lt (a := z.2.2.1) (b := z.2.2.1 ||| 2 ^ k) (fun f _ h => by rw [Nat.testBit_or, h]; rfl) (show k < 24 by omega) (by rw [Nat.testBit_or, pf_one.mpr rfl, Bool.or_true]) hn
  refine ⟨⟨ok.1, ok.2.1, Nat.or_lt_two_pow ok.2.2.1 hb, ok.2.2.2⟩, ?_, ⟨fun _ _ h => h, fun _ _ h => h, fun f h => ?_, fun _ h => h⟩, ?_, fun e => ?_⟩
  · unfold pf_Gi
    dsimp only
    omega
  · dsimp only
    rw [Nat.testBit_or, h]; rfl
  · refine ⟨fun q => (by cases q), fun q => ?_⟩
    have := q.2
    unfold pf_Gi at this
    dsimp only at this
    omega
  · unfold pf_Gi at e
    dsimp only at e
    omega
theorem pf_up_M {nf x : Nat} {z : pf_s} {b : Bool} (ok : pf_ok nf z) (hx : x < 2 ^ nf) : pf_xg nf z b (z.1, z.2.1, z.2.2.1, z.2.2.2 ||| x) b := ⟨⟨ok.1, ok.2.1, ok.2.2.1, Nat.or_lt_two_pow ok.2.2.2 hx⟩, Nat.le_refl _, ⟨fun _ _ h => h, fun _ _ h => h, fun _ h => h, fun f h => by dsimp only; rw [Nat.testBit_or, h]; rfl⟩, ⟨fun e => ⟨e, rfl⟩, fun e => e.1⟩, fun _ => ⟨rfl, rfl, rfl⟩⟩
/-- what COMES of the class may change -/
def px_ff (o : Nat) (w w' : fa_W) : Prop := ∀ i j, ¬ (i = o ∧ 5 ≤ j ∧ j ≤ 7) → ¬ (i = o + 2) → ¬ (i = o + 4) → w' i j = w i j
theorem px_ff_refl (o : Nat) (w : fa_W) : px_ff o w w := fun _ _ _ _ _ => rfl
theorem px_ff_tr {o : Nat} {a b c : fa_W} (h : px_ff o a b) (k : px_ff o b c) : px_ff o a c := fun i j p q r => (k i j p q r).trans (h i j p q r)
theorem px_hold {o nd nf v x : Nat} {z : pf_s} {b : Bool} {w : fa_W} (ho : px_Fo o) (h24 : nf ≤ 24) (hc : px_xc o nd z b w) (ok : pf_ok nf z) (hv : v < 74) (hx : x < 2 ^ nf) : ∃ w', fm_Flow_hold o (v : Int) (x : Int) w = w' ∧ px_xc o nd (z.1, pu_set z.2.1 v (z.2.1 v ||| x), z.2.2) (b || decide (z.2.1 v ||| x ≠ z.2.1 v)) w' ∧ px_ff o w w' := by
  obtain ⟨⟨c1, c2⟩, c3, c4, c5, c6, c7⟩ := hc
  obtain ⟨⟨r0, r1, r2, r3, r4⟩, ⟨s0, s1, s2, s3, s4⟩, m0, m1, m2, m3, m4⟩ := ho
  have la := pf_lt24 (pf_two h24 (ok.2.1 v))
  have hor := Nat.or_lt_two_pow (ok.2.1 v) hx
  have lb := pf_lt24 (pf_two h24 hor)
  refine ⟨_, rfl, ?_⟩
  unfold fm_Flow_hold
  dsimp only [fa_let]
  rw [r1, pb_bits c2 hv (by rw [m1]; exact Nat.le_refl _), s1, show o + 3 + 1 = o + 4 by omega, c4 v hv, pb_or la (pf_lt24 (pf_two h24 hx)), pb_wr lb, pb_wr la]
  by_cases e : z.2.1 v ||| x = z.2.1 v
  · rw [if_pos (by omega), e, pf_set_self, decide_eq_false (fun k => k rfl), Bool.or_false]
    exact ⟨⟨⟨c1, c2⟩, c3, c4, c5, c6, c7⟩, px_ff_refl _ _⟩
  · rw [if_neg (by omega), decide_eq_true e, Bool.or_true, pb_set c2 hv (by rw [m1]; exact Nat.le_refl _), s1, show o + 3 + 1 = o + 4 by omega]
    refine ⟨⟨⟨?_, ?_⟩, fun i hi => ?_, fun u hu => ?_, ?_, ?_, ?_⟩, fun i j p q r => ?_⟩
    · rw [fa_st_ne (by omega), fa_st_ne (by omega)]; exact c1
    · rw [fa_st_ne (by omega), fa_st_ne (by omega)]; exact c2
    · rw [fa_st_ne (by omega), fa_st_ne (by omega)]; exact c3 i hi
    · rw [fa_st_ne (by omega)]
      by_cases eu : u = v
      · rw [eu, fa_st_eq]; dsimp only; rw [pu_set_eq]
      · rw [fa_st_ne (by omega)]; dsimp only; rw [pu_set_ne _ _ eu]; exact c4 u hu
    · rw [fa_st_ne (by omega), fa_st_ne (by omega)]; exact c5
    · rw [fa_st_ne (by omega), fa_st_ne (by omega)]; exact c6
    · rw [fa_st_eq]; rfl
    · rw [fa_st_ne (by omega), fa_st_ne (by omega)]
/-- a THING's set is put -/
theorem px_put {o oP nd nf i x : Nat} {z : pf_s} {b : Bool} {w : fa_W} (ho : px_Fo o) (h24 : nf ≤ 24) (h100 : nd ≤ 100) (hc : px_xc o nd z b w) (ok : pf_ok nf z) (hi : i < nd) (hx : x < 2 ^ nf) : ∃ w', fm_Flow_look_j170 o oP (i : Int) (x : Int) w = some w' ∧ px_xc o nd (pu_set z.1 i x, z.2) (b || decide (x ≠ z.1 i)) w' ∧ px_ff o w w' := by
  obtain ⟨⟨c1, c2⟩, c3, c4, c5, c6, c7⟩ := hc
  obtain ⟨⟨r0, r1, r2, r3, r4⟩, ⟨s0, s1, s2, s3, s4⟩, m0, m1, m2, m3, m4⟩ := ho
  have la := pf_lt24 (pf_two h24 (ok.1 i))
  have lb := pf_lt24 (pf_two h24 hx)
  unfold fm_Flow_look_j170
  dsimp only [fa_let]
  rw [r0, pb_bits c1 hi (by rw [m0]; exact h100), s0, show o + 1 + 1 = o + 2 by omega, c3 i hi, pb_wr lb, pb_wr la]
  by_cases e : x = z.1 i
  · rw [if_pos (by omega)]
    refine ⟨w, rfl, ?_, px_ff_refl _ _⟩
    rw [e, pf_set_self, decide_eq_false (fun k => k rfl), Bool.or_false]
    exact ⟨⟨c1, c2⟩, c3, c4, c5, c6, c7⟩
  · rw [if_neg (by omega), pb_set c1 hi (by rw [m0]; exact h100), s0, show o + 1 + 1 = o + 2 by omega]
    refine ⟨_, rfl, ?_, ?_⟩
    · rw [decide_eq_true e, Bool.or_true]
      refine ⟨⟨?_, ?_⟩, fun u hu => ?_, fun u hu => ?_, ?_, ?_, ?_⟩
      · rw [fa_st_ne (by omega), fa_st_ne (by omega)]; exact c1
      · rw [fa_st_ne (by omega), fa_st_ne (by omega)]; exact c2
      · rw [fa_st_ne (by omega)]
        by_cases eu : u = i
        · rw [eu, fa_st_eq]; dsimp only; rw [pu_set_eq]
        · rw [fa_st_ne (by omega)]; dsimp only; rw [pu_set_ne _ _ eu]; exact c3 u hu
      · rw [fa_st_ne (by omega), fa_st_ne (by omega)]; exact c4 u hu
      · rw [fa_st_ne (by omega), fa_st_ne (by omega)]; exact c5
      · rw [fa_st_ne (by omega), fa_st_ne (by omega)]; exact c6
      · rw [fa_st_eq]; rfl
    · intro i j p q r
      rw [fa_st_ne (by omega), fa_st_ne (by omega)]
