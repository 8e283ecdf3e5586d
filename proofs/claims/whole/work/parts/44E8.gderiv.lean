/-! what is told of GROUPS -/
theorem pb_drop_cons {A : Type} {d m : A} {l r : List A} {k : Nat} (h : l.drop k = m :: r) : k < l.length ∧ l.getD k d = m ∧ l.drop (k + 1) = r := by
  have lt : k < l.length := by
    rcases Nat.lt_or_ge k l.length with z | z
    · exact z
    · rw [List.drop_eq_nil_of_le z] at h; cases h
  have e := List.drop_eq_getElem_cons lt
  rw [h] at e
  injection e with e1 e2
  refine ⟨lt, ?_, e2.symm⟩
  rw [List.getD_eq_getElem?_getD, List.getElem?_eq_getElem lt, e1]; rfl
theorem pb_drop_nil {A : Type} {l : List A} {k : Nat} (h : l.drop k = []) (hk : k ≤ l.length) : k = l.length := by
  have := congrArg List.length h
  rw [List.length_drop] at this
  change _ = 0 at this
  omega
def pg_w (C : Nat) : List Nat → Nat
  | [] => 0
  | m :: r => (if m &&& C = 0 then 0 else 1) + pg_w C r
def pg_s (C : Nat) : List Nat → Nat
  | [] => 0
  | m :: r => pf_pop (m &&& C) + pg_s C r
def pg_x (C : Nat) : Nat → List Nat → Nat
  | a, [] => a
  | a, m :: r => pg_x C (max a (pf_pop (m &&& C))) r
def pg_o : List Nat → Nat
  | [] => 0
  | m :: r => m ||| pg_o r
theorem pg_w_le (C : Nat) : ∀ l : List Nat, pg_w C l ≤ l.length := by
  intro l
  induction l with
  | nil => exact Nat.le_refl _
  | cons m r ih =>
    show (if m &&& C = 0 then 0 else 1) + pg_w C r ≤ r.length + 1
    split <;> omega
theorem pf_pop_zero {m : Nat} (hm : m < 2 ^ 24) : pf_pop m = 0 ↔ m = 0 := by
  constructor
  · intro h
    rcases Nat.eq_zero_or_pos m with z | z
    · exact z
    · have := pf_pop_clear hm z; omega
  · intro h; rw [h]; exact pf_pop_0
/-- GROUPS have nobody in common -/
def pg_dj (l : List Nat) : Prop := ∀ i j, i < j → j < l.length → ∀ f, (l.getD i 0).testBit f = true → ¬ (l.getD j 0).testBit f = true
theorem pg_D_of {mk nf : Nat} {mt : Nat → Nat} (hE : pg_E mk mt nf) : ∀ k, k ≤ nf → pg_dj (pg_l mk mt k) := by
  intro k
  induction k with
  | zero => intro _ i j _ hj; cases hj
  | succ k ih =>
    intro hk
    have D := ih (by omega)
    rw [pg_l_s]
    by_cases e : mk.testBit k = true ∧ pf_fi k (pg_l mk mt k) 0 = -1
    · rw [if_pos e]
      intro i j hij hj f hi hjf
      rw [List.length_append] at hj
      change j < (pg_l mk mt k).length + 1 at hj
      have gi : (pg_l mk mt k ++ [mt k]).getD i 0 = (pg_l mk mt k).getD i 0 := by
        rw [List.getD_eq_getElem?_getD, List.getElem?_append_left (by omega), ← List.getD_eq_getElem?_getD]
      rw [gi] at hi
      by_cases ej : j = (pg_l mk mt k).length
      · rw [ej, List.getD_eq_getElem?_getD, List.getElem?_append_right (Nat.le_refl _), Nat.sub_self] at hjf
        change (mt k).testBit f = true at hjf
        have il : i < (pg_l mk mt k).length := by omega
        have hmem : (pg_l mk mt k).getD i 0 ∈ pg_l mk mt k := by
          rw [List.getD_eq_getElem?_getD, List.getElem?_eq_getElem il]; exact List.getElem_mem il
        obtain ⟨g, g1, g2, g3⟩ := (pg_I_of hE k (by omega)).1 _ hmem
        rw [g3] at hi
        have q1 := ((hE g (by omega) g2).2.2 f hi).2.2
        have q2 := ((hE k (by omega) e.1).2.2 f hjf).2.2
        refine pf_fi_ne _ 0 _ hmem ?_ e.2
        rw [g3, ← q1, q2]
        exact (hE k (by omega) e.1).2.1
      · have gj : (pg_l mk mt k ++ [mt k]).getD j 0 = (pg_l mk mt k).getD j 0 := by
          rw [List.getD_eq_getElem?_getD, List.getElem?_append_left (by omega), ← List.getD_eq_getElem?_getD]
        rw [gj] at hjf
        exact D i j hij (by omega) f hi hjf
    · rw [if_neg e]; exact D
theorem pg_fi_iff {l : List Nat} (h : pg_dj l) {k f : Nat} (hk : k < l.length) : (l.getD k 0).testBit f = true ↔ pf_fi f l 0 = (k : Int) := by
  rcases pf_fi_cases f l 0 with ⟨e, no⟩ | ⟨i, i1, e, i3⟩
  · rw [e]
    constructor
    · intro q
      refine absurd q (no _ ?_)
      rw [List.getD_eq_getElem?_getD, List.getElem?_eq_getElem hk]; exact List.getElem_mem hk
    · intro q; omega
  · rw [e]
    constructor
    · intro q
      rcases Nat.lt_trichotomy i k with z | z | z
      · exact absurd q (h i k z hk f i3)
      · rw [z]; congr 1; omega
      · exact absurd i3 (h k i z i1 f q)
    · intro q
      have : k = i := by omega
      rw [this]; exact i3
theorem pg_dj_tail {m : Nat} {r : List Nat} (h : pg_dj (m :: r)) : pg_dj r ∧ ∀ f, m.testBit f = true → ¬ (pg_o r).testBit f = true := by
  refine ⟨fun i j a b f p q => h (i + 1) (j + 1) (by omega) (by rw [List.length_cons]; omega) f p q, fun f hf => ?_⟩
  have key : ∀ (s : List Nat) (c : Nat), (∀ i, i < s.length → s.getD i 0 = (m :: r).getD (c + i) 0) → 0 < c → c + s.length ≤ (m :: r).length → ¬ (pg_o s).testBit f = true := by
    intro s
    induction s with
    | nil => intro c _ _ _ q; rw [show pg_o [] = 0 from rfl, Nat.zero_testBit] at q; cases q
    | cons y s ih =>
      intro c hc c0 cl q
      rw [List.length_cons] at cl
      rw [show pg_o (y :: s) = y ||| pg_o s from rfl, Nat.testBit_or, Bool.or_eq_true] at q
      rcases q with q | q
      · have e := hc 0 (Nat.succ_pos _)
        rw [Nat.add_zero] at e
        change y = _ at e
        rw [e] at q
        exact h 0 c c0 (by omega) f hf q
      · refine ih (c + 1) (fun i hi => ?_) (by omega) (by omega) q
        have e := hc (i + 1) (Nat.succ_lt_succ hi)
        rw [show c + 1 + i = c + (i + 1) by omega]
        exact e
  exact key r 1 (fun i hi => by rw [show 1 + i = i + 1 by omega]; rfl) (by decide) (by rw [List.length_cons]; omega)
theorem pg_sum {C : Nat} : ∀ l : List Nat, pg_dj l → pg_s C l = pf_pop (pg_o l &&& C) := by
  intro l
  induction l with
  | nil => intro _; rw [show pg_o [] = 0 from rfl, Nat.zero_and, pf_pop_0]; rfl
  | cons m r ih =>
    intro h
    obtain ⟨h1, h2⟩ := pg_dj_tail h
    show pf_pop (m &&& C) + pg_s C r = pf_pop ((m ||| pg_o r) &&& C)
    rw [ih h1]
    unfold pf_pop
    rw [← pb_filter_or _ _ _ (fun k _ ⟨x, y⟩ => by
      rw [Nat.testBit_and, Bool.and_eq_true] at x y
      exact h2 k x.1 y.1)]
    congr 1
    exact pb_filter_congr _ _ _ (fun k _ => by
      rw [Nat.testBit_and, Nat.testBit_and, Nat.testBit_and, Nat.testBit_or]
      cases m.testBit k <;> cases (pg_o r).testBit k <;> cases C.testBit k <;> rfl)
theorem pg_o_bit {f : Nat} : ∀ l : List Nat, (pg_o l).testBit f = true ↔ ∃ m ∈ l, m.testBit f = true := by
  intro l
  induction l with
  | nil => exact ⟨fun q => (by rw [show pg_o [] = 0 from rfl, Nat.zero_testBit] at q; cases q), fun ⟨m, q, _⟩ => (by cases q)⟩
  | cons y s ih =>
    rw [show pg_o (y :: s) = y ||| pg_o s from rfl, Nat.testBit_or, Bool.or_eq_true, ih]
    constructor
    · rintro (q | ⟨m, m1, m2⟩)
      · exact ⟨y, List.mem_cons_self .., q⟩
      · exact ⟨m, List.mem_cons_of_mem _ m1, m2⟩
    · rintro ⟨m, m1, m2⟩
      rcases List.mem_cons.mp m1 with rfl | m1
      · exact Or.inl m2
      · exact Or.inr ⟨m, m1, m2⟩
/-- all CASES are those that are CALLED -/
theorem pg_cases {mk nf C : Nat} {mt : Nat → Nat} (hE : pg_E mk mt nf) (hmk : mk < 2 ^ nf) (hC : ∀ f, C.testBit f = true → mk.testBit f = true) : pg_o (pg_l mk mt nf) &&& C = C := by
  refine Nat.eq_of_testBit_eq (fun i => Bool.eq_iff_iff.mpr ?_)
  rw [Nat.testBit_and, Bool.and_eq_true, pg_o_bit]
  constructor
  · exact fun q => q.2
  · intro q
    obtain ⟨m, m1, m2⟩ := pf_fi_in _ _ ((pg_I_of hE nf (Nat.le_refl _)).2 i (pf_tb_lt hmk (hC i q)) (hC i q))
    exact ⟨⟨m, m1, m2⟩, q⟩
theorem pg_l_lt {mk nf : Nat} {mt : Nat → Nat} (hE : pg_E mk mt nf) {k : Nat} (hk : k < (pg_l mk mt nf).length) : (pg_l mk mt nf).getD k 0 < 2 ^ nf := by
  have hmem : (pg_l mk mt nf).getD k 0 ∈ pg_l mk mt nf := by
    rw [List.getD_eq_getElem?_getD, List.getElem?_eq_getElem hk]; exact List.getElem_mem hk
  obtain ⟨g, g1, g2, g3⟩ := (pg_I_of hE nf (Nat.le_refl _)).1 _ hmem
  rw [g3]
  exact (hE g g1 g2).1
