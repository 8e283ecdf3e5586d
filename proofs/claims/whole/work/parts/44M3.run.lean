/-! THE FORM as it is written, and how long it can be -/
def pw_c1 (D E : Nat → List Nat) (Y : Nat → Nat) (f : Nat) : List Nat := D f ++ (pw_nm (Y f) ++ (pw_tx 9 ++ E f))
def pw_cg (D E : Nat → List Nat) (Y : Nat → Nat) (k c : Nat) : Nat → Nat → List Nat
  | 0, _ => []
  | d + 1, f => (if c.testBit f = true then (if f = pw_lo c 24 0 then pw_tx 7 ++ (pw_nu k ++ pw_tx 8) else pw_tx 6) ++ pw_c1 D E Y f else []) ++ pw_cg D E Y k c d (f + 1)
def pw_gk (D E : Nat → List Nat) (Y : Nat → Nat) (nf k c : Nat) : List Nat := pw_cg D E Y k c nf 0 ++ (if c = 0 then pw_tx 4 else pw_tx 5)
def pw_gl (D E : Nat → List Nat) (Y : Nat → Nat) (nf C : Nat) : List Nat → Nat → List Nat
  | [], _ => []
  | m :: r, k => pw_gk D E Y nf k (m &&& C) ++ pw_gl D E Y nf C r (k + 1)
def pw_fo (D E : Nat → List Nat) (Y : Nat → Nat) (nf C : Nat) (ls : List Nat) (em : List Nat) : List Nat := pw_gl D E Y nf C ls 0 ++ em
/-! sums -/
def pw_sm (g : Nat → Nat) : Nat → Nat → Nat
  | 0, _ => 0
  | d + 1, k => g k + pw_sm g d (k + 1)
theorem pw_sm_app (g : Nat → Nat) (e : Nat) : ∀ d k, pw_sm g (d + e) k = pw_sm g d k + pw_sm g e (k + d) := by
  intro d
  induction d with
  | zero => intro k; rw [Nat.zero_add, Nat.add_zero]; show _ = 0 + _; rw [Nat.zero_add]
  | succ d ih =>
    intro k
    rw [show d + 1 + e = (d + e) + 1 by omega]
    show g k + pw_sm g (d + e) (k + 1) = g k + pw_sm g d (k + 1) + _
    rw [ih (k + 1), show k + 1 + d = k + (d + 1) by omega]
    omega
theorem pw_sm_le {g g' : Nat → Nat} : ∀ d k, (∀ f, k ≤ f → f < k + d → g f ≤ g' f) → pw_sm g d k ≤ pw_sm g' d k := by
  intro d
  induction d with
  | zero => intro k _; exact Nat.le_refl _
  | succ d ih =>
    intro k h
    have a := h k (Nat.le_refl _) (by omega)
    have b := ih (k + 1) (fun f p q => h f (by omega) (by omega))
    show g k + _ ≤ g' k + _
    omega
theorem pw_sm_add (g g' : Nat → Nat) : ∀ d k, pw_sm (fun f => g f + g' f) d k = pw_sm g d k + pw_sm g' d k := by
  intro d
  induction d with
  | zero => intro k; rfl
  | succ d ih =>
    intro k
    show g k + g' k + pw_sm _ d (k + 1) = (g k + _) + (g' k + _)
    rw [ih]
    omega
theorem pw_sm_one (g : Nat → Nat) (k : Nat) : pw_sm g 1 k = g k := by show g k + 0 = _; omega
theorem pw_nu_2 {v : Nat} (h : v < 100) : (pw_nu v).length ≤ 2 := by
  unfold pw_nu
  by_cases a : v < 10
  · rw [if_pos a]; exact (by decide : 1 ≤ 2)
  · rw [if_neg a, if_pos h]; exact Nat.le_refl _
theorem pw_txm : (pw_tx 4).length = 0 ∧ (pw_tx 5).length = 1 ∧ (pw_tx 6).length = 1 ∧ (pw_tx 7).length = 1 ∧ (pw_tx 8).length = 2 ∧ (pw_tx 13).length = 1 ∧ (pw_tx 15).length = 1 ∧ (pw_tx 21).length = 2 := by decide +kernel
def pw_cb (c : Nat) (cost : Nat → Nat) (f : Nat) : Nat := if c.testBit f = true then cost f else 0
def pw_ay (c : Nat) : Nat → Nat → Nat
  | 0, _ => 0
  | d + 1, f => if c.testBit f = true then 1 else pw_ay c d (f + 1)
theorem pw_ay_1 {c q : Nat} (h : c.testBit q = true) : ∀ d f, f ≤ q → q < f + d → pw_ay c d f = 1 := by
  intro d
  induction d with
  | zero => intro f a b; omega
  | succ d ih =>
    intro f a b
    unfold pw_ay
    by_cases z : c.testBit f = true
    · rw [if_pos z]
    · rw [if_neg z]
      have : f ≠ q := fun e => z (by rw [e]; exact h)
      exact ih (f + 1) (by omega) (by omega)
theorem pw_cg_len {D E : Nat → List Nat} {Y : Nat → Nat} {k c : Nat} (hk : k < 100) : ∀ (d f : Nat), (pw_cg D E Y k c d f).length + pw_ay c d f ≤ pw_sm (pw_cb c (fun f => (D f).length + (E f).length + 11)) d f := by
  obtain ⟨t4, t5, t6, t7, t8, t13, t15, t21⟩ := pw_txm
  obtain ⟨_, _, _, _, t9, _⟩ := pw_txl
  intro d
  induction d with
  | zero => intro f; exact Nat.le_refl _
  | succ d ih =>
    intro f
    have i := ih (f + 1)
    show ((if c.testBit f = true then (if f = pw_lo c 24 0 then pw_tx 7 ++ (pw_nu k ++ pw_tx 8) else pw_tx 6) ++ pw_c1 D E Y f else []) ++ pw_cg D E Y k c d (f + 1)).length + (if c.testBit f = true then 1 else pw_ay c d (f + 1)) ≤ pw_cb c _ f + _
    by_cases z : c.testBit f = true
    · have e1 : pw_cb c (fun f => (D f).length + (E f).length + 11) f = (D f).length + (E f).length + 11 := by unfold pw_cb; rw [if_pos z]
      rw [if_pos z, if_pos z, e1, List.length_append, List.length_append]
      have l1 := pw_nmr_len 4 (Y f)
      have l2 := pw_nu_2 hk
      have e2 : (pw_c1 D E Y f).length = (D f).length + ((pw_nmr 4 (Y f)).length + ((pw_tx 9).length + (E f).length)) := by
        show (D f ++ (pw_nmr 4 (Y f) ++ (pw_tx 9 ++ E f))).length = _
        simp only [List.length_append]
      rw [e2]
      have i2 : (pw_cg D E Y k c d (f + 1)).length ≤ pw_sm (pw_cb c (fun f => (D f).length + (E f).length + 11)) d (f + 1) := by omega
      clear i ih
      by_cases y : f = pw_lo c 24 0
      · rw [if_pos y, List.length_append, List.length_append]; omega
      · rw [if_neg y]; omega
    · have e1 : pw_cb c (fun f => (D f).length + (E f).length + 11) f = 0 := by unfold pw_cb; rw [if_neg z]
      rw [if_neg z, if_neg z, e1, List.nil_append, Nat.zero_add]
      exact i
theorem pw_gk_len {D E : Nat → List Nat} {Y : Nat → Nat} {nf k c : Nat} (hk : k < 100) (hc : c < 2 ^ nf) (h24 : nf ≤ 24) : (pw_gk D E Y nf k c).length ≤ pw_sm (pw_cb c (fun f => (D f).length + (E f).length + 11)) nf 0 := by
  obtain ⟨t4, t5, _⟩ := pw_txm
  have h := pw_cg_len (D := D) (E := E) (Y := Y) (c := c) hk nf 0
  unfold pw_gk
  rw [List.length_append]
  by_cases z : c = 0
  · rw [if_pos z]; omega
  · rw [if_neg z]
    have c24 : c < 2 ^ 24 := Nat.lt_of_lt_of_le hc (Nat.pow_le_pow_right (by omega) h24)
    obtain ⟨q, q1, q2, _⟩ := pf_lowest c24 (by omega) (fun _ _ => 0)
    have q3 : q < nf := by
      by_cases y : q < nf
      · exact y
      · rw [Nat.testBit_lt_two_pow (Nat.lt_of_lt_of_le hc (Nat.pow_le_pow_right (by omega) (by omega)))] at q2
        cases q2
    rw [pw_ay_1 q2 nf 0 (by omega) (by omega)] at h
    omega
def pw_ct : List Nat → Nat → Nat
  | [], _ => 0
  | m :: r, f => (if m.testBit f = true then 1 else 0) + pw_ct r f
theorem pw_ct_0 {f : Nat} : ∀ (l : List Nat), (∀ i, i < l.length → ¬ (l.getD i 0).testBit f = true) → pw_ct l f = 0 := by
  intro l
  induction l with
  | nil => intro _; rfl
  | cons m r ih =>
    intro h
    have h0 := h 0 (by rw [List.length_cons]; omega)
    have := ih (fun i hi => h (i + 1) (by rw [List.length_cons]; omega))
    show (if m.testBit f = true then 1 else 0) + pw_ct r f = 0
    rw [if_neg (show ¬ m.testBit f = true from h0), this]
theorem pw_ct_1 {f : Nat} : ∀ (l : List Nat), pg_dj l → pw_ct l f ≤ 1 := by
  intro l
  induction l with
  | nil => intro _; exact Nat.zero_le _
  | cons m r ih =>
    intro h
    have hr : pg_dj r := fun i j a b g => h (i + 1) (j + 1) (by omega) (by rw [List.length_cons]; omega) g
    show (if m.testBit f = true then 1 else 0) + pw_ct r f ≤ 1
    by_cases z : m.testBit f = true
    · rw [if_pos z, pw_ct_0 r (fun i hi => h 0 (i + 1) (by omega) (by rw [List.length_cons]; omega) f z)]
      exact Nat.le_refl _
    · rw [if_neg z]
      have := ih hr
      omega
theorem pw_gl_len {D E : Nat → List Nat} {Y : Nat → Nat} {nf C : Nat} (h24 : nf ≤ 24) (hC : C < 2 ^ nf) : ∀ (ls : List Nat) (k : Nat), k + ls.length ≤ 100 → (pw_gl D E Y nf C ls k).length ≤ pw_sm (fun f => pw_ct ls f * ((D f).length + (E f).length + 11)) nf 0 := by
  intro ls
  induction ls with
  | nil => intro k _; exact Nat.zero_le _
  | cons m r ih =>
    intro k h
    rw [List.length_cons] at h
    have i := ih (k + 1) (by omega)
    have g := pw_gk_len (D := D) (E := E) (Y := Y) (nf := nf) (k := k) (c := m &&& C) (by omega) (Nat.lt_of_le_of_lt (Nat.and_le_right) hC) h24
    show (pw_gk D E Y nf k (m &&& C) ++ pw_gl D E Y nf C r (k + 1)).length ≤ _
    rw [List.length_append]
    have e : pw_sm (fun f => pw_ct (m :: r) f * ((D f).length + (E f).length + 11)) nf 0 = pw_sm (pw_cb m (fun f => (D f).length + (E f).length + 11)) nf 0 + pw_sm (fun f => pw_ct r f * ((D f).length + (E f).length + 11)) nf 0 := by
      rw [← pw_sm_add]
      congr 1
      funext f
      show ((if m.testBit f = true then 1 else 0) + pw_ct r f) * _ = _
      rw [Nat.add_mul]
      unfold pw_cb
      by_cases z : m.testBit f = true
      · rw [if_pos z, if_pos z, Nat.one_mul]
      · rw [if_neg z, if_neg z, Nat.zero_mul]
    rw [e]
    have le : pw_sm (pw_cb (m &&& C) (fun f => (D f).length + (E f).length + 11)) nf 0 ≤ pw_sm (pw_cb m (fun f => (D f).length + (E f).length + 11)) nf 0 := pw_sm_le _ _ (fun f _ _ => by
      unfold pw_cb
      by_cases z : (m &&& C).testBit f = true
      · rw [Nat.testBit_and, Bool.and_eq_true] at z
        rw [if_pos (by rw [Nat.testBit_and, Bool.and_eq_true]; exact z), if_pos z.1]
        exact Nat.le_refl _
      · rw [if_neg z]; exact Nat.zero_le _)
    omega
