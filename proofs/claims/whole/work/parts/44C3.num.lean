/-! a set as a number; how many it has, its least one, by the JDK's own methods -/
noncomputable def pf_num (P : Nat → Prop) : Nat → Nat
  | 0 => 0
  | k + 1 => pf_num P k ||| @ite Nat (P k) (Classical.propDecidable (P k)) (2 ^ k) 0
theorem pf_num_bit (P : Nat → Prop) (f : Nat) : ∀ n, (pf_num P n).testBit f = true ↔ f < n ∧ P f := by
  intro n
  induction n with
  | zero => exact ⟨fun q => (by rw [show pf_num P 0 = 0 from rfl, Nat.zero_testBit] at q; cases q), fun q => by omega⟩
  | succ n ih =>
    have e : pf_num P (n + 1) = pf_num P n ||| @ite Nat (P n) (Classical.propDecidable (P n)) (2 ^ n) 0 := rfl
    rw [e, Nat.testBit_or, Bool.or_eq_true, ih]
    by_cases h : P n
    · rw [if_pos h, pf_one]
      constructor
      · rintro (⟨p, q⟩ | p)
        · exact ⟨by omega, q⟩
        · rw [p]; exact ⟨by omega, h⟩
      · rintro ⟨p, q⟩
        by_cases e : f = n
        · exact Or.inr e
        · exact Or.inl ⟨by omega, q⟩
    · rw [if_neg h, Nat.zero_testBit]
      constructor
      · rintro (⟨p, q⟩ | p)
        · exact ⟨by omega, q⟩
        · cases p
      · rintro ⟨p, q⟩
        have : f ≠ n := fun e => h (e ▸ q)
        exact Or.inl ⟨by omega, q⟩
theorem pf_num_lt (P : Nat → Prop) : ∀ n, pf_num P n < 2 ^ n := fun n => Nat.lt_pow_two_of_testBit _ (fun i hi => by
  cases e : (pf_num P n).testBit i with
  | false => rfl
  | true => have := ((pf_num_bit P i n).mp e).1; omega)
theorem pf_num_of {P : Nat → Prop} {x n : Nat} (hx : x < 2 ^ n) (h : ∀ f, f < n → (x.testBit f = true ↔ P f)) : x = pf_num P n := by
  refine Nat.eq_of_testBit_eq (fun i => Bool.eq_iff_iff.mpr ?_)
  rw [pf_num_bit]
  exact ⟨fun q => ⟨pf_tb_lt hx q, (h i (pf_tb_lt hx q)).mp q⟩, fun q => (h i q.1).mpr q.2⟩
theorem pf_num_cong {P Q : Nat → Prop} {n : Nat} (h : ∀ f, f < n → (P f ↔ Q f)) : pf_num P n = pf_num Q n := pf_num_of (pf_num_lt P n) (fun f hf => (pf_num_bit P f n).trans ⟨fun q => (h f hf).mp q.2, fun q => ⟨hf, (h f hf).mpr q⟩⟩)
/-! the least of a set -/
def pf_ntzf (x : Int) : Int := if 0 < fa_wr x then (if fa_wr x ≤ 65536 then fm_Integer_numberOfTrailingZeros_j34 0 (fun _ _ => 0) x 1 else fm_Integer_numberOfTrailingZeros_j34 0 (fun _ _ => 0) (fa_iushr x 16) (1 + 16)) else fa_iand x 32
theorem pf_ntz_w (a : Int) (w : fa_W) : fm_Integer_numberOfTrailingZeros a w = pf_ntzf (fa_iand (fa_ixor a (-1)) (a - 1)) := rfl
theorem pf_ntz_tab : ∀ k : Fin 24, pf_ntzf ((2 ^ k.val - 1 : Nat) : Int) = ((k.val : Nat) : Int) := by decide +kernel
theorem pf_iand_comm (a b : Int) : fa_iand a b = fa_iand b a := by unfold fa_iand; rw [Int32.and_comm]
theorem pf_lowest {m : Nat} (hm : m < 2 ^ 24) (h0 : 0 < m) (w : fa_W) : ∃ k, k < 24 ∧ m.testBit k = true ∧ (∀ i, i < k → m.testBit i = false) ∧ fm_Face_lowest (m : Int) w = (k : Int) := by
  have lm := pf_lt24 hm
  obtain ⟨k, c1, c2, _, c4⟩ := pf_clear h0
  have k24 := pf_tb_lt hm c1
  refine ⟨k, k24, c1, c2, ?_⟩
  unfold fm_Face_lowest
  rw [pb_wr lm, if_neg (by omega), pf_ntz_w, pf_iand_comm, show (m : Int) - 1 = ((m - 1 : Nat) : Int) by omega, pf_iand_not (by omega) lm]
  have e : pf_an (m - 1) m = 2 ^ k - 1 := Nat.eq_of_testBit_eq (fun i => by
    rw [Nat.testBit_two_pow_sub_one]
    by_cases z : i < 32
    · exact c4 i z
    · rw [decide_eq_false (by omega)]
      exact Nat.testBit_lt_two_pow (Nat.lt_of_le_of_lt (pf_an_le _ _) (Nat.lt_of_lt_of_le (by omega : m - 1 < 2 ^ 31) (Nat.pow_le_pow_right (by decide) (by omega)))))
  rw [e]
  exact pf_ntz_tab ⟨k, k24⟩
theorem pf_lowest0 (w : fa_W) : fm_Face_lowest 0 w = -1 := by
  unfold fm_Face_lowest
  rw [if_pos (by decide)]
/-! how many a set has -/
theorem pf_and3 {a b c x y z : Nat} (ha : a < 256) (hb : b < 256) (hx : x < 256) (hy : y < 256) : (a + 256 * b + 65536 * c) &&& (x + 256 * y + 65536 * z) = (a &&& x) + 256 * (b &&& y) + 65536 * (c &&& z) := by
  have l1 : a &&& x < 256 := Nat.lt_of_le_of_lt Nat.and_le_left ha
  have l2 : b &&& y < 256 := Nat.lt_of_le_of_lt Nat.and_le_left hb
  refine Nat.eq_of_testBit_eq (fun i => ?_)
  have f : ∀ p q r : Nat, p < 256 → q < 256 → (p + 256 * q + 65536 * r).testBit i = if i < 8 then p.testBit i else if i - 8 < 8 then q.testBit (i - 8) else r.testBit (i - 8 - 8) := fun p q r hp hq => by
    rw [show p + 256 * q + 65536 * r = 2 ^ 8 * (2 ^ 8 * r + q) + p by omega, Nat.testBit_two_pow_mul_add _ (by omega), Nat.testBit_two_pow_mul_add _ (by omega)]
  rw [Nat.testBit_and, f a b c ha hb, f x y z hx hy, f _ _ _ l1 l2, Nat.testBit_and, Nat.testBit_and, Nat.testBit_and]
  split
  · rfl
  · split <;> rfl
theorem pf_bc1 : ∀ a : Fin 256, ∀ p : Fin 2, (a.val / 2 + 128 * p.val) &&& 85 = (a.val / 2) &&& 85 := by decide +kernel
def pf_p1 (a : Nat) : Nat := a - ((a / 2) &&& 85)
def pf_p2 (a : Nat) : Nat := (pf_p1 a &&& 51) + ((pf_p1 a / 4) &&& 51)
def pf_p3 (a : Nat) : Nat := (pf_p2 a + pf_p2 a / 16) &&& 15
theorem pf_bc2 : ∀ a : Fin 256, pf_p1 a.val ≤ 255 ∧ (a.val / 2) &&& 85 ≤ a.val ∧ pf_p2 a.val ≤ 68 ∧ pf_p2 a.val % 16 ≤ 4 ∧ pf_p3 a.val ≤ 8 ∧ (a.val / 2) &&& 21845 = (a.val / 2) &&& 85 := by decide +kernel
theorem pf_bc3 : ∀ a : Fin 256, ∀ p : Fin 4, (a.val / 4 + 64 * p.val) &&& 51 = (a.val / 4) &&& 51 := by decide +kernel
theorem pf_bc3c : ∀ a : Fin 256, a.val &&& 13107 = a.val &&& 51 ∧ (a.val / 4) &&& 13107 = (a.val / 4) &&& 51 := by decide +kernel
theorem pf_bc4 : ∀ a : Fin 69, ∀ p : Fin 5, (a.val + a.val / 16 + 16 * p.val) &&& 15 = (a.val + a.val / 16) &&& 15 ∧ (a.val + a.val / 16) &&& 3855 = (a.val + a.val / 16) &&& 15 ∧ a.val / 16 ≤ 4 := by decide +kernel
def pf_b8 (a : Nat) : Nat := (a.testBit 0).toNat + (a.testBit 1).toNat + (a.testBit 2).toNat + (a.testBit 3).toNat + (a.testBit 4).toNat + (a.testBit 5).toNat + (a.testBit 6).toNat + (a.testBit 7).toNat
theorem pf_bc5 : ∀ a : Fin 256, pf_p3 a.val = pf_b8 a.val := by decide +kernel
theorem pf_filter_sum (p : Nat → Bool) : ∀ l : List Nat, (l.filter p).length = (l.map (fun k => (p k).toNat)).sum := by
  intro l
  induction l with
  | nil => rfl
  | cons x r ih =>
    rw [List.filter_cons, List.map_cons, List.sum_cons]
    cases e : p x with
    | true => rw [if_pos rfl, List.length_cons, ih]; show _ = 1 + _; omega
    | false => rw [if_neg (by decide), ih]; show _ = 0 + _; omega
theorem pf_pop3 {a b c : Nat} (ha : a < 256) (hb : b < 256) (hc : c < 256) : pf_pop (a + 256 * b + 65536 * c) = pf_b8 a + pf_b8 b + pf_b8 c := by
  have f : ∀ i : Nat, (a + 256 * b + 65536 * c).testBit i = if i < 8 then a.testBit i else if i - 8 < 8 then b.testBit (i - 8) else c.testBit (i - 8 - 8) := fun i => by
    rw [show a + 256 * b + 65536 * c = 2 ^ 8 * (2 ^ 8 * c + b) + a by omega, Nat.testBit_two_pow_mul_add _ (by omega), Nat.testBit_two_pow_mul_add _ (by omega)]
  unfold pf_pop
  rw [pf_filter_sum, show List.range 24 = [0, 1, 2, 3, 4, 5, 6, 7, 8, 9, 10, 11, 12, 13, 14, 15, 16, 17, 18, 19, 20, 21, 22, 23] by decide]
  generalize a + 256 * b + 65536 * c = m at f
  simp only [List.map_cons, List.map_nil, List.sum_cons, List.sum_nil, f]
  unfold pf_b8
  simp only [Nat.reduceLT, if_true, if_false, Nat.reduceSub, ↓reduceIte, Nat.reduceAdd]
  omega
theorem pf_bitCount {m : Nat} (hm : m < 2 ^ 24) (w : fa_W) : fm_Integer_bitCount (m : Int) w = ((pf_pop m : Nat) : Int) := by
  obtain ⟨a, b, c, ha, hb, hc, e⟩ : ∃ a b c, a < 256 ∧ b < 256 ∧ c < 256 ∧ m = a + 256 * b + 65536 * c := ⟨m % 256, m / 256 % 256, m / 65536, by omega, by omega, by omega, by omega⟩
  have qa := pf_bc2 ⟨a, ha⟩
  have qb := pf_bc2 ⟨b, hb⟩
  have qc := pf_bc2 ⟨c, hc⟩
  dsimp only at qa qb qc
  obtain ⟨a1, a2, a3, a4, a5, _⟩ := qa
  obtain ⟨b1, b2, b3, b4, b5, _⟩ := qb
  obtain ⟨c1, c2, c3, c4, c5, c6⟩ := qc
  have s1 : (m >>> 1) &&& 1431655765 = ((a / 2) &&& 85) + 256 * ((b / 2) &&& 85) + 65536 * ((c / 2) &&& 85) := by
    have h1 := pf_bc1 ⟨a, ha⟩ ⟨b % 2, by omega⟩
    have h2 := pf_bc1 ⟨b, hb⟩ ⟨c % 2, by omega⟩
    dsimp only at h1 h2
    rw [Nat.shiftRight_eq_div_pow, show m / 2 ^ 1 = (a / 2 + 128 * (b % 2)) + 256 * (b / 2 + 128 * (c % 2)) + 65536 * (c / 2) by omega, show (1431655765 : Nat) = 85 + 256 * 85 + 65536 * 21845 from rfl, pf_and3 (by omega) (by omega) (by omega) (by omega), h1, h2, c6]
  have e1 : m - ((m >>> 1) &&& 1431655765) = pf_p1 a + 256 * pf_p1 b + 65536 * pf_p1 c := by
    rw [s1]; unfold pf_p1; omega
  have l1 : (m >>> 1) &&& 1431655765 ≤ m := Nat.le_trans Nat.and_le_left (Nat.shiftRight_le m 1)
  generalize hA : pf_p1 a = A at e1 a1
  generalize hB : pf_p1 b = B at e1 b1
  generalize hC : pf_p1 c = C at e1 c1
  have s2 : (A + 256 * B + 65536 * C) &&& 858993459 = (A &&& 51) + 256 * (B &&& 51) + 65536 * (C &&& 51) := by
    rw [show (858993459 : Nat) = 51 + 256 * 51 + 65536 * 13107 from rfl, pf_and3 (by omega) (by omega) (by omega) (by omega), (pf_bc3c ⟨C, by omega⟩).1]
  have s3 : ((A + 256 * B + 65536 * C) >>> 2) &&& 858993459 = ((A / 4) &&& 51) + 256 * ((B / 4) &&& 51) + 65536 * ((C / 4) &&& 51) := by
    have h1 := pf_bc3 ⟨A, by omega⟩ ⟨B % 4, by omega⟩
    have h2 := pf_bc3 ⟨B, by omega⟩ ⟨C % 4, by omega⟩
    dsimp only at h1 h2
    rw [Nat.shiftRight_eq_div_pow, show (A + 256 * B + 65536 * C) / 2 ^ 2 = (A / 4 + 64 * (B % 4)) + 256 * (B / 4 + 64 * (C % 4)) + 65536 * (C / 4) by omega, show (858993459 : Nat) = 51 + 256 * 51 + 65536 * 13107 from rfl, pf_and3 (by omega) (by omega) (by omega) (by omega), h1, h2, (pf_bc3c ⟨C, by omega⟩).2]
  have e2 : ((A + 256 * B + 65536 * C) &&& 858993459) + (((A + 256 * B + 65536 * C) >>> 2) &&& 858993459) = pf_p2 a + 256 * pf_p2 b + 65536 * pf_p2 c := by
    rw [s2, s3]; unfold pf_p2; rw [hA, hB, hC]; omega
  generalize hA2 : pf_p2 a = A2 at e2 a3 a4
  generalize hB2 : pf_p2 b = B2 at e2 b3 b4
  generalize hC2 : pf_p2 c = C2 at e2 c3 c4
  have e3 : ((A2 + 256 * B2 + 65536 * C2) + ((A2 + 256 * B2 + 65536 * C2) >>> 4)) &&& 252645135 = pf_p3 a + 256 * pf_p3 b + 65536 * pf_p3 c := by
    have h1 := pf_bc4 ⟨A2, by omega⟩ ⟨B2 % 16, by omega⟩
    have h2 := pf_bc4 ⟨B2, by omega⟩ ⟨C2 % 16, by omega⟩
    have h3 := pf_bc4 ⟨C2, by omega⟩ 0
    dsimp only at h1 h2 h3
    rw [Nat.shiftRight_eq_div_pow, show (A2 + 256 * B2 + 65536 * C2) + (A2 + 256 * B2 + 65536 * C2) / 2 ^ 4 = (A2 + A2 / 16 + 16 * (B2 % 16)) + 256 * (B2 + B2 / 16 + 16 * (C2 % 16)) + 65536 * (C2 + C2 / 16) by omega, show (252645135 : Nat) = 15 + 256 * 15 + 65536 * 3855 from rfl, pf_and3 (by omega) (by omega) (by omega) (by omega), h1.1, h2.1, h3.2.1]
    unfold pf_p3
    rw [hA2, hB2, hC2]
  have hp : pf_pop m = pf_p3 a + pf_p3 b + pf_p3 c := by
    rw [e, pf_pop3 ha hb hc, pf_bc5 ⟨a, ha⟩, pf_bc5 ⟨b, hb⟩, pf_bc5 ⟨c, hc⟩]
  generalize pf_p3 a = A3 at e3 hp a5
  generalize pf_p3 b = B3 at e3 hp b5
  generalize pf_p3 c = C3 at e3 hp c5
  have lm := pf_lt24 hm
  have la1 : ∀ x y : Nat, x &&& y ≤ x := fun x y => Nat.and_le_left
  unfold fm_Integer_bitCount
  rw [pf_let_eq, show (1 : Int) = ((1 : Nat) : Int) from rfl, pb_shr lm (by decide), show (1431655765 : Int) = ((1431655765 : Nat) : Int) from rfl, pb_and (Nat.lt_of_le_of_lt (Nat.shiftRight_le m 1) lm) (by decide), show (m : Int) - (((m >>> 1) &&& 1431655765 : Nat) : Int) = ((m - ((m >>> 1) &&& 1431655765) : Nat) : Int) by omega, e1]
  have lA : A + 256 * B + 65536 * C < 2147483648 := by omega
  rw [pf_let_eq, show (858993459 : Int) = ((858993459 : Nat) : Int) from rfl, pb_and lA (by decide), show (2 : Int) = ((2 : Nat) : Int) from rfl, pb_shr lA (by decide), pb_and (Nat.lt_of_le_of_lt (Nat.shiftRight_le _ _) lA) (by decide), show ∀ p q : Nat, (p : Int) + (q : Int) = ((p + q : Nat) : Int) from fun p q => rfl, e2]
  have lA2 : A2 + 256 * B2 + 65536 * C2 < 1073741824 := by omega
  have lS := Nat.shiftRight_le (A2 + 256 * B2 + 65536 * C2) 4
  rw [pf_let_eq, show (4 : Int) = ((4 : Nat) : Int) from rfl, pb_shr (by omega) (by decide), show ∀ p q : Nat, (p : Int) + (q : Int) = ((p + q : Nat) : Int) from fun p q => rfl, show (252645135 : Int) = ((252645135 : Nat) : Int) from rfl, pb_and (by omega) (by decide), e3]
  have lA3 : A3 + 256 * B3 + 65536 * C3 < 1073741824 := by omega
  rw [pf_let_eq, show (8 : Int) = ((8 : Nat) : Int) from rfl, pb_shr (by omega) (by decide), show ∀ p q : Nat, (p : Int) + (q : Int) = ((p + q : Nat) : Int) from fun p q => rfl, Nat.shiftRight_eq_div_pow]
  have e4 : (A3 + 256 * B3 + 65536 * C3) + (A3 + 256 * B3 + 65536 * C3) / 2 ^ 8 = (A3 + B3) + 256 * (B3 + C3) + 65536 * C3 := by omega
  rw [e4, pf_let_eq, show (16 : Int) = ((16 : Nat) : Int) from rfl, pb_shr (by omega) (by decide), show ∀ p q : Nat, (p : Int) + (q : Int) = ((p + q : Nat) : Int) from fun p q => rfl, Nat.shiftRight_eq_div_pow]
  have e5 : (A3 + B3) + 256 * (B3 + C3) + 65536 * C3 + ((A3 + B3) + 256 * (B3 + C3) + 65536 * C3) / 2 ^ 16 = (A3 + B3 + C3) + 256 * (B3 + C3) + 65536 * C3 := by omega
  rw [e5, show (63 : Int) = ((63 : Nat) : Int) from rfl, pb_and (by omega) (by decide), show (63 : Nat) = 2 ^ 6 - 1 from rfl, Nat.and_two_pow_sub_one_eq_mod, hp]
  congr 1
  omega
