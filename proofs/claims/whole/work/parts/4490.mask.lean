/-! sets of FUNCTIONS as bits -/
def pf_pop (m : Nat) : Nat := ((List.range 24).filter (fun k => m.testBit k)).length
theorem pf_pop_lt {a b : Nat} (h : ∀ k, k < 24 → a.testBit k = true → b.testBit k = true) {c : Nat} (hc : c < 24) (h1 : b.testBit c = true) (h2 : a.testBit c = false) : pf_pop a < pf_pop b :=
  pb_filter_lt _ _ _ (fun z hz => h z (List.mem_range.mp hz)) c (List.mem_range.mpr hc) h1 h2
theorem pb_filter_or {A : Type} (p q : A → Bool) : ∀ (l : List A), (∀ z ∈ l, ¬ (p z = true ∧ q z = true)) → (l.filter (fun z => p z || q z)).length = (l.filter p).length + (l.filter q).length := by
  intro l
  induction l with
  | nil => intro _; rfl
  | cons y r ih =>
    intro h
    have i := ih (fun z hz => h z (List.mem_cons_of_mem _ hz))
    have hy := h y (List.mem_cons_self ..)
    rw [List.filter_cons, List.filter_cons, List.filter_cons]
    cases hp : p y <;> cases hq : q y
    · simp; exact i
    · simp; omega
    · simp; omega
    · exact absurd ⟨hp, hq⟩ hy
theorem pb_filter_congr {A : Type} (p q : A → Bool) (l : List A) (h : ∀ z ∈ l, p z = q z) : l.filter p = l.filter q := List.filter_congr h
theorem pf_pop_le (m : Nat) : pf_pop m ≤ 24 := by
  have := List.length_filter_le (fun k => m.testBit k) (List.range 24)
  rw [List.length_range] at this
  exact this
theorem pf_pop_0 : pf_pop 0 = 0 := by decide
theorem pf_eq {a b : Nat} (ha : a < 2 ^ 24) (hb : b < 2 ^ 24) (h : ∀ k, k < 24 → (a.testBit k = true ↔ b.testBit k = true)) : a = b := by
  refine Nat.eq_of_testBit_eq (fun i => ?_)
  by_cases z : i < 24
  · have := h i z
    cases ea : a.testBit i <;> cases eb : b.testBit i
    · rfl
    · rw [ea, eb] at this; exact absurd (this.mpr rfl) (by decide)
    · rw [ea, eb] at this; exact absurd (this.mp rfl) (by decide)
    · rfl
  · rw [Nat.testBit_lt_two_pow (Nat.lt_of_lt_of_le ha (Nat.pow_le_pow_right (by decide) (by omega))), Nat.testBit_lt_two_pow (Nat.lt_of_lt_of_le hb (Nat.pow_le_pow_right (by decide) (by omega)))]
theorem pf_lt24 {a : Nat} (h : a < 2 ^ 24) : a < 2147483648 := Nat.lt_trans h (by decide)
theorem pf_bit_lt {f : Nat} (hf : f < 24) : 2 ^ f < 2 ^ 24 := Nat.pow_lt_pow_right (by decide) hf
/-! the class's and the reference's looks at bits -/
theorem pf_hb {m k : Nat} (hm : m < 2147483648) (hk : k < 24) (w : fa_W) : fm_Face_hasBit (m : Int) (k : Int) w = m.testBit k := by
  unfold fm_Face_hasBit
  rw [pb_wr (by omega), if_neg (by omega), if_neg (by omega), pb_shr hm (by omega)]
  have h1 : m >>> k < 2147483648 := Nat.lt_of_le_of_lt (Nat.shiftRight_le m k) hm
  rw [show (1 : Int) = ((1 : Nat) : Int) from rfl, pb_and h1 (by decide)]
  have h2 : m >>> k &&& 1 ≤ 1 := Nat.and_le_right
  rw [pb_wr (by omega)]
  have e : m.testBit k = (1 &&& (m >>> k) != 0) := rfl
  rw [e, Nat.and_comm 1]
  by_cases z : m >>> k &&& 1 = 0
  · rw [if_pos (by omega), z]; rfl
  · rw [if_neg (by omega)]
    have : m >>> k &&& 1 = 1 := by omega
    rw [this]; rfl
theorem pf_hb_neg {x : Int} (w : fa_W) : fm_Face_hasBit x (-1) w = false := by
  unfold fm_Face_hasBit
  rw [pb_wr1, if_pos (by decide)]
theorem pf_hb_out {x : Int} {k : Nat} (hk : 24 ≤ k) (hk2 : k < 2147483648) (w : fa_W) : fm_Face_hasBit x (k : Int) w = false := by
  unfold fm_Face_hasBit
  rw [pb_wr hk2, if_neg (by omega), if_pos (by omega)]
theorem pf_all_bits : ∀ k : Fin 24, ¬ fa_wr (fa_iand (fa_iushr (-1) ((k.val : Nat) : Int)) 1) = 0 := by decide +kernel
theorem pf_hb_all {k : Nat} (hk : k < 24) (w : fa_W) : fm_Face_hasBit (-1) (k : Int) w = true := by
  unfold fm_Face_hasBit
  rw [pb_wr (by omega), if_neg (by omega), if_neg (by omega), if_neg (pf_all_bits ⟨k, hk⟩)]
theorem pf_bit {k : Nat} (hk : k < 24) (w : fa_W) : fm_Face_bit (k : Int) w = ((2 ^ k : Nat) : Int) := by
  unfold fm_Face_bit
  have hb := pf_bit_lt hk
  have e : (1 : Nat) <<< k = 2 ^ k := by rw [Nat.shiftLeft_eq, Nat.one_mul]
  rw [pb_wr (by omega), if_neg (by omega), if_neg (by omega), show (1 : Int) = ((1 : Nat) : Int) from rfl, pb_shl (by decide) (by rw [e]; exact pf_lt24 hb) (by omega), e]
theorem pf_shl1 {k : Nat} (hk : k < 24) : fa_ishl 1 (k : Int) = ((2 ^ k : Nat) : Int) := by
  have hb := pf_bit_lt hk
  have e : (1 : Nat) <<< k = 2 ^ k := by rw [Nat.shiftLeft_eq, Nat.one_mul]
  rw [show (1 : Int) = ((1 : Nat) : Int) from rfl, pb_shl (by decide) (by rw [e]; exact pf_lt24 hb) (by omega), e]
theorem pb_ishr {a k : Nat} (ha : a < 2147483648) (hk : k < 32) : fa_ishr (a : Int) (k : Int) = ((a >>> k : Nat) : Int) := by
  have hs : a >>> k ≤ a := Nat.shiftRight_le a k
  refine pb_bvI (x := ((fa_I (a : Int)) >>> ((fa_I (k : Int)) &&& 31)).toBitVec) ?_ (by omega)
  show ((fa_I (a : Int)).toBitVec.sshiftRight' (((fa_I (k : Int)) &&& 31).toBitVec.smod 32)).toNat = _
  have m : (fa_I (a : Int)).toBitVec.msb = false := by
    rw [pb_I_nat, BitVec.msb_eq_decide, pb_tn ha]
    exact decide_eq_false (by show ¬ (2 ^ 31 ≤ a); omega)
  rw [BitVec.toNat_sshiftRight'_of_msb_false m, pb_I_nat, pb_tn ha]
  have := pb_s31 ⟨k, hk⟩
  dsimp only at this
  rw [this]
theorem pf_hd {m k : Nat} (hm : m < 2147483648) (hk : k < 32) (w : fa_W) : fm_Mod_holds (m : Int) (k : Int) w = m.testBit k := by
  unfold fm_Mod_holds
  rw [pb_ishr hm hk]
  have h1 : m >>> k < 2147483648 := Nat.lt_of_le_of_lt (Nat.shiftRight_le m k) hm
  rw [show (1 : Int) = ((1 : Nat) : Int) from rfl, pb_and h1 (by decide)]
  have h2 : m >>> k &&& 1 ≤ 1 := Nat.and_le_right
  rw [pb_wr (by omega)]
  have e : m.testBit k = (1 &&& (m >>> k) != 0) := rfl
  rw [e, Nat.and_comm 1]
  by_cases z : m >>> k &&& 1 = 0
  · rw [if_neg (by omega), z]; rfl
  · have : m >>> k &&& 1 = 1 := by omega
    rw [if_pos (by omega), this]; rfl
/-- the bits of the one that the other has not -/
def pf_an (is was : Nat) : Nat := is &&& (was ^^^ 4294967295)
theorem pf_an_bit {is was : Nat} {k : Nat} (hk : k < 32) : (pf_an is was).testBit k = (is.testBit k && !was.testBit k) := by
  unfold pf_an
  rw [Nat.testBit_and, Nat.testBit_xor, show (4294967295 : Nat) = 2 ^ 32 - 1 from rfl, Nat.testBit_two_pow_sub_one, decide_eq_true hk, Bool.xor_true]
theorem pf_an_le (is was : Nat) : pf_an is was ≤ is := Nat.and_le_left
theorem pf_iand_not {is was : Nat} (h1 : is < 2147483648) (h2 : was < 2147483648) : fa_iand (is : Int) (fa_ixor (was : Int) (-1)) = ((pf_an is was : Nat) : Int) := by
  have hle := pf_an_le is was
  show ((fa_I (is : Int)) &&& (fa_I ((fa_I (was : Int) ^^^ fa_I (-1)).toInt))).toBitVec.toInt = _
  have e0 : fa_I ((fa_I (was : Int) ^^^ fa_I (-1)).toInt) = fa_I (was : Int) ^^^ fa_I (-1) := Int32.ofInt_toInt _
  rw [e0]
  have e : ((fa_I (is : Int)) &&& (fa_I (was : Int) ^^^ fa_I (-1))).toBitVec = BitVec.ofNat 32 is &&& (BitVec.ofNat 32 was ^^^ BitVec.ofNat 32 4294967295) := by
    rw [← pb_I_nat, ← pb_I_nat]; rfl
  rw [e]
  refine pb_bvI ?_ (by omega)
  rw [BitVec.toNat_and, BitVec.toNat_xor, pb_tn h1, pb_tn h2]
  rfl
/-- the lowest bit -/
theorem pf_split : ∀ n m : Nat, m ≤ n → 0 < m → ∃ k j, m = 2 ^ k * (2 * j + 1) := by
  intro n
  induction n with
  | zero => intro m h1 h2; omega
  | succ n ih =>
    intro m h1 h2
    by_cases z : m % 2 = 1
    · exact ⟨0, m / 2, by omega⟩
    · obtain ⟨k, j, e⟩ := ih (m / 2) (by omega) (by omega)
      refine ⟨k + 1, j, ?_⟩
      have : m = 2 * (m / 2) := by omega
      rw [this, e, Nat.pow_succ, Nat.mul_comm (2 ^ k) 2, Nat.mul_assoc]
theorem pf_tb {k j i : Nat} : (2 ^ k * (2 * j + 1)).testBit i = (if i < k then false else (2 * j + 1).testBit (i - k)) := by
  have := Nat.testBit_two_pow_mul_add (2 * j + 1) (b := 0) (i := k) (Nat.two_pow_pos k) i
  rw [Nat.add_zero] at this
  rw [this]
  split
  · exact Nat.zero_testBit i
  · rfl
theorem pf_tb1 {k j i : Nat} : (2 ^ k * (2 * j + 1) - 1).testBit i = (if i < k then true else (2 * j).testBit (i - k)) := by
  have p := Nat.two_pow_pos k
  have e : 2 ^ k * (2 * j + 1) - 1 = 2 ^ k * (2 * j) + (2 ^ k - 1) := by rw [Nat.mul_add, Nat.mul_one]; omega
  rw [e, Nat.testBit_two_pow_mul_add (2 * j) (by omega) i]
  split
  · rw [Nat.testBit_two_pow_sub_one]; rename_i h; exact decide_eq_true h
  · rfl
theorem pf_odd (j d : Nat) : (2 * j + 1).testBit d = (decide (d = 0) || (2 * j).testBit d) := by
  cases d with
  | zero =>
    rw [Nat.testBit_zero, Nat.testBit_zero]
    have : (2 * j + 1) % 2 = 1 := by omega
    simp [this]
  | succ d =>
    rw [Nat.testBit_add_one, Nat.testBit_add_one, show (2 * j + 1) / 2 = j by omega, show 2 * j / 2 = j by omega]
    simp
theorem pf_even0 (j : Nat) : (2 * j).testBit 0 = false := by
  rw [Nat.testBit_zero]
  exact decide_eq_false (by omega)
/-- without its lowest bit -/
theorem pf_clear {m : Nat} (h0 : 0 < m) : ∃ k, m.testBit k = true ∧ (∀ i, i < k → m.testBit i = false) ∧ (∀ i, (m &&& (m - 1)).testBit i = (m.testBit i && !decide (i = k))) ∧ ∀ i, i < 32 → (pf_an (m - 1) m).testBit i = decide (i < k) := by
  obtain ⟨k, j, e⟩ := pf_split m m (Nat.le_refl _) h0
  refine ⟨k, ?_, fun i hi => ?_, fun i => ?_, fun i hi => ?_⟩
  · rw [e, pf_tb, if_neg (Nat.lt_irrefl k), Nat.sub_self, pf_odd]; rfl
  · rw [e, pf_tb, if_pos hi]
  · rw [Nat.testBit_and, e, pf_tb, pf_tb1]
    by_cases z : i < k
    · rw [if_pos z, if_pos z]; rfl
    · rw [if_neg z, if_neg z, pf_odd]
      by_cases y : i = k
      · rw [y, Nat.sub_self, pf_even0]; simp
      · have : ¬ (i - k = 0) := by omega
        simp [this, y]
  · rw [pf_an_bit hi, e, pf_tb, pf_tb1]
    by_cases z : i < k
    · rw [if_pos z, if_pos z]; simp [z]
    · rw [if_neg z, if_neg z, pf_odd]
      by_cases y : i = k
      · rw [y, Nat.sub_self, pf_even0]; simp
      · have : ¬ (i - k = 0) := by omega
        simp [this, z]
theorem pf_pop_clear {m : Nat} (hm : m < 2 ^ 24) (h0 : 0 < m) : pf_pop m = pf_pop (m &&& (m - 1)) + 1 := by
  obtain ⟨k, h1, h2, h3, _⟩ := pf_clear h0
  have hk : k < 24 := by
    rcases Nat.lt_or_ge k 24 with z | z
    · exact z
    · rw [Nat.testBit_lt_two_pow (Nat.lt_of_lt_of_le hm (Nat.pow_le_pow_right (by decide) z))] at h1
      cases h1
  unfold pf_pop
  have e1 : (List.range 24).filter (fun i => m.testBit i) = (List.range 24).filter (fun i => (m &&& (m - 1)).testBit i || decide (i = k)) := pb_filter_congr _ _ _ (fun i _ => by
    rw [h3]
    by_cases z : i = k
    · rw [z, h1]; simp
    · simp [z])
  rw [e1, pb_filter_or _ _ _ (fun i _ ⟨a, b⟩ => by
    rw [h3] at a
    rw [b] at a
    simp at a)]
  congr 1
  have one : ∀ n k, k < n → ((List.range n).filter (fun i => decide (i = k))).length = 1 := by
    intro n
    induction n with
    | zero => intro k h; omega
    | succ n ih =>
      intro k h
      rw [List.range_succ, List.filter_append, List.length_append]
      by_cases z : k = n
      · have : (List.range n).filter (fun i => decide (i = k)) = [] := by
          rw [List.filter_eq_nil_iff]
          intro i hi
          rw [List.mem_range] at hi
          simp; omega
        rw [this]
        simp [z]
      · rw [ih k (by omega)]
        have : ([n] : List Nat).filter (fun i => decide (i = k)) = [] := by simp; omega
        rw [this]; rfl
  exact one 24 k hk
theorem pf_bits_l (a1 : Int) (w : fa_W) : ∀ (d m F x : Nat), pf_pop m = d → m < 2 ^ 24 → d < F → x + d < 1000 → fm_Mod_bits_l4 a1 w F (x : Int) (m : Int) = some ((x + d : Nat) : Int) := by
  intro d
  induction d with
  | zero =>
    intro m F x hd hm hF hx
    obtain ⟨F, rfl⟩ : ∃ z, F = z + 1 := ⟨F - 1, by omega⟩
    have z : m = 0 := by
      rcases Nat.eq_zero_or_pos m with z | z
      · exact z
      · have := pf_pop_clear hm z; omega
    unfold fm_Mod_bits_l4
    rw [z, if_pos (by decide)]
    rfl
  | succ d ih =>
    intro m F x hd hm hF hx
    obtain ⟨F, rfl⟩ : ∃ z, F = z + 1 := ⟨F - 1, by omega⟩
    have z : 0 < m := by
      rcases Nat.eq_zero_or_pos m with z | z
      · rw [z, pf_pop_0] at hd; omega
      · exact z
    have hm2 := pf_lt24 hm
    have c := pf_pop_clear hm z
    have le : m &&& (m - 1) ≤ m := Nat.and_le_left
    unfold fm_Mod_bits_l4
    rw [pb_wr hm2, if_neg (by omega)]
    dsimp only [fa_let]
    rw [show (m : Int) - 1 = ((m - 1 : Nat) : Int) by omega, pb_and hm2 (by omega)]
    have := ih (m &&& (m - 1)) F (x + 1) (by omega) (by omega) (by omega) (by omega)
    rw [show ((x + 1 : Nat) : Int) = (x : Int) + 1 from rfl] at this
    rw [this, show x + 1 + d = x + (d + 1) by omega]
theorem pf_bits {m : Nat} (hm : m < 2 ^ 24) (w : fa_W) : fm_Mod_bits (m : Int) w = some ((pf_pop m : Nat) : Int) := by
  have hp := pf_pop_le m
  unfold fm_Mod_bits
  obtain ⟨FU, hFU⟩ : ∃ F, F = fa_FU := ⟨_, rfl⟩
  have hF2 : 1000 < FU := by rw [hFU]; unfold fa_FU; omega
  rw [← hFU]
  have := pf_bits_l (m : Int) w (pf_pop m) m FU 0 rfl hm (by omega) (by omega)
  rw [Nat.zero_add] at this
  exact this
/-- more of a set, as the reference counts it -/
theorem pf_more {a b fo : Nat} (ha : a < 2 ^ 24) (hb : b < 2 ^ 24) {w : fa_W} (h55 : w 181 55 = (fo : Int)) : fm_Mod_more (a : Int) (b : Int) w = some (((a ||| b : Nat) : Int), fa_st w 181 55 ((fo + pf_pop (pf_an b a) : Nat) : Int)) ∧ a ||| b < 2 ^ 24 ∧ pf_pop (a ||| b) = pf_pop a + pf_pop (pf_an b a) ∧ (pf_pop (pf_an b a) = 0 → a ||| b = a) := by
  have la := pf_lt24 ha
  have lb := pf_lt24 hb
  have lan : pf_an b a < 2 ^ 24 := Nat.lt_of_le_of_lt (pf_an_le b a) hb
  have lor := Nat.or_lt_two_pow ha hb
  have pe : pf_pop (a ||| b) = pf_pop a + pf_pop (pf_an b a) := by
    unfold pf_pop
    rw [← pb_filter_or _ _ _ (fun k hk ⟨x, y⟩ => by
      rw [pf_an_bit (by have := List.mem_range.mp hk; omega), x] at y
      simp at y)]
    congr 1
    exact pb_filter_congr _ _ _ (fun k hk => by
      rw [pf_an_bit (by have := List.mem_range.mp hk; omega), Nat.testBit_or]
      cases a.testBit k <;> cases b.testBit k <;> rfl)
  refine ⟨?_, lor, pe, fun z => ?_⟩
  · unfold fm_Mod_more
    rw [pf_iand_not lb la, pf_bits lan]
    dsimp only [Option.bind_some, fa_let]
    rw [h55, pb_or la lb]
    rfl
  · refine pf_eq lor ha (fun k hk => ?_)
    rw [Nat.testBit_or]
    constructor
    · intro h
      cases ea : a.testBit k with
      | true => rfl
      | false =>
        rw [ea, Bool.false_or] at h
        have : pf_pop 0 < pf_pop (pf_an b a) := pf_pop_lt (fun i _ q => by rw [Nat.zero_testBit] at q; cases q) hk (by rw [pf_an_bit (by omega), h, ea]; rfl) (Nat.zero_testBit k)
        omega
    · intro h; rw [h]; rfl
