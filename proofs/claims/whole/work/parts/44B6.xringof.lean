/-! the RING of a FUNCTION, by the class -/
def pf_fi (f : Nat) : List Nat → Nat → Int
  | [], _ => -1
  | m :: r, k => if m.testBit f = true then (k : Int) else pf_fi f r (k + 1)
theorem pf_fi_cases (f : Nat) : ∀ (l : List Nat) (k : Nat), (pf_fi f l k = -1 ∧ ∀ m ∈ l, ¬ m.testBit f = true) ∨ ∃ i : Nat, i < l.length ∧ pf_fi f l k = ((k + i : Nat) : Int) ∧ (l.getD i 0).testBit f = true := by
  intro l
  induction l with
  | nil => intro k; exact Or.inl ⟨rfl, fun m hm => by cases hm⟩
  | cons m r ih =>
    intro k
    have e : pf_fi f (m :: r) k = if m.testBit f = true then (k : Int) else pf_fi f r (k + 1) := rfl
    by_cases h : m.testBit f = true
    · exact Or.inr ⟨0, Nat.succ_pos _, by rw [e, if_pos h]; rfl, h⟩
    · rw [if_neg h] at e
      rcases ih (k + 1) with ⟨a, b⟩ | ⟨i, a, b, c⟩
      · refine Or.inl ⟨e.trans a, fun x hx => ?_⟩
        rcases List.mem_cons.mp hx with rfl | hx
        · exact h
        · exact b x hx
      · exact Or.inr ⟨i + 1, Nat.succ_lt_succ a, by rw [e, b]; congr 1; omega, c⟩
/-- the class has these RINGS -/
def px_Rg (o nf : Nat) (l : List Nat) (w : fa_W) : Prop := w (o + 9) 1 = (l.length : Int) ∧ l.length ≤ 24 ∧ ∀ k, k < l.length → w (o + 10) k = ((l.getD k 0 : Nat) : Int) ∧ l.getD k 0 < 2 ^ nf
theorem px_ringOf_l {o nf f : Nat} {l0 : List Nat} {w : fa_W} (r4 : fa_rf o 4 = o + 9) (s4 : fa_rf (o + 9) 0 = o + 9 + 1) (m4 : fa_cp (o + 9) = 24) (h24 : nf ≤ 24) (hf : f < 24) (hR : px_Rg o nf l0 w) : ∀ (l : List Nat) (k F : Nat), k + l.length = l0.length → (∀ i, i < l.length → l.getD i 0 = l0.getD (k + i) 0) → l.length < F → fm_Flow_ringOf_l2 o (f : Int) w F (k : Int) = some (pf_fi f l k) := by
  obtain ⟨R1, R2, R3⟩ := hR
  intro l
  induction l with
  | nil =>
    intro k F hk hl hF
    obtain ⟨F, rfl⟩ : ∃ G, F = G + 1 := ⟨F - 1, by omega⟩
    rw [List.length_nil, Nat.add_zero] at hk
    unfold fm_Flow_ringOf_l2 fm_Row_size
    rw [r4, R1, pb_wr (by omega), pb_wr (by omega), if_pos (by omega)]
    rfl
  | cons m r ih =>
    intro k F hk hl hF
    obtain ⟨F, rfl⟩ : ∃ G, F = G + 1 := ⟨F - 1, by omega⟩
    rw [List.length_cons] at hk hF
    have h0 : m = l0.getD k 0 := hl 0 (Nat.succ_pos _)
    obtain ⟨c1, c2⟩ := R3 k (by omega)
    have e : pf_fi f (m :: r) k = if m.testBit f = true then (k : Int) else pf_fi f r (k + 1) := rfl
    unfold fm_Flow_ringOf_l2 fm_Row_size
    rw [r4, R1, pb_wr (by omega), pb_wr (by omega), if_neg (by omega), pb_bits R1 (by omega) (by rw [m4]; exact R2), s4, show o + 9 + 1 = o + 10 by omega, c1, pf_hb (pf_lt24 (pf_two h24 c2)) hf, ← h0, e]
    by_cases h : m.testBit f = true
    · rw [if_pos h, if_pos h]
    · rw [if_neg h, if_neg h, pf_let_eq, show ((k : Nat) : Int) + 1 = ((k + 1 : Nat) : Int) by omega]
      refine ih (k + 1) F (by omega) (fun i hi => ?_) (by omega)
      have := hl (i + 1) (Nat.succ_lt_succ hi)
      rw [show k + 1 + i = k + (i + 1) by omega]
      exact this
theorem px_ringOf {o nf f : Nat} {l : List Nat} {w : fa_W} (ho : px_Fo o) (h24 : nf ≤ 24) (hf : f < 24) (hR : px_Rg o nf l w) : fm_Flow_ringOf o (f : Int) w = some (pf_fi f l 0) := by
  obtain ⟨FU, hFU⟩ : ∃ F, F = fa_FU := ⟨_, rfl⟩
  have hF2 : 1000 < FU := by rw [hFU]; unfold fa_FU; omega
  unfold fm_Flow_ringOf
  rw [← hFU]
  have := hR.2.1
  exact px_ringOf_l ho.1.2.2.2.2 ho.2.1.2.2.2.2 ho.2.2.2.2.2.2 h24 hf hR l 0 FU (by omega) (fun i _ => by rw [Nat.zero_add]) (by omega)
