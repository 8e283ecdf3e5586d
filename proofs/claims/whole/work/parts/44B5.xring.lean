/-! a RING from a FUNCTION, by the class -/
theorem px_ringFrom_l {o oP nf f : Nat} {W : Nat → Nat} {w : fa_W} (r3 : fa_rf o 3 = o + 7) (s3 : fa_rf (o + 7) 0 = o + 7 + 1) (m3 : fa_cp (o + 7) = 24) (h24 : nf ≤ 24) (h14 : w oP 14 = (nf : Int)) (hf : f < nf) (h7 : w (o + 7) 1 = (nf : Int)) (h8 : ∀ f, f < nf → w (o + 8) f = (W f : Int)) (hb : ∀ f, W f < 2 ^ nf) : ∀ (d x F acc : Nat), nf = x + d → d < F → acc < 2 ^ nf → ∃ r : Nat, fm_Flow_ringFrom_l5 o oP (f : Int) w F (acc : Int) (x : Int) = some (r : Int) ∧ r < 2 ^ nf ∧ ∀ g, r.testBit g = true ↔ acc.testBit g = true ∨ (x ≤ g ∧ g < nf ∧ (W f).testBit g = true ∧ (W g).testBit f = true) := by
  intro d
  induction d with
  | zero =>
    intro x F acc hx hF ha
    obtain ⟨F, rfl⟩ : ∃ G, F = G + 1 := ⟨F - 1, by omega⟩
    refine ⟨acc, ?_, ha, fun g => ⟨Or.inl, fun h => ?_⟩⟩
    · unfold fm_Flow_ringFrom_l5
      rw [h14, pb_wr (by omega), pb_wr (by omega), if_pos (by omega)]
    · rcases h with h | ⟨p, q, _⟩
      · exact h
      · omega
  | succ d ih =>
    intro x F acc hx hF ha
    obtain ⟨F, rfl⟩ : ∃ G, F = G + 1 := ⟨F - 1, by omega⟩
    have n3 : nf ≤ fa_cp (o + 7) := by rw [m3]; exact h24
    have gg : ∀ x, x < nf → fr_bits (o + 7) (x : Int) w = ((W x : Nat) : Int) := fun x hx => by
      rw [pb_bits h7 hx n3, s3, show o + 7 + 1 = o + 8 by omega, h8 x hx]
    have nx : ((x : Nat) : Int) + 1 = ((x + 1 : Nat) : Int) := by omega
    have hone : ∀ g, (2 ^ x).testBit g = true ↔ g = x := fun g => pf_one
    have hlt : 2 ^ x < 2 ^ nf := Nat.pow_lt_pow_right (by decide) (by omega)
    have hbit : fm_Face_bit (x : Int) w = ((2 ^ x : Nat) : Int) := pf_bit (by omega) w
    generalize 2 ^ x = y at hone hlt hbit
    have skip : ¬ ((W f).testBit x = true ∧ (W x).testBit f = true) → (∃ r : Nat, fm_Flow_ringFrom_l5 o oP (f : Int) w F (acc : Int) ((x + 1 : Nat) : Int) = some (r : Int) ∧ r < 2 ^ nf ∧ ∀ g, r.testBit g = true ↔ acc.testBit g = true ∨ (x ≤ g ∧ g < nf ∧ (W f).testBit g = true ∧ (W g).testBit f = true)) := fun no => by
      obtain ⟨r, q1, q2, q3⟩ := ih (x + 1) F acc (by omega) (by omega) ha
      refine ⟨r, q1, q2, fun g => (q3 g).trans ⟨fun k => ?_, fun k => ?_⟩⟩
      · rcases k with k | ⟨p, k⟩
        · exact Or.inl k
        · exact Or.inr ⟨by omega, k⟩
      · rcases k with k | ⟨p, q, k1, k2⟩
        · exact Or.inl k
        · have : g ≠ x := fun e => by rw [e] at k1 k2; exact no ⟨k1, k2⟩
          exact Or.inr ⟨by omega, q, k1, k2⟩
    unfold fm_Flow_ringFrom_l5
    rw [h14, pb_wr (by omega), pb_wr (by omega), if_neg (by omega), r3, gg f hf, pf_hb (pf_lt24 (pf_two h24 (hb f))) (by omega)]
    cases e1 : (W f).testBit x with
    | false =>
      rw [if_neg (by decide), pf_let_eq, nx]
      exact skip (fun k => by rw [e1] at k; exact absurd k.1 (by decide))
    | true =>
      rw [if_pos rfl, gg x (by omega), pf_hb (pf_lt24 (pf_two h24 (hb x))) (by omega)]
      cases e2 : (W x).testBit f with
      | false =>
        rw [if_neg (by decide), pf_let_eq, nx]
        exact skip (fun k => by rw [e2] at k; exact absurd k.2 (by decide))
      | true =>
        rw [if_pos rfl, hbit, pb_or (pf_lt24 (pf_two h24 ha)) (pf_lt24 (pf_two h24 hlt)), pf_let_eq, pf_let_eq, nx]
        obtain ⟨r, q1, q2, q3⟩ := ih (x + 1) F (acc ||| y) (by omega) (by omega) (Nat.or_lt_two_pow ha hlt)
        refine ⟨r, q1, q2, fun g => (q3 g).trans ?_⟩
        rw [Nat.testBit_or, Bool.or_eq_true, hone]
        constructor
        · rintro ((k | k) | ⟨p, k⟩)
          · exact Or.inl k
          · rw [k]; exact Or.inr ⟨Nat.le_refl _, by omega, e1, e2⟩
          · exact Or.inr ⟨by omega, k⟩
        · rintro (k | ⟨p, q, k⟩)
          · exact Or.inl (Or.inl k)
          · by_cases eg : g = x
            · exact Or.inl (Or.inr eg)
            · exact Or.inr ⟨by omega, q, k⟩
theorem px_ringFrom {o oP nf f : Nat} {W : Nat → Nat} {w : fa_W} (ho : px_Fo o) (h24 : nf ≤ 24) (h14 : w oP 14 = (nf : Int)) (hf : f < nf) (h7 : w (o + 7) 1 = (nf : Int)) (h8 : ∀ f, f < nf → w (o + 8) f = (W f : Int)) (hb : ∀ f, W f < 2 ^ nf) : ∃ r : Nat, fm_Flow_ringFrom o oP (f : Int) w = some (r : Int) ∧ r < 2 ^ nf ∧ ∀ g, r.testBit g = true ↔ g < nf ∧ (W f).testBit g = true ∧ (W g).testBit f = true := by
  obtain ⟨FU, hFU⟩ : ∃ F, F = fa_FU := ⟨_, rfl⟩
  have hF2 : 1000 < FU := by rw [hFU]; unfold fa_FU; omega
  unfold fm_Flow_ringFrom
  rw [← hFU]
  obtain ⟨r, q1, q2, q3⟩ := px_ringFrom_l (oP := oP) (w := w) ho.1.2.2.2.1 ho.2.1.2.2.2.1 ho.2.2.2.2.2.1 h24 h14 hf h7 h8 hb nf 0 FU 0 (by omega) (by omega) (Nat.two_pow_pos _)
  refine ⟨r, q1, q2, fun g => (q3 g).trans ⟨fun k => ?_, fun k => Or.inr ⟨Nat.zero_le _, k⟩⟩⟩
  rcases k with k | ⟨_, k⟩
  · rw [Nat.zero_testBit] at k; cases k
  · exact k
