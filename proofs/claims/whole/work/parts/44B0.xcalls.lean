/-! CALLS, by the class -/
def px_fc (o : Nat) (w w' : fa_W) : Prop := ∀ i j, i ≠ o + 5 → i ≠ o + 6 → w' i j = w i j
theorem px_lc_l {o oP nf si : Nat} {ix ap : Nat → Nat} {ow : Nat → Int} {w0 : fa_W} (ho : px_Fo o) (hp : px_po oP) (hd : oP + 26 < o) (h24 : nf ≤ 24) (hsi : si ≤ 100) (h11 : w0 (oP + 11) 1 = ((100 : Nat) : Int)) (h15 : w0 oP 15 = (si : Int)) (hix : ∀ s, s < si → w0 (oP + 12) s = (ix s : Int)) (hap : ∀ s, s < si → ap s < 2 ^ nf ∧ (ow s = -1 ∨ ∃ f : Nat, f < nf ∧ ow s = (f : Int)) ∧ ∀ w', px_fc o w0 w' → fm_Flow_applied o oP (ix s : Int) w' = (ap s : Int) ∧ fm_Program_owner oP (ix s : Int) w' = ow s) : ∀ (d k F : Nat) (cal : Nat → Nat) (w : fa_W), si = k + d → d < F → px_fc o w0 w → w (o + 5) 1 = (nf : Int) → (∀ f, f < nf → w (o + 6) f = (cal f : Int)) → (∀ f, cal f < 2 ^ nf) → ∃ (w' : fa_W) (cal' : Nat → Nat), fm_Flow_listCalls_l14 o oP F (k : Int) w = some w' ∧ px_fc o w0 w' ∧ w' (o + 5) 1 = (nf : Int) ∧ (∀ f, f < nf → w' (o + 6) f = (cal' f : Int)) ∧ (∀ f, cal' f < 2 ^ nf) ∧ ∀ f, f < nf → ∀ g, (cal' f).testBit g = true ↔ (cal f).testBit g = true ∨ ∃ s, k ≤ s ∧ s < si ∧ ow s = (f : Int) ∧ (ap s).testBit g = true := by
  have r2 := ho.1.2.2.1
  have s2 := ho.2.1.2.2.1
  have m2 := ho.2.2.2.2.1
  have t5 := hp.1.2.2.2.2.2.1
  have u5 := hp.2.1.2.2.2.2.2.1
  have v5 := hp.2.2.2.2.2.2.2.1
  clear ho hp
  intro d
  induction d with
  | zero =>
    intro k F cal w hk hF hf h5 hc hb
    obtain ⟨F, rfl⟩ : ∃ G, F = G + 1 := ⟨F - 1, by omega⟩
    refine ⟨w, cal, ?_, hf, h5, hc, hb, fun f _ g => ⟨Or.inl, fun h => ?_⟩⟩
    · unfold fm_Flow_listCalls_l14
      rw [hf _ _ (by omega) (by omega), h15, pb_wr (by omega), pb_wr (by omega), if_pos (by omega)]
    · rcases h with h | ⟨s, p, q, _⟩
      · exact h
      · omega
  | succ d ih =>
    intro k F cal w hk hF' hf h5 hc hb
    obtain ⟨F, rfl⟩ : ∃ G, F = G + 1 := ⟨F - 1, by omega⟩
    obtain ⟨a1, a2, a3⟩ := hap k (by omega)
    obtain ⟨b1, b2⟩ := a3 w hf
    have nx : ((k : Nat) : Int) + 1 = ((k + 1 : Nat) : Int) := by omega
    have e : fr_at (oP + 11) (k : Int) w = (ix k : Int) := by
      rw [pb_at (n := 100) ((hf _ _ (by omega) (by omega)).trans h11) (by omega) (by rw [v5]; exact Nat.le_refl _), u5, show oP + 11 + 1 = oP + 12 by omega, hf _ _ (by omega) (by omega)]
      exact hix k (by omega)
    unfold fm_Flow_listCalls_l14
    rw [hf _ _ (by omega) (by omega), h15, pb_wr (by omega), pb_wr (by omega), if_neg (by omega), t5, e, pf_let_eq, b2, pf_let_eq, b1, r2, pf_let_eq, pf_let_eq, nx]
    rcases a2 with a2 | ⟨f0, c1, c2⟩
    · rw [a2, pb_set_neg]
      obtain ⟨w', cal', q1, q2, q3, q4, q5, q6⟩ := ih (k + 1) F cal w (by omega) (by omega) hf h5 hc hb
      refine ⟨w', cal', q1, q2, q3, q4, q5, fun f hl g => (q6 f hl g).trans ⟨fun y => ?_, fun y => ?_⟩⟩
      · rcases y with y | ⟨s, p, y⟩
        · exact Or.inl y
        · exact Or.inr ⟨s, by omega, y⟩
      · rcases y with y | ⟨s, p, q, y1, y2⟩
        · exact Or.inl y
        · have : s ≠ k := fun es => by rw [es, a2] at y1; omega
          exact Or.inr ⟨s, by omega, q, y1, y2⟩
    · have n2 : nf ≤ fa_cp (o + 5) := by rw [m2]; exact h24
      rw [c2, pb_bits h5 c1 n2, s2, show o + 5 + 1 = o + 6 by omega, hc f0 c1, pb_or (pf_lt24 (pf_two h24 (hb f0))) (pf_lt24 (pf_two h24 a1)), pb_set h5 c1 n2, s2, show o + 5 + 1 = o + 6 by omega]
      have hor := Nat.or_lt_two_pow (hb f0) a1
      obtain ⟨w', cal', q1, q2, q3, q4, q5, q6⟩ := ih (k + 1) F (pu_set cal f0 (cal f0 ||| ap k)) (fa_st w (o + 6) f0 ((cal f0 ||| ap k : Nat) : Int)) (by omega) (by omega) (fun i j p q => (fa_st_ne (by omega)).trans (hf i j p q)) ((fa_st_ne (by omega)).trans h5) (fun f hl => by
        by_cases ef : f = f0
        · rw [ef, fa_st_eq, pu_set_eq]
        · rw [fa_st_ne (by omega), pu_set_ne _ _ ef]; exact hc f hl) (fun f => by
        by_cases ef : f = f0
        · rw [ef, pu_set_eq]; exact hor
        · rw [pu_set_ne _ _ ef]; exact hb f)
      refine ⟨w', cal', q1, q2, q3, q4, q5, fun f hl g => (q6 f hl g).trans ⟨fun y => ?_, fun y => ?_⟩⟩
      · rcases y with y | ⟨s, p, y⟩
        · by_cases ef : f = f0
          · rw [ef, pu_set_eq, Nat.testBit_or, Bool.or_eq_true] at y
            rw [ef]
            exact y.elim Or.inl (fun y => Or.inr ⟨k, Nat.le_refl _, by omega, c2, y⟩)
          · rw [pu_set_ne _ _ ef] at y
            exact Or.inl y
        · exact Or.inr ⟨s, by omega, y⟩
      · by_cases ef : f = f0
        · rw [ef, pu_set_eq, Nat.testBit_or, Bool.or_eq_true]
          rw [ef] at y
          rcases y with y | ⟨s, p, q, y1, y2⟩
          · exact Or.inl (Or.inl y)
          · by_cases es : s = k
            · rw [es] at y2
              exact Or.inl (Or.inr y2)
            · exact Or.inr ⟨s, by omega, q, y1, y2⟩
        · rw [pu_set_ne _ _ ef]
          rcases y with y | ⟨s, p, q, y1, y2⟩
          · exact Or.inl y
          · have : s ≠ k := fun es => by rw [es, c2] at y1; omega
            exact Or.inr ⟨s, by omega, q, y1, y2⟩
theorem px_listCalls {o oP nf si : Nat} {ix ap : Nat → Nat} {ow : Nat → Int} {w : fa_W} (ho : px_Fo o) (hp : px_po oP) (hd : oP + 26 < o) (h24 : nf ≤ 24) (hsi : si ≤ 100) (h11 : w (oP + 11) 1 = ((100 : Nat) : Int)) (h14 : w oP 14 = (nf : Int)) (h15 : w oP 15 = (si : Int)) (hix : ∀ s, s < si → w (oP + 12) s = (ix s : Int)) (hap : ∀ s, s < si → ap s < 2 ^ nf ∧ (ow s = -1 ∨ ∃ f : Nat, f < nf ∧ ow s = (f : Int)) ∧ ∀ w', px_fc o w w' → fm_Flow_applied o oP (ix s : Int) w' = (ap s : Int) ∧ fm_Program_owner oP (ix s : Int) w' = ow s) : ∃ (w' : fa_W) (cal : Nat → Nat), fm_Flow_listCalls o oP w = some w' ∧ px_fc o w w' ∧ w' (o + 5) 1 = (nf : Int) ∧ (∀ f, f < nf → w' (o + 6) f = (cal f : Int)) ∧ (∀ f, cal f < 2 ^ nf) ∧ ∀ f, f < nf → ∀ g, (cal f).testBit g = true ↔ ∃ s, s < si ∧ ow s = (f : Int) ∧ (ap s).testBit g = true := by
  obtain ⟨FU, hFU⟩ : ∃ F, F = fa_FU := ⟨_, rfl⟩
  have hF2 : 1000 < FU := by rw [hFU]; unfold fa_FU; omega
  unfold fm_Flow_listCalls
  rw [← hFU, h14, ho.1.2.2.1, pf_let_eq]
  have r1 := pb_refill (r := o + 5) (m := nf) (v := 0) (by rw [ho.2.1.2.2.1]; omega) (by rw [ho.2.2.2.2.1]; exact h24) w
  generalize fr_refill (o + 5) (nf : Int) 0 w = w3 at r1
  rw [ho.2.1.2.2.1, show o + 5 + 1 = o + 6 by omega] at r1
  obtain ⟨r11, r12, r13⟩ := r1
  have f0 : px_fc o w w3 := fun i j p q => by rw [r13 i p q]
  have z0 : ((0 : Nat) : Int) = 0 := rfl
  obtain ⟨w', cal, q1, q2, q3, q4, q5, q6⟩ := px_lc_l (nf := nf) (si := si) (ix := ix) (ap := ap) (ow := ow) (w0 := w) ho hp hd h24 hsi h11 h15 hix hap si 0 FU (fun _ => 0) w3 (by omega) (by omega) f0 r11 (fun f hf => r12 f hf) (fun _ => Nat.two_pow_pos _)
  rw [z0] at q1
  refine ⟨w', cal, q1, q2, q3, q4, q5, fun f hf g => (q6 f hf g).trans ⟨fun y => ?_, fun ⟨s, y⟩ => Or.inr ⟨s, Nat.zero_le _, y⟩⟩⟩
  rcases y with y | ⟨s, _, y⟩
  · rw [Nat.zero_testBit] at y; cases y
  · exact ⟨s, y⟩
