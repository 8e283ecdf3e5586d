/-! classes by TYPE, by the class -/
def px_fm (o : Nat) (w w' : fa_W) : Prop := ∀ i j, i ≠ o + 6 → w' i j = w i j
theorem px_mt_18 {o oP oT nf mk f : Nat} {r : Nat → Nat → Prop} {w : fa_W} {K : Int → fa_W → Option fa_W} (ho : px_Go o) (h24 : nf ≤ 24) (hf : f < nf) (hmk : mk < 2 ^ nf) (h14 : w oP 14 = (nf : Int)) (h5 : w (o + 5) 1 = (nf : Int)) (hs : ∀ g, g < nf → ∃ b, fm_Typing_same oT (f : Int) (g : Int) w = some b ∧ (b = true ↔ r f g)) : ∀ (d k F acc : Nat), nf = k + d → d < F → acc < 2 ^ nf → (∀ g, acc.testBit g = true ↔ g < k ∧ mk.testBit g = true ∧ r f g) → fm_Groups_mateByType_l18 o oP oT (mk : Int) K F (f : Int) (acc : Int) (k : Int) w = K ((f : Int) + 1) (fa_st w (o + 6) f ((pg_mt (fun g => mk.testBit g = true) r nf f : Nat) : Int)) := by
  obtain ⟨⟨r0, r1, r2⟩, ⟨s0, s1, s2⟩, m0, m1, m2⟩ := ho
  intro d
  induction d with
  | zero =>
    intro k F acc hk hF ha hb
    obtain ⟨F, rfl⟩ : ∃ G, F = G + 1 := ⟨F - 1, by omega⟩
    have e : acc = pg_mt (fun g => mk.testBit g = true) r nf f := pf_num_of ha (fun g hg => (hb g).trans ⟨fun q => q.2, fun q => ⟨by omega, q⟩⟩)
    unfold fm_Groups_mateByType_l18
    rw [h14, pb_wr (by omega), pb_wr (by omega), if_pos (by omega), r2, pb_set h5 hf (by rw [m2]; exact h24), s2, show o + 5 + 1 = o + 6 by omega, pf_let_eq, pf_let_eq, e]
  | succ d ih =>
    intro k F acc hk hF ha hb
    obtain ⟨F, rfl⟩ : ∃ G, F = G + 1 := ⟨F - 1, by omega⟩
    have nx : ((k : Nat) : Int) + 1 = ((k + 1 : Nat) : Int) := by omega
    have hone : ∀ g, (2 ^ k).testBit g = true ↔ g = k := fun g => pf_one
    have hlt : 2 ^ k < 2 ^ nf := Nat.pow_lt_pow_right (by decide) (by omega)
    have hbit : fm_Face_bit (k : Int) w = ((2 ^ k : Nat) : Int) := pf_bit (by omega) w
    generalize 2 ^ k = y at hone hlt hbit
    have skip : ¬ (mk.testBit k = true ∧ r f k) → fm_Groups_mateByType_l18 o oP oT (mk : Int) K F (f : Int) (acc : Int) ((k + 1 : Nat) : Int) w = K ((f : Int) + 1) (fa_st w (o + 6) f ((pg_mt (fun g => mk.testBit g = true) r nf f : Nat) : Int)) := fun no => ih (k + 1) F acc (by omega) (by omega) ha (fun g => (hb g).trans ⟨fun q => ⟨by omega, q.2⟩, fun q => by
      have : g ≠ k := fun e => no (by rw [← e]; exact q.2)
      exact ⟨by omega, q.2⟩⟩)
    unfold fm_Groups_mateByType_l18
    rw [h14, pb_wr (by omega), pb_wr (by omega), if_neg (by omega), pf_hb (pf_lt24 (pf_two h24 hmk)) (by omega)]
    by_cases c : mk.testBit k = true
    · obtain ⟨b, b1, b2⟩ := hs k (by omega)
      rw [if_pos c, b1, Option.bind_some]
      by_cases c2 : b = true
      · rw [if_pos c2, hbit, pb_or (pf_lt24 (pf_two h24 ha)) (pf_lt24 (pf_two h24 hlt)), pf_let_eq, pf_let_eq, nx]
        refine ih (k + 1) F (acc ||| y) (by omega) (by omega) (Nat.or_lt_two_pow ha hlt) (fun g => ?_)
        rw [Nat.testBit_or, Bool.or_eq_true, hone, hb]
        constructor
        · rintro (⟨p, q⟩ | p)
          · exact ⟨by omega, q⟩
          · rw [p]; exact ⟨by omega, c, b2.mp c2⟩
        · rintro ⟨p, q⟩
          by_cases e : g = k
          · exact Or.inr e
          · exact Or.inl ⟨by omega, q⟩
      · rw [if_neg c2, pf_let_eq, nx]
        exact skip (fun q => c2 (b2.mpr q.2))
    · rw [if_neg c, pf_let_eq, nx]
      exact skip (fun q => c q.1)
theorem px_mt_3 {o oP oT nf mk : Nat} {r : Nat → Nat → Prop} {w0 : fa_W} (ho : px_Go o) (hd : oP + 26 < o) (h24 : nf ≤ 24) (hmk : mk < 2 ^ nf) (h14 : w0 oP 14 = (nf : Int)) (h5 : w0 (o + 5) 1 = (nf : Int)) (hs : ∀ w, px_fm o w0 w → ∀ f g, f < nf → g < nf → ∃ b, fm_Typing_same oT (f : Int) (g : Int) w = some b ∧ (b = true ↔ r f g)) : ∀ (d k F : Nat) (w : fa_W), nf = k + d → d < F → px_fm o w0 w → (∀ f, f < k → w (o + 6) f = ((pg_mt (fun g => mk.testBit g = true) r nf f : Nat) : Int)) → ∃ w', fm_Groups_mateByType_l3 o oP oT (mk : Int) F (k : Int) w = some w' ∧ px_fm o w0 w' ∧ ∀ f, f < nf → w' (o + 6) f = ((pg_mt (fun g => mk.testBit g = true) r nf f : Nat) : Int) := by
  obtain ⟨FU, hFU⟩ : ∃ F, F = fa_FU := ⟨_, rfl⟩
  have hF2 : 1000 < FU := by rw [hFU]; unfold fa_FU; omega
  intro d
  induction d with
  | zero =>
    intro k F w hk hF hf hc
    obtain ⟨F, rfl⟩ : ∃ G, F = G + 1 := ⟨F - 1, by omega⟩
    refine ⟨w, ?_, hf, fun f hl => hc f (by omega)⟩
    unfold fm_Groups_mateByType_l3
    rw [hf _ _ (by omega), h14, pb_wr (by omega), pb_wr (by omega), if_pos (by omega)]
  | succ d ih =>
    intro k F w hk hF hf hc
    obtain ⟨F, rfl⟩ : ∃ G, F = G + 1 := ⟨F - 1, by omega⟩
    have nx : ((k : Nat) : Int) + 1 = ((k + 1 : Nat) : Int) := by omega
    have q := px_mt_18 (o := o) (oP := oP) (oT := oT) (f := k) (r := r) (w := w) (K := fun x4 w9 => fm_Groups_mateByType_l3 o oP oT (mk : Int) F x4 w9) ho h24 (by omega) hmk ((hf _ _ (by omega)).trans h14) ((hf _ _ (by omega)).trans h5) (fun g hg => hs w hf k g (by omega) hg) nf 0 FU 0 (by omega) (by omega) (Nat.two_pow_pos _) (fun g => ⟨fun q => (by rw [Nat.zero_testBit] at q; cases q), fun q => by omega⟩)
    have z0 : ((0 : Nat) : Int) = 0 := rfl
    rw [z0] at q
    unfold fm_Groups_mateByType_l3
    rw [← hFU, hf _ _ (by omega), h14, pb_wr (by omega), pb_wr (by omega), if_neg (by omega), q]
    try dsimp only
    rw [nx]
    refine ih (k + 1) F _ (by omega) (by omega) (fun i j p => (fa_st_ne (by omega)).trans (hf i j p)) (fun f hl => ?_)
    by_cases e : f = k
    · rw [e, fa_st_eq]
    · rw [fa_st_ne (by omega)]; exact hc f (by omega)
theorem px_mateByType {o oP oT nf mk : Nat} {r : Nat → Nat → Prop} {w : fa_W} (ho : px_Go o) (hd : oP + 26 < o) (h24 : nf ≤ 24) (hmk : mk < 2 ^ nf) (h14 : w oP 14 = (nf : Int)) (h5 : w (o + 5) 1 = (nf : Int)) (hs : ∀ w', px_fm o w w' → ∀ f g, f < nf → g < nf → ∃ b, fm_Typing_same oT (f : Int) (g : Int) w' = some b ∧ (b = true ↔ r f g)) : ∃ w', fm_Groups_mateByType o oP oT (mk : Int) w = some w' ∧ px_fm o w w' ∧ ∀ f, f < nf → w' (o + 6) f = ((pg_mt (fun g => mk.testBit g = true) r nf f : Nat) : Int) := by
  obtain ⟨FU, hFU⟩ : ∃ F, F = fa_FU := ⟨_, rfl⟩
  have hF2 : 1000 < FU := by rw [hFU]; unfold fa_FU; omega
  unfold fm_Groups_mateByType
  rw [← hFU]
  exact px_mt_3 ho hd h24 hmk h14 h5 hs nf 0 FU w (by omega) (by omega) (fun _ _ _ => rfl) (fun f hf => by omega)
