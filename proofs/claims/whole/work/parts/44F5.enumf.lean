/-! copying: FUNCTIONS are numbered anew -/
def pe_sep (o oP : Nat) : Prop := px_oe o ∧ px_po o ∧ px_po oP ∧ (oP + 26 < o ∨ o + 26 < oP)
def pe_kp (M : Nat → Bool) (x : Int) : Prop := ∀ (f : Nat) (w : fa_W), f < 24 → fm_Face_hasBit x (f : Int) w = M f
def pe_f1 (o : Nat) (w w' : fa_W) : Prop := ∀ i j, ¬ (i = o ∧ j = 14) → i ≠ o + 14 → i ≠ o + 21 → i ≠ o + 22 → w' i j = w i j
theorem pe_nf_76 {o oP : Nat} {kp : Int} {w0 : fa_W} (hs : pe_sep o oP) (h13 : w0 (o + 13) 1 = ((74 : Nat) : Int)) (g13 : w0 (oP + 13) 1 = ((74 : Nat) : Int)) : ∀ (d v F : Nat) (w : fa_W), 74 = v + d → 24 ≤ v → d < F → (∀ i j, i ≠ o + 14 → w i j = w0 i j) → (∀ j, j < 24 → w (o + 14) j = w0 (o + 14) j) → (∀ j, 24 ≤ j → j < v → w (o + 14) j = w0 (oP + 14) j) → ∃ w', fm_Program_numberFunctions_l76 o oP kp F (v : Int) w = some w' ∧ (∀ i j, i ≠ o + 14 → w' i j = w0 i j) ∧ (∀ j, j < 24 → w' (o + 14) j = w0 (o + 14) j) ∧ ∀ j, 24 ≤ j → j < 74 → w' (o + 14) j = w0 (oP + 14) j := by
  obtain ⟨he, ho, hp, hd⟩ := hs
  obtain ⟨r6, s6, m6⟩ := px_po_r6 ho
  obtain ⟨t6, u6, v6⟩ := px_po_r6 hp
  intro d
  induction d with
  | zero =>
    intro v F w hv hv24 hF hw h1 h2
    obtain ⟨F, rfl⟩ : ∃ G, F = G + 1 := ⟨F - 1, by omega⟩
    refine ⟨w, ?_, hw, h1, fun j a b => h2 j a (by omega)⟩
    unfold fm_Program_numberFunctions_l76
    rw [pb_wr (by omega), if_pos (by omega)]
  | succ d ih =>
    intro v F w hv hv24 hF hw h1 h2
    obtain ⟨F, rfl⟩ : ∃ G, F = G + 1 := ⟨F - 1, by omega⟩
    have nx : ((v : Nat) : Int) + 1 = ((v + 1 : Nat) : Int) := by omega
    have e1 : fr_at (oP + 13) (v : Int) w = w0 (oP + 14) v := by
      rw [pb_at ((hw _ _ (by omega)).trans g13) (by omega) (by rw [v6]; exact Nat.le_refl _), u6, show oP + 13 + 1 = oP + 14 by omega, hw _ _ (by omega)]
    unfold fm_Program_numberFunctions_l76
    rw [pb_wr (by omega), if_neg (by omega), t6, e1, r6, pb_set ((hw _ _ (by omega)).trans h13) (by omega) (by rw [m6]; exact Nat.le_refl _), s6, show o + 13 + 1 = o + 14 by omega, pf_let_eq, pf_let_eq, nx]
    refine ih (v + 1) F _ (by omega) (by omega) (by omega) (fun i j p => (fa_st_ne (by omega)).trans (hw i j p)) (fun j p => (fa_st_ne (by omega)).trans (h1 j p)) (fun j p q => ?_)
    by_cases e : j = v
    · rw [e, fa_st_eq]
    · rw [fa_st_ne (by omega)]; exact h2 j p (by omega)
theorem pe_nf_12 {o oP : Nat} {kp : Int} {M : Nat → Bool} {w0 : fa_W} {FU : Nat} (hFU : FU = fa_FU) (hs : pe_sep o oP) (hk : pe_kp M kp) (h13 : w0 (o + 13) 1 = ((74 : Nat) : Int)) (g13 : w0 (oP + 13) 1 = ((74 : Nat) : Int)) (h21 : w0 (o + 21) 1 = ((24 : Nat) : Int)) : ∀ (d k F : Nat) (w : fa_W), 24 = k + d → d < F → (∀ i j, ¬ (i = o ∧ j = 14) → i ≠ o + 14 → i ≠ o + 22 → w i j = w0 i j) → w o 14 = ((pc_rk M k : Nat) : Int) → (∀ f, f < 24 → w (o + 22) f = if f < k ∧ M f = true then ((pc_rk M f : Nat) : Int) else -1) → (∀ f, f < k → M f = true → w (o + 14) (pc_rk M f) = w0 (oP + 14) f) → ∃ w', fm_Program_numberFunctions_l12 o oP kp F (k : Int) w = fm_Program_numberFunctions_l76 o oP kp FU 24 w' ∧ (∀ i j, ¬ (i = o ∧ j = 14) → i ≠ o + 14 → i ≠ o + 22 → w' i j = w0 i j) ∧ w' o 14 = ((pc_rk M 24 : Nat) : Int) ∧ (∀ f, f < 24 → w' (o + 22) f = if M f = true then ((pc_rk M f : Nat) : Int) else -1) ∧ ∀ f, f < 24 → M f = true → w' (o + 14) (pc_rk M f) = w0 (oP + 14) f := by
  obtain ⟨he, ho, hp, hd⟩ := hs
  obtain ⟨r6, s6, m6⟩ := px_po_r6 ho
  obtain ⟨t6, u6, v6⟩ := px_po_r6 hp
  obtain ⟨r10, s10, m10⟩ := px_po_r10 ho
  intro d
  induction d with
  | zero =>
    intro k F w hk' hF hw h1 h2 h3
    obtain ⟨F, rfl⟩ : ∃ G, F = G + 1 := ⟨F - 1, by omega⟩
    have ek : k = 24 := by omega
    rw [ek] at h1 h2 h3
    refine ⟨w, ?_, hw, h1, fun f hf => ?_, h3⟩
    · unfold fm_Program_numberFunctions_l12
      rw [pb_wr (by omega), if_pos (by omega), ← hFU]
    · rw [h2 f hf]
      by_cases c : M f = true
      · rw [if_pos ⟨hf, c⟩, if_pos c]
      · rw [if_neg (fun q => c q.2), if_neg c]
  | succ d ih =>
    intro k F w hk' hF hw h1 h2 h3
    obtain ⟨F, rfl⟩ : ∃ G, F = G + 1 := ⟨F - 1, by omega⟩
    have nx : ((k : Nat) : Int) + 1 = ((k + 1 : Nat) : Int) := by omega
    have lr := pc_rk_le M k
    unfold fm_Program_numberFunctions_l12
    rw [pb_wr (by omega), if_neg (by omega), hk k w (by omega)]
    by_cases c : M k = true
    · have st1 : fr_set (o + 21) (k : Int) (w o 14) w = fa_st w (o + 22) k ((pc_rk M k : Nat) : Int) := by
        rw [pb_set ((hw _ _ (by omega) (by omega) (by omega)).trans h21) (by omega) (by rw [m10]; exact Nat.le_refl _), s10, show o + 21 + 1 = o + 22 by omega, h1]
      have a1 : fa_st w (o + 22) k ((pc_rk M k : Nat) : Int) o 14 = ((pc_rk M k : Nat) : Int) := (fa_st_ne (by omega)).trans h1
      have e1 : fr_at (oP + 13) (k : Int) (fa_st w (o + 22) k ((pc_rk M k : Nat) : Int)) = w0 (oP + 14) k := by
        rw [pb_at ((fa_st_ne (by omega)).trans ((hw _ _ (by omega) (by omega) (by omega)).trans g13)) (by omega) (by rw [v6]; exact Nat.le_refl _), u6, show oP + 13 + 1 = oP + 14 by omega, fa_st_ne (by omega), hw _ _ (by omega) (by omega) (by omega)]
      have st2 : fr_set (o + 13) ((pc_rk M k : Nat) : Int) (w0 (oP + 14) k) (fa_st w (o + 22) k ((pc_rk M k : Nat) : Int)) = fa_st (fa_st w (o + 22) k ((pc_rk M k : Nat) : Int)) (o + 14) (pc_rk M k) (w0 (oP + 14) k) := by
        rw [pb_set ((fa_st_ne (by omega)).trans ((hw _ _ (by omega) (by omega) (by omega)).trans h13)) (by omega) (by rw [m6]; exact Nat.le_refl _), s6, show o + 13 + 1 = o + 14 by omega]
      have a2 : fa_st (fa_st w (o + 22) k ((pc_rk M k : Nat) : Int)) (o + 14) (pc_rk M k) (w0 (oP + 14) k) o 14 = ((pc_rk M k : Nat) : Int) := (fa_st_ne (by omega)).trans a1
      rw [if_pos c, r10, st1, pf_let_eq, a1, t6, e1, r6, st2, pf_let_eq, a2, pf_let_eq, pf_let_eq, nx]
      have nr := pc_rk_t c
      refine ih (k + 1) F _ (by omega) (by omega) (fun i j p q r => (fa_st_ne (by omega)).trans ((fa_st_ne (by omega)).trans ((fa_st_ne (by omega)).trans (hw i j p q r)))) ?_ (fun f hf => ?_) (fun f hf hm => ?_)
      · rw [fa_st_eq, nr]; rfl
      · rw [fa_st_ne (by omega), fa_st_ne (by omega)]
        by_cases e : f = k
        · rw [e, fa_st_eq, if_pos ⟨by omega, c⟩]
        · rw [fa_st_ne (by omega), h2 f hf]
          by_cases z : f < k ∧ M f = true
          · rw [if_pos z, if_pos ⟨by omega, z.2⟩]
          · rw [if_neg z, if_neg (fun q => z ⟨by omega, q.2⟩)]
      · rw [fa_st_ne (by omega)]
        by_cases e : f = k
        · rw [e, fa_st_eq]
        · have := pc_rk_lt hm (show f < k by omega)
          rw [fa_st_ne (by omega), fa_st_ne (by omega)]
          exact h3 f (by omega) hm
    · rw [if_neg c, pf_let_eq, nx]
      refine ih (k + 1) F w (by omega) (by omega) hw (by rw [pc_rk_f (pc_bf c)]; exact h1) (fun f hf => ?_) (fun f hf hm => h3 f (by
        have : f ≠ k := fun e => c (e ▸ hm)
        omega) hm)
      rw [h2 f hf]
      by_cases z : f < k ∧ M f = true
      · rw [if_pos z, if_pos ⟨by omega, z.2⟩]
      · rw [if_neg z, if_neg (fun q => z ⟨by
          have : f ≠ k := fun e => c (e ▸ q.2)
          omega, q.2⟩)]
theorem pe_numF {o oP : Nat} {kp : Int} {M : Nat → Bool} {w : fa_W} (hs : pe_sep o oP) (hk : pe_kp M kp) (h13 : w (o + 13) 1 = ((74 : Nat) : Int)) (g13 : w (oP + 13) 1 = ((74 : Nat) : Int)) (h14 : w o 14 = 0) : ∃ w', fm_Program_numberFunctions o oP kp w = some w' ∧ pe_f1 o w w' ∧ w' (o + 21) 1 = ((24 : Nat) : Int) ∧ w' o 14 = ((pc_rk M 24 : Nat) : Int) ∧ (∀ f, f < 24 → w' (o + 22) f = if M f = true then ((pc_rk M f : Nat) : Int) else -1) ∧ (∀ f, f < 24 → M f = true → w' (o + 14) (pc_rk M f) = w (oP + 14) f) ∧ ∀ j, 24 ≤ j → j < 74 → w' (o + 14) j = w (oP + 14) j := by
  obtain ⟨FU, hFU⟩ : ∃ F, F = fa_FU := ⟨_, rfl⟩
  have hF2 : 1000 < FU := by rw [hFU]; unfold fa_FU; omega
  obtain ⟨r10, s10, m10⟩ := px_po_r10 hs.2.1
  have hd := hs.2.2.2
  have z0 : ((0 : Nat) : Int) = 0 := rfl
  have e24 : (24 : Int) = ((24 : Nat) : Int) := rfl
  unfold fm_Program_numberFunctions
  rw [r10, e24, pf_let_eq, ← hFU]
  have q := pb_refill (r := o + 21) (m := 24) (v := -1) (by omega) (by rw [m10]; exact Nat.le_refl _) w
  generalize fr_refill (o + 21) ((24 : Nat) : Int) (-1) w = w2 at q
  obtain ⟨q1, q2, q3⟩ := q
  rw [s10, show o + 21 + 1 = o + 22 by omega] at q2 q3
  have f2 : ∀ i j, i ≠ o + 21 → i ≠ o + 22 → w2 i j = w i j := fun i j a b => by rw [q3 i a b]
  obtain ⟨w3, a1, a2, a3, a4, a5⟩ := pe_nf_12 (w0 := w2) hFU hs hk ((f2 _ _ (by omega) (by omega)).trans h13) ((f2 _ _ (by omega) (by omega)).trans g13) q1 24 0 FU w2 (by omega) (by omega) (fun _ _ _ _ _ => rfl) ((f2 _ _ (by omega) (by omega)).trans h14) (fun f hf => by rw [q2 f hf, if_neg (fun z => by omega)]) (fun f hf => by omega)
  rw [z0] at a1
  rw [a1, e24]
  obtain ⟨w4, b1, b2, b3, b4⟩ := pe_nf_76 (kp := kp) (w0 := w3) hs ((a2 _ _ (by omega) (by omega) (by omega)).trans ((f2 _ _ (by omega) (by omega)).trans h13)) ((a2 _ _ (by omega) (by omega) (by omega)).trans ((f2 _ _ (by omega) (by omega)).trans g13)) 50 24 FU w3 (by omega) (by omega) (by omega) (fun _ _ _ => rfl) (fun _ _ => rfl) (fun j p q => by omega)
  refine ⟨w4, b1, fun i j p q r s => (b2 i j q).trans ((a2 i j p q s).trans (f2 i j r s)), ?_, ?_, fun f hf => ?_, fun f hf hm => ?_, fun j p q => ?_⟩
  · exact (b2 _ _ (by omega)).trans ((a2 _ _ (by omega) (by omega) (by omega)).trans q1)
  · exact (b2 _ _ (by omega)).trans a3
  · exact (b2 _ _ (by omega)).trans (a4 f hf)
  · have := pc_rk_le M f
    exact (b3 _ (by omega)).trans ((a5 f hf hm).trans (f2 _ _ (by omega) (by omega)))
  · exact (b4 j p q).trans ((a2 _ _ (by omega) (by omega) (by omega)).trans (f2 _ _ (by omega) (by omega)))
