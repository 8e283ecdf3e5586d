/-! classes by SITES, by the class -/
theorem px_ms_98 {o oP oF nf : Nat} {tog x3 : Nat} {w0 : fa_W} {K : Int → fa_W → Option fa_W} (ho : px_Go o) (hd : oP + 26 < o) (h24 : nf ≤ 24) (ht : tog < 2 ^ nf) (h14 : w0 oP 14 = (nf : Int)) (h5 : w0 (o + 5) 1 = (nf : Int)) : ∀ (d k F : Nat) (w : fa_W), nf = k + d → d < F → px_fm o w0 w → (∀ f, f < nf → w (o + 6) f = if f < k ∧ tog.testBit f = true then (tog : Int) else w0 (o + 6) f) → ∃ w', fm_Groups_mateBySites_l98 o oP oF K F (x3 : Int) (tog : Int) (k : Int) w = K ((x3 : Int) + 1) w' ∧ px_fm o w0 w' ∧ ∀ f, f < nf → w' (o + 6) f = if tog.testBit f = true then (tog : Int) else w0 (o + 6) f := by
  obtain ⟨⟨r0, r1, r2⟩, ⟨s0, s1, s2⟩, m0, m1, m2⟩ := ho
  intro d
  induction d with
  | zero =>
    intro k F w hk hF hf hc
    obtain ⟨F, rfl⟩ : ∃ G, F = G + 1 := ⟨F - 1, by omega⟩
    refine ⟨w, ?_, hf, fun f hl => ?_⟩
    · unfold fm_Groups_mateBySites_l98
      rw [hf _ _ (by omega), h14, pb_wr (by omega), pb_wr (by omega), if_pos (by omega), pf_let_eq]
    · rw [hc f hl]
      by_cases c : tog.testBit f = true
      · rw [if_pos ⟨by omega, c⟩, if_pos c]
      · rw [if_neg (fun q => c q.2), if_neg c]
  | succ d ih =>
    intro k F w hk hF hf hc
    obtain ⟨F, rfl⟩ : ∃ G, F = G + 1 := ⟨F - 1, by omega⟩
    have nx : ((k : Nat) : Int) + 1 = ((k + 1 : Nat) : Int) := by omega
    unfold fm_Groups_mateBySites_l98
    rw [hf oP 14 (by omega), h14, pb_wr (by omega), pb_wr (by omega), if_neg (by omega), pf_hb (pf_lt24 (pf_two h24 ht)) (by omega)]
    by_cases c : tog.testBit k = true
    · rw [if_pos c, r2, pb_set ((hf _ _ (by omega)).trans h5) (by omega) (by rw [m2]; exact h24), s2, show o + 5 + 1 = o + 6 by omega, pf_let_eq, pf_let_eq, nx]
      refine ih (k + 1) F _ (by omega) (by omega) (fun i j p => (fa_st_ne (by omega)).trans (hf i j p)) (fun f hl => ?_)
      by_cases e : f = k
      · rw [e, fa_st_eq, if_pos ⟨by omega, c⟩]
      · rw [fa_st_ne (by omega), hc f hl]
        by_cases c2 : f < k ∧ tog.testBit f = true
        · rw [if_pos c2, if_pos ⟨by omega, c2.2⟩]
        · rw [if_neg c2, if_neg (fun q => c2 ⟨by omega, q.2⟩)]
    · rw [if_neg c, pf_let_eq, nx]
      refine ih (k + 1) F w (by omega) (by omega) hf (fun f hl => ?_)
      rw [hc f hl]
      by_cases c2 : f < k ∧ tog.testBit f = true
      · rw [if_pos c2, if_pos ⟨by omega, c2.2⟩]
      · rw [if_neg c2, if_neg (fun q => c2 ⟨by
          have : f ≠ k := fun e => c (e ▸ q.2)
          omega, q.2⟩)]
theorem px_ms_56 {o oP oF nf : Nat} {A x3 : Nat} {r : Nat → Nat → Prop} {w : fa_W} {K : Int → fa_W → Option fa_W} {FU : Nat} (hFU : FU = fa_FU) (ho : px_Go o) (h24 : nf ≤ 24) (hr : pg_eq r) (hA : A < 2 ^ nf) (h14 : w oP 14 = (nf : Int)) (h5 : w (o + 5) 1 = (nf : Int)) (h6 : ∀ f, f < nf → w (o + 6) f = ((pf_num (fun g => r f g) nf : Nat) : Int)) : ∀ (d k F tog : Nat), nf = k + d → d < F → tog < 2 ^ nf → (∀ a, A.testBit a = true → tog.testBit a = true) → (∀ g, tog.testBit g = true → ∃ a, A.testBit a = true ∧ r a g) → (∀ f, f < k → tog.testBit f = true → ∀ g, g < nf → r f g → tog.testBit g = true) → ∃ tog' : Nat, fm_Groups_mateBySites_l56 o oP oF K F (x3 : Int) (tog : Int) (k : Int) w = fm_Groups_mateBySites_l98 o oP oF K FU (x3 : Int) (tog' : Int) 0 w ∧ tog' < 2 ^ nf ∧ ∀ g, tog'.testBit g = true ↔ g < nf ∧ ∃ a, A.testBit a = true ∧ r a g := by
  obtain ⟨⟨r0, r1, r2⟩, ⟨s0, s1, s2⟩, m0, m1, m2⟩ := ho
  intro d
  induction d with
  | zero =>
    intro k F tog hk hF ht i1 i2 i3
    obtain ⟨F, rfl⟩ : ∃ G, F = G + 1 := ⟨F - 1, by omega⟩
    refine ⟨tog, ?_, ht, fun g => ⟨fun q => ⟨pf_tb_lt ht q, i2 g q⟩, fun ⟨q, a, a1, a2⟩ => i3 a (by have := pf_tb_lt hA a1; omega) (i1 a a1) g q a2⟩⟩
    unfold fm_Groups_mateBySites_l56
    rw [h14, pb_wr (by omega), pb_wr (by omega), if_pos (by omega), ← hFU]
  | succ d ih =>
    intro k F tog hk hF ht i1 i2 i3
    obtain ⟨F, rfl⟩ : ∃ G, F = G + 1 := ⟨F - 1, by omega⟩
    have nx : ((k : Nat) : Int) + 1 = ((k + 1 : Nat) : Int) := by omega
    unfold fm_Groups_mateBySites_l56
    rw [h14, pb_wr (by omega), pb_wr (by omega), if_neg (by omega), pf_hb (pf_lt24 (pf_two h24 ht)) (by omega)]
    by_cases c : tog.testBit k = true
    · have lk := pf_num_lt (fun g => r k g) nf
      rw [if_pos c, r2, pb_bits h5 (by omega) (by rw [m2]; exact h24), s2, show o + 5 + 1 = o + 6 by omega, h6 k (by omega), pb_or (pf_lt24 (pf_two h24 ht)) (pf_lt24 (pf_two h24 lk)), pf_let_eq, pf_let_eq, nx]
      obtain ⟨a0, a1, a2⟩ := i2 k c
      have bit : ∀ g, (tog ||| pf_num (fun g => r k g) nf).testBit g = true ↔ tog.testBit g = true ∨ (g < nf ∧ r k g) := fun g => by rw [Nat.testBit_or, Bool.or_eq_true, pf_num_bit]
      refine ih (k + 1) F _ (by omega) (by omega) (Nat.or_lt_two_pow ht lk) (fun a q => (bit a).mpr (Or.inl (i1 a q))) (fun g q => ?_) (fun f hf q g hg hrg => ?_)
      · rcases (bit g).mp q with q | ⟨_, q⟩
        · exact i2 g q
        · exact ⟨a0, a1, hr.2.2 _ _ _ a2 q⟩
      · refine (bit g).mpr ?_
        rcases (bit f).mp q with q | ⟨q1, q2⟩
        · by_cases e : f = k
          · rw [e] at hrg; exact Or.inr ⟨hg, hrg⟩
          · exact Or.inl (i3 f (by omega) q g hg hrg)
        · exact Or.inr ⟨hg, hr.2.2 _ _ _ q2 hrg⟩
    · rw [if_neg c, pf_let_eq, nx]
      exact ih (k + 1) F tog (by omega) (by omega) ht i1 i2 (fun f hf q g hg hrg => i3 f (by
        have : f ≠ k := fun e => c (e ▸ q)
        omega) q g hg hrg)
theorem px_ms_30 {o oP oF nf si : Nat} {ix A : Nat → Nat} {w0 : fa_W} (ho : px_Go o) (hp : px_po oP) (hd : oP + 26 < o) (h24 : nf ≤ 24) (hsi : si ≤ 100) (h14 : w0 oP 14 = (nf : Int)) (h15 : w0 oP 15 = (si : Int)) (h5 : w0 (o + 5) 1 = (nf : Int)) (hS : ∀ s, s < si → A s < 2 ^ nf ∧ ∀ w, px_fm o w0 w → fr_at (fa_rf oP 5) (s : Int) w = (ix s : Int) ∧ fm_Flow_applied oF oP (ix s : Int) w = (A s : Int)) : ∀ (d k F : Nat) (w : fa_W), si = k + d → d < F → px_fm o w0 w → (∀ f, f < nf → w (o + 6) f = ((pf_num (fun g => pg_j A k f g) nf : Nat) : Int)) → ∃ w', fm_Groups_mateBySites_l30 o oP oF F (k : Int) w = some w' ∧ px_fm o w0 w' ∧ ∀ f, f < nf → w' (o + 6) f = ((pf_num (fun g => pg_j A si f g) nf : Nat) : Int) := by
  obtain ⟨FU, hFU⟩ : ∃ F, F = fa_FU := ⟨_, rfl⟩
  have hF2 : 1000 < FU := by rw [hFU]; unfold fa_FU; omega
  intro d
  induction d with
  | zero =>
    intro k F w hk hF hf hc
    obtain ⟨F, rfl⟩ : ∃ G, F = G + 1 := ⟨F - 1, by omega⟩
    have ek : si = k := by omega
    refine ⟨w, ?_, hf, by rw [ek]; exact hc⟩
    unfold fm_Groups_mateBySites_l30
    rw [hf _ _ (by omega), h15, pb_wr (by omega), pb_wr (by omega), if_pos (by omega)]
  | succ d ih =>
    intro k F w hk hF hf hc
    obtain ⟨F, rfl⟩ : ∃ G, F = G + 1 := ⟨F - 1, by omega⟩
    have nx : ((k : Nat) : Int) + 1 = ((k + 1 : Nat) : Int) := by omega
    obtain ⟨lA, hw⟩ := hS k (by omega)
    obtain ⟨e1, e2⟩ := hw w hf
    have E := pg_j_eq A k
    obtain ⟨tog, t1, t2, t3⟩ := px_ms_56 (oP := oP) (oF := oF) (x3 := k) (K := fun x3 w9 => fm_Groups_mateBySites_l30 o oP oF F x3 w9) hFU ho h24 E lA ((hf _ _ (by omega)).trans h14) ((hf _ _ (by omega)).trans h5) hc nf 0 FU (A k) (by omega) (by omega) lA (fun a q => q) (fun g q => ⟨g, q, E.1 g⟩) (fun f hf => by omega)
    have z0 : ((0 : Nat) : Int) = 0 := rfl
    rw [z0] at t1
    obtain ⟨w1, u1, u2, u3⟩ := px_ms_98 (oF := oF) (x3 := k) (w0 := w) (K := fun x3 w9 => fm_Groups_mateBySites_l30 o oP oF F x3 w9) ho hd h24 t2 ((hf _ _ (by omega)).trans h14) ((hf _ _ (by omega)).trans h5) nf 0 FU w (by omega) (by omega) (fun _ _ _ => rfl) (fun f hl => by rw [if_neg (fun q => by omega)])
    rw [z0] at u1
    unfold fm_Groups_mateBySites_l30
    rw [← hFU, hf _ _ (by omega), h15, pb_wr (by omega), pb_wr (by omega), if_neg (by omega), e1, e2, pf_let_eq, t1, u1]
    try dsimp only
    rw [nx]
    refine ih (k + 1) F w1 (by omega) (by omega) (fun i j p => (u2 i j p).trans (hf i j p)) (fun f hl => ?_)
    rw [u3 f hl, hc f hl]
    by_cases c : tog.testBit f = true
    · rw [if_pos c]
      refine congrArg (fun n : Nat => (n : Int)) (pf_num_of t2 (fun g hg => ?_))
      rw [t3 g, pg_j_s]
      have cf := ((t3 f).mp c).2
      constructor
      · rintro ⟨_, q⟩; exact Or.inl ⟨cf, q⟩
      · rintro (⟨_, q⟩ | q)
        · exact ⟨hg, q⟩
        · obtain ⟨a, a1, a2⟩ := cf
          exact ⟨hg, a, a1, E.2.2 _ _ _ a2 q⟩
    · rw [if_neg c]
      refine congrArg (fun n : Nat => (n : Int)) (pf_num_cong (fun g hg => ?_))
      rw [pg_j_s]
      constructor
      · intro q; exact Or.inr q
      · rintro (⟨q, _⟩ | q)
        · exact absurd ((t3 f).mpr ⟨hl, q⟩) c
        · exact q
theorem px_ms_2 {o oP oF nf : Nat} {A : Nat → Nat} {w0 : fa_W} {FU : Nat} (hFU : FU = fa_FU) (ho : px_Go o) (hd : oP + 26 < o) (h24 : nf ≤ 24) (h14 : w0 oP 14 = (nf : Int)) (h5 : w0 (o + 5) 1 = (nf : Int)) : ∀ (d k F : Nat) (w : fa_W), nf = k + d → d < F → px_fm o w0 w → (∀ f, f < k → w (o + 6) f = ((pf_num (fun g => pg_j A 0 f g) nf : Nat) : Int)) → ∃ w', fm_Groups_mateBySites_l2 o oP oF F (k : Int) w = fm_Groups_mateBySites_l30 o oP oF FU 0 w' ∧ px_fm o w0 w' ∧ ∀ f, f < nf → w' (o + 6) f = ((pf_num (fun g => pg_j A 0 f g) nf : Nat) : Int) := by
  obtain ⟨⟨r0, r1, r2⟩, ⟨s0, s1, s2⟩, m0, m1, m2⟩ := ho
  intro d
  induction d with
  | zero =>
    intro k F w hk hF hf hc
    obtain ⟨F, rfl⟩ : ∃ G, F = G + 1 := ⟨F - 1, by omega⟩
    refine ⟨w, ?_, hf, fun f hl => hc f (by omega)⟩
    unfold fm_Groups_mateBySites_l2
    rw [hf _ _ (by omega), h14, pb_wr (by omega), pb_wr (by omega), if_pos (by omega), ← hFU]
  | succ d ih =>
    intro k F w hk hF hf hc
    obtain ⟨F, rfl⟩ : ∃ G, F = G + 1 := ⟨F - 1, by omega⟩
    have nx : ((k : Nat) : Int) + 1 = ((k + 1 : Nat) : Int) := by omega
    have hlt : 2 ^ k < 2 ^ nf := Nat.pow_lt_pow_right (by decide) (by omega)
    have e2 : 2 ^ k = pf_num (fun g => pg_j A 0 k g) nf := pf_num_of hlt (fun g _ => by rw [pg_j_0]; exact pf_one.trans ⟨Eq.symm, Eq.symm⟩)
    have hbit : fm_Face_bit (k : Int) w = ((2 ^ k : Nat) : Int) := pf_bit (by omega) w
    unfold fm_Groups_mateBySites_l2
    rw [hf oP 14 (by omega), h14, pb_wr (by omega), pb_wr (by omega), if_neg (by omega), hbit, r2, pb_set ((hf _ _ (by omega)).trans h5) (by omega) (by rw [m2]; exact h24), s2, show o + 5 + 1 = o + 6 by omega, pf_let_eq, pf_let_eq, nx, e2]
    refine ih (k + 1) F _ (by omega) (by omega) (fun i j p => (fa_st_ne (by omega)).trans (hf i j p)) (fun f hl => ?_)
    by_cases e : f = k
    · rw [e, fa_st_eq]
    · rw [fa_st_ne (by omega)]; exact hc f (by omega)
theorem px_mateBySites {o oP oF nf si : Nat} {ix A : Nat → Nat} {w : fa_W} (ho : px_Go o) (hp : px_po oP) (hd : oP + 26 < o) (h24 : nf ≤ 24) (hsi : si ≤ 100) (h14 : w oP 14 = (nf : Int)) (h15 : w oP 15 = (si : Int)) (h5 : w (o + 5) 1 = (nf : Int)) (hS : ∀ s, s < si → A s < 2 ^ nf ∧ ∀ w', px_fm o w w' → fr_at (fa_rf oP 5) (s : Int) w' = (ix s : Int) ∧ fm_Flow_applied oF oP (ix s : Int) w' = (A s : Int)) : ∃ w', fm_Groups_mateBySites o oP oF w = some w' ∧ px_fm o w w' ∧ ∀ f, f < nf → w' (o + 6) f = ((pf_num (fun g => pg_j A si f g) nf : Nat) : Int) := by
  obtain ⟨FU, hFU⟩ : ∃ F, F = fa_FU := ⟨_, rfl⟩
  have hF2 : 1000 < FU := by rw [hFU]; unfold fa_FU; omega
  have z0 : ((0 : Nat) : Int) = 0 := rfl
  obtain ⟨w1, a1, a2, a3⟩ := px_ms_2 (oF := oF) (A := A) hFU ho hd h24 h14 h5 nf 0 FU w (by omega) (by omega) (fun _ _ _ => rfl) (fun f hf => by omega)
  rw [z0] at a1
  unfold fm_Groups_mateBySites
  rw [← hFU, a1]
  obtain ⟨w2, b1, b2, b3⟩ := px_ms_30 (w0 := w) (ix := ix) ho hp hd h24 hsi h14 h15 h5 hS si 0 FU w1 (by omega) (by omega) a2 a3
  rw [z0] at b1
  exact ⟨w2, b1, b2, b3⟩
