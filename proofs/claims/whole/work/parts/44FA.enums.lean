/-! copying: SITES are numbered anew -/
theorem pe_ns_l {o oP si nd : Nat} {SV : Nat → Bool} {w0 : fa_W} (hs : pe_sep o oP) (hsi : si ≤ 100) (h100 : nd ≤ 100) (g11 : w0 (oP + 11) 1 = ((100 : Nat) : Int)) (g15 : w0 oP 15 = (si : Int)) (h23 : w0 (o + 23) 1 = (nd : Int)) (h25 : w0 (o + 25) 1 = ((100 : Nat) : Int)) (hm : ∀ s, s < si → ∃ i : Nat, i < nd ∧ w0 (oP + 12) s = (i : Int) ∧ ((w0 (o + 24) i = -1 ∧ SV s = false) ∨ (w0 (o + 24) i = 0 ∧ SV s = true))) : ∀ (d k F : Nat) (w : fa_W), si = k + d → d < F → (∀ i j, ¬ (i = o ∧ j = 15) → i ≠ o + 26 → w i j = w0 i j) → w o 15 = ((pc_rk SV k : Nat) : Int) → (∀ s, s < 100 → w (o + 26) s = if s < k ∧ SV s = true then ((pc_rk SV s : Nat) : Int) else -1) → ∃ w', fm_Program_numberSites_l12 o oP F (k : Int) w = some w' ∧ (∀ i j, ¬ (i = o ∧ j = 15) → i ≠ o + 26 → w' i j = w0 i j) ∧ w' o 15 = ((pc_rk SV si : Nat) : Int) ∧ ∀ s, s < 100 → w' (o + 26) s = if s < si ∧ SV s = true then ((pc_rk SV s : Nat) : Int) else -1 := by
  obtain ⟨he, ho, hp, hd⟩ := hs
  obtain ⟨r11, s11, m11⟩ := px_po_r11 ho
  obtain ⟨r12, s12, m12⟩ := px_po_r12 ho
  obtain ⟨r5, s5, m5⟩ := px_po_r5 hp
  intro d
  induction d with
  | zero =>
    intro k F w hk hF hw h1 h2
    obtain ⟨F, rfl⟩ : ∃ G, F = G + 1 := ⟨F - 1, by omega⟩
    have ek : k = si := by omega
    rw [ek] at h1 h2
    refine ⟨w, ?_, hw, h1, h2⟩
    unfold fm_Program_numberSites_l12
    rw [hw _ _ (by omega) (by omega), g15, pb_wr (by omega), pb_wr (by omega), if_pos (by omega)]
  | succ d ih =>
    intro k F w hk hF hw h1 h2
    obtain ⟨F, rfl⟩ : ∃ G, F = G + 1 := ⟨F - 1, by omega⟩
    have nx : ((k : Nat) : Int) + 1 = ((k + 1 : Nat) : Int) := by omega
    obtain ⟨i, i1, i2, i3⟩ := hm k (by omega)
    have e1 : fr_at (oP + 11) (k : Int) w = (i : Int) := by
      rw [pb_at ((hw _ _ (by omega) (by omega)).trans g11) (by omega) (by rw [m5]; exact Nat.le_refl _), s5, show oP + 11 + 1 = oP + 12 by omega, hw _ _ (by omega) (by omega), i2]
    have e2 : fr_at (o + 23) (i : Int) w = w0 (o + 24) i := by
      rw [pb_at ((hw _ _ (by omega) (by omega)).trans h23) i1 (by rw [m11]; exact h100), s11, show o + 23 + 1 = o + 24 by omega, hw _ _ (by omega) (by omega)]
    have lr := pc_rk_le SV k
    unfold fm_Program_numberSites_l12
    rw [hw oP 15 (by omega) (by omega), g15, pb_wr (by omega), pb_wr (by omega), if_neg (by omega), r5, e1, r11, e2]
    rcases i3 with ⟨i3, i4⟩ | ⟨i3, i4⟩
    · rw [i3, pb_wr1, if_pos rfl, pf_let_eq, nx]
      refine ih (k + 1) F w (by omega) (by omega) hw (by rw [pc_rk_f i4]; exact h1) (fun s hs => ?_)
      rw [h2 s hs]
      by_cases z : s < k ∧ SV s = true
      · rw [if_pos z, if_pos ⟨by omega, z.2⟩]
      · rw [if_neg z, if_neg (fun q => z ⟨by
          have : s ≠ k := fun e => by rw [e, i4] at q; cases q.2
          omega, q.2⟩)]
    · have st : fr_set (o + 25) (k : Int) (w o 15) w = fa_st w (o + 26) k ((pc_rk SV k : Nat) : Int) := by
        rw [pb_set ((hw _ _ (by omega) (by omega)).trans h25) (by omega) (by rw [m12]; exact Nat.le_refl _), s12, show o + 25 + 1 = o + 26 by omega, h1]
      have a1 : fa_st w (o + 26) k ((pc_rk SV k : Nat) : Int) o 15 = ((pc_rk SV k : Nat) : Int) := (fa_st_ne (by omega)).trans h1
      rw [i3, if_neg (by decide), r12, st, pf_let_eq, a1, pf_let_eq, pf_let_eq, nx]
      refine ih (k + 1) F _ (by omega) (by omega) (fun x y p q => (fa_st_ne (by omega)).trans ((fa_st_ne (by omega)).trans (hw x y p q))) (by rw [fa_st_eq, pc_rk_t i4]; rfl) (fun s hs => ?_)
      rw [fa_st_ne (by omega)]
      by_cases e : s = k
      · rw [e, fa_st_eq, if_pos ⟨by omega, i4⟩]
      · rw [fa_st_ne (by omega), h2 s hs]
        by_cases z : s < k ∧ SV s = true
        · rw [if_pos z, if_pos ⟨by omega, z.2⟩]
        · rw [if_neg z, if_neg (fun q => z ⟨by omega, q.2⟩)]
theorem pe_numS {o oP si nd : Nat} {SV : Nat → Bool} {w : fa_W} (hs : pe_sep o oP) (hsi : si ≤ 100) (h100 : nd ≤ 100) (g11 : w (oP + 11) 1 = ((100 : Nat) : Int)) (g15 : w oP 15 = (si : Int)) (h23 : w (o + 23) 1 = (nd : Int)) (h15 : w o 15 = 0) (hm : ∀ s, s < si → ∃ i : Nat, i < nd ∧ w (oP + 12) s = (i : Int) ∧ ((w (o + 24) i = -1 ∧ SV s = false) ∨ (w (o + 24) i = 0 ∧ SV s = true))) : ∃ w', fm_Program_numberSites o oP w = some w' ∧ (∀ i j, ¬ (i = o ∧ j = 15) → i ≠ o + 25 → i ≠ o + 26 → w' i j = w i j) ∧ w' (o + 25) 1 = ((100 : Nat) : Int) ∧ w' o 15 = ((pc_rk SV si : Nat) : Int) ∧ ∀ s, s < 100 → w' (o + 26) s = if s < si ∧ SV s = true then ((pc_rk SV s : Nat) : Int) else -1 := by
  obtain ⟨FU, hFU⟩ : ∃ F, F = fa_FU := ⟨_, rfl⟩
  have hF2 : 1000 < FU := by rw [hFU]; unfold fa_FU; omega
  obtain ⟨r12, s12, m12⟩ := px_po_r12 hs.2.1
  have hd := hs.2.2.2
  have z0 : ((0 : Nat) : Int) = 0 := rfl
  unfold fm_Program_numberSites
  rw [r12, show (100 : Int) = ((100 : Nat) : Int) from rfl, pf_let_eq, ← hFU]
  have q := pb_refill (r := o + 25) (m := 100) (v := -1) (by omega) (by rw [m12]; exact Nat.le_refl _) w
  generalize fr_refill (o + 25) ((100 : Nat) : Int) (-1) w = w2 at q
  obtain ⟨q1, q2, q3⟩ := q
  rw [s12, show o + 25 + 1 = o + 26 by omega] at q2 q3
  have f2 : ∀ i j, i ≠ o + 25 → i ≠ o + 26 → w2 i j = w i j := fun i j a b => by rw [q3 i a b]
  obtain ⟨w3, a1, a2, a3, a4⟩ := pe_ns_l (w0 := w2) (nd := nd) hs hsi h100 ((f2 _ _ (by omega) (by omega)).trans g11) ((f2 _ _ (by omega) (by omega)).trans g15) ((f2 _ _ (by omega) (by omega)).trans h23) q1 (fun s h => by
    obtain ⟨i, i1, i2, i3⟩ := hm s h
    refine ⟨i, i1, (f2 _ _ (by omega) (by omega)).trans i2, ?_⟩
    rw [f2 _ _ (by omega) (by omega)]
    exact i3) si 0 FU w2 (by omega) (by omega) (fun _ _ _ _ => rfl) ((f2 _ _ (by omega) (by omega)).trans h15) (fun s h => by rw [q2 s h, if_neg (fun z => by omega)])
  rw [z0] at a1
  exact ⟨w3, a1, fun i j p q r => (a2 i j p r).trans (f2 i j q r), (a2 _ _ (by omega) (by omega)).trans q1, a3, a4⟩
