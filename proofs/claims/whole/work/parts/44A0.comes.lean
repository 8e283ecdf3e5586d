/-! the reference's COMES, from its start to its end -/
theorem pf_i54 {FU : Nat} (hFU : FU = fa_FU) : ∀ (d k F : Nat) (w : fa_W), 101 = k + d → d < F → ∃ w', fm_Mod_comesAll_l54 F (k : Int) w = fm_Mod_comesAll_l99 FU (fa_st w' 181 55 1) ∧ (∀ i j, 209 ≤ i → i ≤ 212 → k ≤ j → j < 101 → w' i j = 0) ∧ ∀ i j, ¬ (209 ≤ i ∧ i ≤ 212 ∧ k ≤ j ∧ j < 101) → w' i j = w i j := by
  intro d
  induction d with
  | zero =>
    intro k F w hk hF
    obtain ⟨F, rfl⟩ : ∃ G, F = G + 1 := ⟨F - 1, by omega⟩
    refine ⟨w, ?_, fun i j a b c e => by omega, fun _ _ _ => rfl⟩
    unfold fm_Mod_comesAll_l54
    rw [pb_wr (by omega), if_pos (by omega), ← hFU]
    rfl
  | succ d ih =>
    intro k F w hk hF
    obtain ⟨F, rfl⟩ : ∃ G, F = G + 1 := ⟨F - 1, by omega⟩
    unfold fm_Mod_comesAll_l54
    rw [pb_wr (by omega), if_neg (by omega), pb_ix (k := k) (n := 101) (by omega) (by omega)]
    dsimp only [fa_let, Option.bind_some, fa_bi]
    rw [if_neg (by decide), show ((k : Nat) : Int) + 1 = ((k + 1 : Nat) : Int) by omega]
    obtain ⟨w', q1, q2, q3⟩ := ih (k + 1) F (fa_st (fa_st (fa_st (fa_st w 212 k 0) 209 k 0) 210 k 0) 211 k 0) (by omega) (by omega)
    refine ⟨w', q1, fun i j a b c e => ?_, fun i j h => ?_⟩
    · by_cases ej : j = k
      · rw [ej, q3 i k (by omega)]
        by_cases i1 : i = 211
        · rw [i1, fa_st_eq]
        · rw [fa_st_ne (by omega)]
          by_cases i2 : i = 210
          · rw [i2, fa_st_eq]
          · rw [fa_st_ne (by omega)]
            by_cases i3 : i = 209
            · rw [i3, fa_st_eq]
            · rw [fa_st_ne (by omega), show i = 212 by omega, fa_st_eq]
      · exact q2 i j a b (by omega) e
    · rw [q3 i j (by omega), fa_st_ne (by omega), fa_st_ne (by omega), fa_st_ne (by omega), fa_st_ne (by omega)]
theorem pf_i33 {FU : Nat} (hFU : FU = fa_FU) : ∀ (d k F : Nat) (w : fa_W), 24 = k + d → d < F → ∃ w', fm_Mod_comesAll_l33 F (k : Int) w = fm_Mod_comesAll_l54 FU 0 w' ∧ (∀ j, k ≤ j → j < 24 → w' 208 j = 0) ∧ ∀ i j, ¬ (i = 208 ∧ k ≤ j ∧ j < 24) → w' i j = w i j := by
  intro d
  induction d with
  | zero =>
    intro k F w hk hF
    obtain ⟨F, rfl⟩ : ∃ G, F = G + 1 := ⟨F - 1, by omega⟩
    refine ⟨w, ?_, fun j c e => by omega, fun _ _ _ => rfl⟩
    unfold fm_Mod_comesAll_l33
    rw [pb_wr (by omega), if_pos (by omega), ← hFU]
  | succ d ih =>
    intro k F w hk hF
    obtain ⟨F, rfl⟩ : ∃ G, F = G + 1 := ⟨F - 1, by omega⟩
    unfold fm_Mod_comesAll_l33
    rw [pb_wr (by omega), if_neg (by omega), pb_ix (k := k) (n := 24) (by omega) (by omega)]
    dsimp only [fa_let, Option.bind_some]
    rw [show ((k : Nat) : Int) + 1 = ((k + 1 : Nat) : Int) by omega]
    obtain ⟨w', q1, q2, q3⟩ := ih (k + 1) F (fa_st w 208 k 0) (by omega) (by omega)
    refine ⟨w', q1, fun j c e => ?_, fun i j h => ?_⟩
    · by_cases ej : j = k
      · rw [ej, q3 208 k (by omega), fa_st_eq]
      · exact q2 j (by omega) e
    · rw [q3 i j (by omega), fa_st_ne (by omega)]
theorem pf_i12 {FU : Nat} (hFU : FU = fa_FU) : ∀ (d k F : Nat) (w : fa_W), 124 = k + d → d < F → ∃ w', fm_Mod_comesAll_l12 F (k : Int) w = fm_Mod_comesAll_l33 FU 0 w' ∧ (∀ j, k ≤ j → j < 124 → w' 207 j = 0) ∧ ∀ i j, ¬ (i = 207 ∧ k ≤ j ∧ j < 124) → w' i j = w i j := by
  intro d
  induction d with
  | zero =>
    intro k F w hk hF
    obtain ⟨F, rfl⟩ : ∃ G, F = G + 1 := ⟨F - 1, by omega⟩
    refine ⟨w, ?_, fun j c e => by omega, fun _ _ _ => rfl⟩
    unfold fm_Mod_comesAll_l12
    rw [pb_wr (by omega), if_pos (by omega), ← hFU]
  | succ d ih =>
    intro k F w hk hF
    obtain ⟨F, rfl⟩ : ∃ G, F = G + 1 := ⟨F - 1, by omega⟩
    unfold fm_Mod_comesAll_l12
    rw [pb_wr (by omega), if_neg (by omega), pb_ix (k := k) (n := 124) (by omega) (by omega)]
    dsimp only [fa_let, Option.bind_some]
    rw [show ((k : Nat) : Int) + 1 = ((k + 1 : Nat) : Int) by omega]
    obtain ⟨w', q1, q2, q3⟩ := ih (k + 1) F (fa_st w 207 k 0) (by omega) (by omega)
    refine ⟨w', q1, fun j c e => ?_, fun i j h => ?_⟩
    · by_cases ej : j = k
      · rw [ej, q3 207 k (by omega), fa_st_eq]
      · exact q2 j (by omega) e
    · rw [q3 i j (by omega), fa_st_ne (by omega)]
/-- the sets of the state are the least ones -/
def pf_lz (fb : Nat → pt_T) (t : pt_T) (z : pf_s) : Prop := pf_b z.1 = pf_lH fb t ∧ pf_b z.2.1 = pf_lR fb t ∧ pf_zL z = pf_lL fb t ∧ pf_zM z = pf_M fb t
theorem pf_lz_of {fb : Nat → pt_T} {t : pt_T} {z : pf_s} (hx : pf_fix fb t z) (hs : pf_sd z (pf_lH fb t) (pf_lR fb t) (pf_lL fb t) (pf_M fb t)) : pf_lz fb t z := by
  have hC : pf_C fb t (pf_b z.1) (pf_b z.2.1) (pf_zL z) := ⟨hx.1, fun f hf => ⟨(hx.2.2 f hf).1, (hx.2.2 f hf).2.1⟩⟩
  have e3 : pf_zL z = pf_lL fb t := funext fun f => propext ⟨hs.2.2.1 f, fun h => h _ _ _ hC⟩
  refine ⟨funext fun v => funext fun f => propext ⟨hs.1 v f, fun h => h _ _ _ hC⟩, funext fun v => funext fun f => propext ⟨hs.2.1 v f, fun h => h _ _ _ hC⟩, e3, funext fun f => propext ⟨hs.2.2.2 f, fun h => ?_⟩⟩
  rcases h with h | ⟨g, h1, h2⟩
  · exact hx.2.1 f h
  · rw [← e3] at h1
    exact (hx.2.2 g h1).2.2 f h2
theorem pm_comes {nf ns : Nat} {fb : Nat → pt_T} {sb : pf_sT} {t : pt_T} {w : fa_W} (hY : pf_Y nf ns fb sb t) (hP : pf_PB nf fb t w) : ∃ (w' : fa_W) (z : pf_s), fm_Mod_comesAll w = some w' ∧ pf_done nf fb sb t z w' ∧ pf_lz fb t z ∧ (∀ i s, 209 ≤ i → i ≤ 212 → s < 101 → ¬ (pf_ss t s ∨ pf_ls nf fb (pf_lL fb t) s) → w' i s = 0) ∧ pf_fz (fun s => s < 101 ∨ (pf_ss t s ∨ pf_ls nf fb (pf_lL fb t) s)) w w' := by
  obtain ⟨FU, hFU⟩ : ∃ F, F = fa_FU := ⟨_, rfl⟩
  have hF2 : 4000 < FU := by rw [hFU]; unfold fa_FU; omega
  obtain ⟨h24, h101, nv, hnv, tt, tf, Wt, St, hF⟩ := id hY
  unfold fm_Mod_comesAll
  rw [← hFU]
  dsimp only [fa_let]
  obtain ⟨w1, a1, a2, a3⟩ := pf_i12 hFU 124 0 FU (fa_st (fa_st w 181 52 0) 181 53 0) (by omega) (by omega)
  obtain ⟨w2, b1, b2, b3⟩ := pf_i33 hFU 24 0 FU w1 (by omega) (by omega)
  obtain ⟨w3, c1, c2, c3⟩ := pf_i54 hFU 101 0 FU w2 (by omega) (by omega)
  have z0 : ((0 : Nat) : Int) = 0 := rfl
  rw [z0] at a1 b1 c1
  rw [a1, b1, c1]
  have fr : ∀ i j, ¬ (i = 207 ∨ i = 208) → ¬ (i = 181 ∧ 52 ≤ j ∧ j ≤ 55) → ¬ (209 ≤ i ∧ i ≤ 212 ∧ j < 101) → fa_st w3 181 55 1 i j = w i j := fun i j p q r => by
    rw [fa_st_ne (by omega), c3 i j (by omega), b3 i j (by omega), a3 i j (by omega), fa_st_ne (by omega), fa_st_ne (by omega)]
  have m0 : pf_mc (fun _ => 0, fun _ => 0, 0, 0) 1 (fa_st w3 181 55 1) := by
    refine ⟨fun v hv => ?_, fun f hf => ?_, ?_, ?_, fa_st_eq _ _ _ _⟩
    · rw [fa_st_ne (by omega), c3 _ _ (by omega), b3 _ _ (by omega), a2 v (by omega) hv]; rfl
    · rw [fa_st_ne (by omega), c3 _ _ (by omega), b2 f (by omega) hf]; rfl
    · rw [fa_st_ne (by omega), c3 _ _ (by omega), b3 _ _ (by omega), a3 _ _ (by omega), fa_st_eq]; rfl
    · rw [fa_st_ne (by omega), c3 _ _ (by omega), b3 _ _ (by omega), a3 _ _ (by omega), fa_st_ne (by omega), fa_st_eq]; rfl
  have s0 : ∀ i s, 209 ≤ i → i ≤ 212 → s < 101 → fa_st w3 181 55 1 i s = 0 := fun i s p q r => by
    rw [fa_st_ne (by omega)]; exact c2 i s p q (by omega) r
  generalize fa_st w3 181 55 1 = w4 at fr m0 s0
  have f4 : pf_fz (fun s => s < 101) w w4 := fr
  have hl := pf_least tt tf
  have nb : ∀ f : Nat, ¬ ((0 : Nat).testBit f = true) := fun f h => by rw [Nat.zero_testBit] at h; cases h
  obtain ⟨w', z, y1, y2, y3, y4⟩ := pf_rounds (H := pf_lH fb t) (R := pf_lR fb t) (L := pf_lL fb t) (M := pf_M fb t) hY hl.1 (fun f h => Or.inl h) (fun f h => ⟨(hl.2 f h).1, (hl.2 f h).2, fun g o => Or.inr ⟨f, h, o⟩⟩) 3602 FU 1 _ w4 (by omega) (fun _ => Nat.le_add_right _ _) (by omega) (pf_PB_fz tt tf f4 hP) m0 ⟨fun _ => Nat.two_pow_pos nf, fun _ => Nat.two_pow_pos nf, Nat.two_pow_pos nf, Nat.two_pow_pos nf⟩ (by omega) (fun h => by omega) ⟨fun v f h => absurd h (nb f), fun v f h => absurd h (nb f), fun f h => absurd h (nb f), fun f h => absurd h (nb f)⟩
  refine ⟨w', z, y1, y2, pf_lz_of y2.2.1 y3, fun i s p q r h => ?_, pf_fz_tr f4 y4 (fun _ h => Or.inl h) (fun _ h => Or.inr h)⟩
  rw [y4 i s (by omega) (by omega) (fun x => h x.2.2)]
  exact s0 i s p q r
theorem pf_Y_of {gs : ps_G} {t : pt_T} {la li si nd : Nat} {fb : Nat → pt_T} {sb : pf_sT} (hV : pn_V gs t la li si nd) (hG : pf_G gs t la li si fb sb) : pf_Y (gs.length + la) si fb sb t := by
  obtain ⟨v1, v2, v3, v4, v5, v6, v7, _⟩ := hV
  obtain ⟨g1, g2, g3, ⟨g4, g5, g6, g7⟩, g8⟩ := hG
  exact ⟨by omega, by omega, 24 + li, by omega, g4, g2, g6, g7, fun f hf => ⟨(g3 f hf).2.1, (g3 f hf).2.2⟩⟩
