/-! what is REACHED by CALLS, by the reference -/
def pm_fe (w w' : fa_W) : Prop := ∀ i j, i ≠ 218 → w' i j = w i j
theorem pm_cc_115 {nf k : Nat} {cal : Nat → Nat} {w0 : fa_W} {K : Int → fa_W → Option fa_W} (h24 : nf ≤ 24) (h17 : w0 181 17 + w0 181 18 = (nf : Int)) (hb : ∀ f, cal f < 2 ^ nf) (hk : k < nf) : ∀ (d x F : Nat) (w : fa_W), nf = x + d → d < F → pm_fe w0 w → (∀ f, f < nf → w 218 f = ((if f < x then pf_ws cal (k + 1) f else pf_ws cal k f : Nat) : Int)) → ∃ w', fm_Mod_laysRings_l115 K F (k : Int) (x : Int) w = K ((k : Int) + 1) w' ∧ pm_fe w0 w' ∧ ∀ f, f < nf → w' 218 f = (pf_ws cal (k + 1) f : Int) := by
  have hw := pf_ws_lt hb
  intro d
  induction d with
  | zero =>
    intro x F w hx hF hf hc
    obtain ⟨F, rfl⟩ : ∃ G, F = G + 1 := ⟨F - 1, by omega⟩
    refine ⟨w, ?_, hf, fun f hl => ?_⟩
    · unfold fm_Mod_laysRings_l115 fm_Mod_functions
      rw [hf _ _ (by omega), hf _ _ (by omega), h17, pb_wr (by omega), pb_wr (by omega), if_pos (by omega), pf_let_eq]
    · rw [hc f hl, if_pos (by omega)]
  | succ d ih =>
    intro x F w hx hF' hf hc
    obtain ⟨F, rfl⟩ : ∃ G, F = G + 1 := ⟨F - 1, by omega⟩
    have nk : pf_ws cal (k + 1) k = pf_ws cal k k := by
      show (if (pf_ws cal k k).testBit k = true then pf_ws cal k k ||| pf_ws cal k k else pf_ws cal k k) = _
      split
      · rw [Nat.or_self]
      · rfl
    have gx : w 218 x = ((pf_ws cal k x : Nat) : Int) := by rw [hc x (by omega), if_neg (by omega)]
    have gk : w 218 k = ((pf_ws cal k k : Nat) : Int) := by
      rw [hc k hk, nk]
      split
      · rfl
      · rfl
    have nx : ((x : Nat) : Int) + 1 = ((x + 1 : Nat) : Int) := by omega
    have ix : fa_ix (x : Int) 24 = some x := pb_ix (by omega) (by omega)
    have ik : fa_ix (k : Int) 24 = some k := pb_ix (by omega) (by omega)
    unfold fm_Mod_laysRings_l115 fm_Mod_functions
    rw [hf _ _ (by omega), hf _ _ (by omega), h17, pb_wr (by omega), pb_wr (by omega), if_neg (by omega), ix, Option.bind_some, gx, pf_hd (pf_lt24 (pf_two h24 (hw k x))) (by omega)]
    have nextv : pf_ws cal (k + 1) x = if (pf_ws cal k x).testBit k = true then pf_ws cal k x ||| pf_ws cal k k else pf_ws cal k x := rfl
    cases e : (pf_ws cal k x).testBit k with
    | false =>
      rw [if_neg (by decide), pf_let_eq, nx]
      refine ih (x + 1) F w (by omega) (by omega) hf (fun f hl => ?_)
      rw [hc f hl]
      by_cases ef : f = x
      · rw [ef, if_neg (by omega), if_pos (by omega), nextv, if_neg (by rw [e]; decide)]
      · by_cases lf : f < x
        · rw [if_pos lf, if_pos (by omega)]
        · rw [if_neg lf, if_neg (by omega)]
    | true =>
      rw [if_pos rfl, Option.bind_some, ik, Option.bind_some, Option.bind_some, gk, gx, pb_or (pf_lt24 (pf_two h24 (hw k x))) (pf_lt24 (pf_two h24 (hw k k))), pf_let_eq, pf_let_eq, nx]
      refine ih (x + 1) F _ (by omega) (by omega) (fun i j p => (fa_st_ne (by omega)).trans (hf i j p)) (fun f hl => ?_)
      by_cases ef : f = x
      · rw [ef, fa_st_eq, if_pos (by omega), nextv, if_pos e]
      · rw [fa_st_ne (by omega), hc f hl]
        by_cases lf : f < x
        · rw [if_pos lf, if_pos (by omega)]
        · rw [if_neg lf, if_neg (by omega)]
theorem pm_cc_105 {nf : Nat} {cal : Nat → Nat} {w0 : fa_W} {FU : Nat} (hFU : FU = fa_FU) (h24 : nf ≤ 24) (h17 : w0 181 17 + w0 181 18 = (nf : Int)) (hb : ∀ f, cal f < 2 ^ nf) : ∀ (d k F : Nat) (w : fa_W), nf = k + d → d < F → pm_fe w0 w → (∀ f, f < nf → w 218 f = (pf_ws cal k f : Int)) → ∃ w', fm_Mod_laysRings_l105 F (k : Int) w = fm_Mod_laysRings_l170 FU 0 (fa_st w' 181 64 0) ∧ pm_fe w0 w' ∧ ∀ f, f < nf → w' 218 f = (pf_ws cal nf f : Int) := by
  have hF2 : 1000 < FU := by rw [hFU]; unfold fa_FU; omega
  intro d
  induction d with
  | zero =>
    intro k F w hk hF hf hc
    obtain ⟨F, rfl⟩ : ∃ G, F = G + 1 := ⟨F - 1, by omega⟩
    refine ⟨w, ?_, hf, fun f hl => ?_⟩
    · unfold fm_Mod_laysRings_l105 fm_Mod_functions
      rw [← hFU, hf _ _ (by omega), hf _ _ (by omega), h17, pb_wr (by omega), pb_wr (by omega), if_pos (by omega), pf_let_eq]
    · rw [hc f hl, show nf = k by omega]
  | succ d ih =>
    intro k F w hk hF' hf hc
    obtain ⟨F, rfl⟩ : ∃ G, F = G + 1 := ⟨F - 1, by omega⟩
    unfold fm_Mod_laysRings_l105 fm_Mod_functions
    rw [← hFU, hf _ _ (by omega), hf _ _ (by omega), h17, pb_wr (by omega), pb_wr (by omega), if_neg (by omega)]
    obtain ⟨w1, q1, q2, q4⟩ := pm_cc_115 (K := fun x1 w9 => fm_Mod_laysRings_l105 F x1 w9) h24 h17 hb (show k < nf by omega) nf 0 FU w (by omega) (by omega) hf (fun f hl => by rw [if_neg (by omega)]; exact hc f hl)
    have z0 : ((0 : Nat) : Int) = 0 := rfl
    rw [z0] at q1
    rw [show ((k : Nat) : Int) + 1 = ((k + 1 : Nat) : Int) by omega] at q1
    obtain ⟨w', y1, y2⟩ := ih (k + 1) F w1 (by omega) (by omega) q2 q4
    exact ⟨w', q1.trans y1, y2⟩
