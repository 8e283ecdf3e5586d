/-! what is REACHED by CALLS, by the class -/
def pf_ws (cal : Nat → Nat) : Nat → Nat → Nat
  | 0, f => cal f
  | k + 1, f => if (pf_ws cal k f).testBit k = true then pf_ws cal k f ||| pf_ws cal k k else pf_ws cal k f
theorem pf_ws_lt {nf : Nat} {cal : Nat → Nat} (hb : ∀ f, cal f < 2 ^ nf) : ∀ k f, pf_ws cal k f < 2 ^ nf := by
  intro k
  induction k with
  | zero => intro f; exact hb f
  | succ k ih =>
    intro f
    unfold pf_ws
    split
    · exact Nat.or_lt_two_pow (ih f) (ih k)
    · exact ih f
def px_fe (o : Nat) (w w' : fa_W) : Prop := ∀ i j, i ≠ o + 7 → i ≠ o + 8 → w' i j = w i j
theorem px_cc_50 {o oP nf k : Nat} {cal : Nat → Nat} {w0 : fa_W} {K : Int → fa_W → Option fa_W} (ho : px_Fo o) (hd : oP + 26 < o) (h24 : nf ≤ 24) (h14 : w0 oP 14 = (nf : Int)) (hb : ∀ f, cal f < 2 ^ nf) (hk : k < nf) : ∀ (d x F : Nat) (w : fa_W), nf = x + d → d < F → px_fe o w0 w → w (o + 7) 1 = (nf : Int) → (∀ f, f < nf → w (o + 8) f = ((if f < x then pf_ws cal (k + 1) f else pf_ws cal k f : Nat) : Int)) → ∃ w', fm_Flow_closeCalls_l50 o oP K F (k : Int) (x : Int) w = K ((k : Int) + 1) w' ∧ px_fe o w0 w' ∧ w' (o + 7) 1 = (nf : Int) ∧ ∀ f, f < nf → w' (o + 8) f = (pf_ws cal (k + 1) f : Int) := by
  have r3 := ho.1.2.2.2.1
  have s3 := ho.2.1.2.2.2.1
  have m3 := ho.2.2.2.2.2.1
  clear ho
  have hw := pf_ws_lt hb
  intro d
  induction d with
  | zero =>
    intro x F w hx hF hf h7 hc
    obtain ⟨F, rfl⟩ : ∃ G, F = G + 1 := ⟨F - 1, by omega⟩
    refine ⟨w, ?_, hf, h7, fun f hl => ?_⟩
    · unfold fm_Flow_closeCalls_l50
      rw [hf _ _ (by omega) (by omega), h14, pb_wr (by omega), pb_wr (by omega), if_pos (by omega), pf_let_eq]
    · rw [hc f hl, if_pos (by omega)]
  | succ d ih =>
    intro x F w hx hF' hf h7 hc
    obtain ⟨F, rfl⟩ : ∃ G, F = G + 1 := ⟨F - 1, by omega⟩
    have n3 : nf ≤ fa_cp (o + 7) := by rw [m3]; exact h24
    have gx : fr_bits (o + 7) (x : Int) w = ((pf_ws cal k x : Nat) : Int) := by
      rw [pb_bits h7 (by omega) n3, s3, show o + 7 + 1 = o + 8 by omega, hc x (by omega), if_neg (by omega)]
    have nk : pf_ws cal (k + 1) k = pf_ws cal k k := by
      show (if (pf_ws cal k k).testBit k = true then pf_ws cal k k ||| pf_ws cal k k else pf_ws cal k k) = _
      split
      · rw [Nat.or_self]
      · rfl
    have gk : fr_bits (o + 7) (k : Int) w = ((pf_ws cal k k : Nat) : Int) := by
      rw [pb_bits h7 hk n3, s3, show o + 7 + 1 = o + 8 by omega, hc k hk, nk]
      split
      · rfl
      · rfl
    have nx : ((x : Nat) : Int) + 1 = ((x + 1 : Nat) : Int) := by omega
    unfold fm_Flow_closeCalls_l50
    rw [hf _ _ (by omega) (by omega), h14, pb_wr (by omega), pb_wr (by omega), if_neg (by omega), r3, gx, pf_hb (pf_lt24 (pf_two h24 (hw k x))) (by omega)]
    have nextv : pf_ws cal (k + 1) x = if (pf_ws cal k x).testBit k = true then pf_ws cal k x ||| pf_ws cal k k else pf_ws cal k x := rfl
    cases e : (pf_ws cal k x).testBit k with
    | false =>
      rw [if_neg (by decide), pf_let_eq, nx]
      refine ih (x + 1) F w (by omega) (by omega) hf h7 (fun f hl => ?_)
      rw [hc f hl]
      by_cases ef : f = x
      · rw [ef, if_neg (by omega), if_pos (by omega), nextv, if_neg (by rw [e]; decide)]
      · by_cases lf : f < x
        · rw [if_pos lf, if_pos (by omega)]
        · rw [if_neg lf, if_neg (by omega)]
    | true =>
      rw [if_pos rfl, gk, pb_or (pf_lt24 (pf_two h24 (hw k x))) (pf_lt24 (pf_two h24 (hw k k))), pb_set h7 (by omega) n3, s3, show o + 7 + 1 = o + 8 by omega, pf_let_eq, pf_let_eq, nx]
      refine ih (x + 1) F _ (by omega) (by omega) (fun i j p q => (fa_st_ne (by omega)).trans (hf i j p q)) ((fa_st_ne (by omega)).trans h7) (fun f hl => ?_)
      by_cases ef : f = x
      · rw [ef, fa_st_eq, if_pos (by omega), nextv, if_pos e]
      · rw [fa_st_ne (by omega), hc f hl]
        by_cases lf : f < x
        · rw [if_pos lf, if_pos (by omega)]
        · rw [if_neg lf, if_neg (by omega)]
theorem px_cc_40 {o oP nf : Nat} {cal : Nat → Nat} {w0 : fa_W} (ho : px_Fo o) (hd : oP + 26 < o) (h24 : nf ≤ 24) (h14 : w0 oP 14 = (nf : Int)) (hb : ∀ f, cal f < 2 ^ nf) : ∀ (d k F : Nat) (w : fa_W), nf = k + d → d < F → px_fe o w0 w → w (o + 7) 1 = (nf : Int) → (∀ f, f < nf → w (o + 8) f = (pf_ws cal k f : Int)) → ∃ w', fm_Flow_closeCalls_l40 o oP F (k : Int) w = some w' ∧ px_fe o w0 w' ∧ w' (o + 7) 1 = (nf : Int) ∧ ∀ f, f < nf → w' (o + 8) f = (pf_ws cal nf f : Int) := by
  obtain ⟨FU, hFU⟩ : ∃ F, F = fa_FU := ⟨_, rfl⟩
  have hF2 : 1000 < FU := by rw [hFU]; unfold fa_FU; omega
  intro d
  induction d with
  | zero =>
    intro k F w hk hF hf h7 hc
    obtain ⟨F, rfl⟩ : ∃ G, F = G + 1 := ⟨F - 1, by omega⟩
    refine ⟨w, ?_, hf, h7, fun f hl => ?_⟩
    · unfold fm_Flow_closeCalls_l40
      rw [hf _ _ (by omega) (by omega), h14, pb_wr (by omega), pb_wr (by omega), if_pos (by omega)]
    · rw [hc f hl, show nf = k by omega]
  | succ d ih =>
    intro k F w hk hF' hf h7 hc
    obtain ⟨F, rfl⟩ : ∃ G, F = G + 1 := ⟨F - 1, by omega⟩
    unfold fm_Flow_closeCalls_l40
    rw [← hFU, hf _ _ (by omega) (by omega), h14, pb_wr (by omega), pb_wr (by omega), if_neg (by omega)]
    obtain ⟨w1, q1, q2, q3, q4⟩ := px_cc_50 (K := fun x2 w9 => fm_Flow_closeCalls_l40 o oP F x2 w9) ho hd h24 h14 hb (show k < nf by omega) nf 0 FU w (by omega) (by omega) hf h7 (fun f hl => by rw [if_neg (by omega)]; exact hc f hl)
    have z0 : ((0 : Nat) : Int) = 0 := rfl
    rw [z0] at q1
    rw [show ((k : Nat) : Int) + 1 = ((k + 1 : Nat) : Int) by omega] at q1
    obtain ⟨w', y1, y2⟩ := ih (k + 1) F w1 (by omega) (by omega) q2 q3 q4
    exact ⟨w', q1.trans y1, y2⟩
theorem px_cc_9 {o oP nf : Nat} {cal : Nat → Nat} {w0 : fa_W} (ho : px_Fo o) (hd : oP + 26 < o) (h24 : nf ≤ 24) (h14 : w0 oP 14 = (nf : Int)) (hb : ∀ f, cal f < 2 ^ nf) (h5 : w0 (o + 5) 1 = (nf : Int)) (h6 : ∀ f, f < nf → w0 (o + 6) f = (cal f : Int)) : ∀ (d k F : Nat) (w : fa_W), nf = k + d → d < F → px_fe o w0 w → w (o + 7) 1 = (k : Int) → (∀ f, f < k → w (o + 8) f = (cal f : Int)) → ∃ w', fm_Flow_closeCalls_l9 o oP F (k : Int) w = some w' ∧ px_fe o w0 w' ∧ w' (o + 7) 1 = (nf : Int) ∧ ∀ f, f < nf → w' (o + 8) f = (pf_ws cal nf f : Int) := by
  obtain ⟨FU, hFU⟩ : ∃ F, F = fa_FU := ⟨_, rfl⟩
  have hF2 : 1000 < FU := by rw [hFU]; unfold fa_FU; omega
  have r2 := ho.1.2.2.1
  have s2 := ho.2.1.2.2.1
  have m2 := ho.2.2.2.2.1
  have r3 := ho.1.2.2.2.1
  have s3 := ho.2.1.2.2.2.1
  have m3 := ho.2.2.2.2.2.1
  intro d
  induction d with
  | zero =>
    intro k F w hk hF hf h7 hc
    obtain ⟨F, rfl⟩ : ∃ G, F = G + 1 := ⟨F - 1, by omega⟩
    have ek : k = nf := by omega
    rw [ek] at h7 hc
    unfold fm_Flow_closeCalls_l9
    rw [← hFU, hf _ _ (by omega) (by omega), h14, pb_wr (by omega), pb_wr (by omega), if_pos (by omega)]
    exact px_cc_40 ho hd h24 h14 hb nf 0 FU w (by omega) (by omega) hf h7 hc
  | succ d ih =>
    intro k F w hk hF' hf h7 hc
    obtain ⟨F, rfl⟩ : ∃ G, F = G + 1 := ⟨F - 1, by omega⟩
    have ad := px_ad1 (v := ((cal k : Nat) : Int)) s3 h7 (by rw [m3]; omega)
    unfold fm_Flow_closeCalls_l9
    rw [hf _ _ (by omega) (by omega), h14, pb_wr (by omega), pb_wr (by omega), if_neg (by omega), r3, r2, pb_bits ((hf _ _ (by omega) (by omega)).trans h5) (show k < nf by omega) (by rw [m2]; exact h24), s2, show o + 5 + 1 = o + 6 by omega, hf _ _ (by omega) (by omega), h6 k (by omega), pf_let_eq, pf_let_eq, show ((k : Nat) : Int) + 1 = ((k + 1 : Nat) : Int) by omega]
    generalize fr_add (o + 7) ((cal k : Nat) : Int) w = w1 at ad ⊢
    obtain ⟨a1, a2, a3⟩ := ad
    exact ih (k + 1) F w1 (by omega) (by omega) (fun i j p q => (a3 i j (by omega) (by omega)).trans (hf i j p q)) a1 (fun f hl => by
      by_cases ef : f = k
      · rw [ef]; exact a2
      · rw [a3 _ _ (by omega) (by omega)]; exact hc f (by omega))
theorem px_closeCalls {o oP nf : Nat} {cal : Nat → Nat} {w : fa_W} (ho : px_Fo o) (hd : oP + 26 < o) (h24 : nf ≤ 24) (h14 : w oP 14 = (nf : Int)) (hb : ∀ f, cal f < 2 ^ nf) (h5 : w (o + 5) 1 = (nf : Int)) (h6 : ∀ f, f < nf → w (o + 6) f = (cal f : Int)) : ∃ w', fm_Flow_closeCalls o oP w = some w' ∧ px_fe o w w' ∧ w' (o + 7) 1 = (nf : Int) ∧ ∀ f, f < nf → w' (o + 8) f = (pf_ws cal nf f : Int) := by
  obtain ⟨FU, hFU⟩ : ∃ F, F = fa_FU := ⟨_, rfl⟩
  have hF2 : 1000 < FU := by rw [hFU]; unfold fa_FU; omega
  unfold fm_Flow_closeCalls fm_Row_clear
  rw [← hFU, ho.1.2.2.2.1, pf_let_eq, pf_let_eq]
  exact px_cc_9 ho hd h24 h14 hb h5 h6 nf 0 FU _ (by omega) (by omega) (fun i j p q => fa_st_ne (by omega)) (fa_st_eq _ _ _ _) (fun f hf => by omega)
