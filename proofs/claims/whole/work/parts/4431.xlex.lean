/-! PHASE B. The class's reader: its words -/
def px_tx (c : Nat → Int) (n : Nat) (w : fa_W) : Prop := ps_TX c n ∧ n ≤ 400 ∧ w 1 1 = (n : Int) ∧ ∀ k, k < n → w 2 k = c k
theorem px_tx_of {c : Nat → Int} {n : Nat} {w w' : fa_W} (h : px_tx c n w) (h1 : w' 1 1 = w 1 1) (h2 : ∀ k, w' 2 k = w 2 k) : px_tx c n w' := ⟨h.1, h.2.1, by rw [h1]; exact h.2.2.1, fun k hk => by rw [h2]; exact h.2.2.2 k hk⟩
theorem px_ch {c : Nat → Int} {n : Nat} {w : fa_W} (h : px_tx c n w) {p : Nat} (hp : p < 1000000) : fr_at 1 (p : Int) w = c p := by
  have hn := h.2.1
  by_cases q : p < n
  · rw [pb_at h.2.2.1 q (by show n ≤ 400; exact hn)]
    exact h.2.2.2 p q
  · rw [pb_at_out h.2.2.1 (by omega) (by omega), h.1.1 p (by omega)]
theorem px_c_rng {c : Nat → Int} {n : Nat} (h : ps_TX c n) (p : Nat) : -1 ≤ c p ∧ c p < 256 := by
  by_cases q : p < n
  · have := h.2 p q; omega
  · rw [h.1 p (by omega)]; omega
theorem px_isBlank {x : Int} (h : -1 ≤ x ∧ x < 256) (w : fa_W) : fm_Reader_isBlank x w = ps_bl x := by
  unfold fm_Reader_isBlank ps_bl
  rw [fa_wr_id (by omega) (by omega)]
  split
  · exact (decide_eq_true (by omega)).symm
  · split
    · exact (decide_eq_true (by omega)).symm
    · split
      · exact (decide_eq_true (by omega)).symm
      · exact (decide_eq_false (by omega)).symm
theorem px_isLetter {x : Int} (h : -1 ≤ x ∧ x < 256) (w : fa_W) : fm_Reader_isLetter x w = ps_le x := by
  unfold fm_Reader_isLetter ps_le
  rw [fa_wr_id (by omega) (by omega)]
  split
  · exact (decide_eq_false (by omega)).symm
  · split
    · exact (decide_eq_false (by omega)).symm
    · exact (decide_eq_true (by omega)).symm
theorem px_isDigit {x : Int} (h : -1 ≤ x ∧ x < 256) (w : fa_W) : fm_Reader_isDigit x w = ps_di x := by
  unfold fm_Reader_isDigit ps_di
  rw [fa_wr_id (by omega) (by omega)]
  split
  · exact (decide_eq_false (by omega)).symm
  · split
    · exact (decide_eq_false (by omega)).symm
    · exact (decide_eq_true (by omega)).symm
theorem px_isKeyword {v : Nat} (h : v < 2147483648) (w : fa_W) : fm_Reader_isKeyword (v : Int) w = ps_kw v := by
  unfold fm_Reader_isKeyword ps_kw
  rw [pb_wr h]
  split
  · exact (decide_eq_true (by omega)).symm
  · split
    · exact (decide_eq_true (by omega)).symm
    · split
      · exact (decide_eq_true (by omega)).symm
      · split
        · exact (decide_eq_true (by omega)).symm
        · split
          · exact (decide_eq_true (by omega)).symm
          · split
            · exact (decide_eq_true (by omega)).symm
            · split
              · exact (decide_eq_true (by omega)).symm
              · exact (decide_eq_false (by omega)).symm
theorem px_signAt {x : Int} (h : -1 ≤ x ∧ x < 256) (w : fa_W) : fm_Reader_signAt x w = ((ps_sg x : Nat) : Int) := by
  unfold fm_Reader_signAt ps_sg
  rw [fa_wr_id (by omega) (by omega)]
  by_cases h1 : x = -1
  · rw [if_pos h1, if_neg (by omega), if_pos h1]; rfl
  · rw [if_neg h1]
    by_cases h2 : x = 40 ∨ x = 41 ∨ x = 42 ∨ x = 43 ∨ x = 45 ∨ x = 46 ∨ x = 47 ∨ x = 59 ∨ x = 60 ∨ x = 61 ∨ x = 92
    · rw [if_pos h2]
      have e : ((x.toNat : Nat) : Int) = x := by omega
      rw [e]
      rcases h2 with h | h | h | h | h | h | h | h | h | h | h <;> rw [h] <;> rfl
    · rw [if_neg h2, if_neg h1]
      repeat rw [if_neg (by omega)]
      rfl
theorem px_shift {a b : Nat} (ha : a < 8388608) (hb : b < 256) : fa_ior (fa_ishl (a : Int) 8) (b : Int) = ((256 * a + b : Nat) : Int) := by
  have hs : a <<< 8 = 256 * a := by rw [Nat.shiftLeft_eq]; omega
  have e := pb_shl (a := a) (k := 8) (by omega) (by rw [hs]; omega) (by decide)
  rw [show (8 : Int) = ((8 : Nat) : Int) from rfl, e, pb_or (by rw [hs]; omega) (by omega)]
  rw [← Nat.shiftLeft_add_eq_or_of_lt (show b < 2 ^ 8 by omega) a, hs]
/-- the word that is ahead stands in the reader -/
def px_tok (c : Nat → Int) (n s : Nat) (w : fa_W) : Prop := w 7 3 = ((ps_te c n s : Nat) : Int) ∧ w 7 4 = ((ps_tk c n s : Nat) : Int) ∧ w 7 5 = (s : Int) ∧ (ps_tk c n s = 1 ∨ ps_tk c n s = 2 → w 7 6 = ((ps_tv c n s : Nat) : Int))
def px_k (w w' : fa_W) : Prop := ∀ o k, ¬ (o = 7 ∧ 3 ≤ k ∧ k ≤ 6) → w' o k = w o k
theorem px_k_st {w w1 : fa_W} {k : Nat} {v : Int} (h : px_k w w1) (hk : 3 ≤ k ∧ k ≤ 6) : px_k w (fa_st w1 7 k v) := fun o j q => (fa_st_ne (by omega)).trans (h o j q)
theorem px_k_tx {c : Nat → Int} {n : Nat} {w w' : fa_W} (h : px_k w w') (ht : px_tx c n w) : px_tx c n w' := px_tx_of ht (h 1 1 (by omega)) (fun k => h 2 k (by omega))
theorem ps_wv_lt {c : Nat → Int} {s k : Nat} (hk : k ≤ 3) (hl : ∀ j, s ≤ j → j < s + k → 97 ≤ c j ∧ c j ≤ 122) : ps_wv c s k < 8388608 := by
  have c0 := hl s
  have c1 := hl (s + 1)
  have c2 := hl (s + 2)
  match k, hk with
  | 0, _ => show 0 < 8388608; decide
  | 1, _ =>
    have e : ps_wv c s 1 = 256 * 0 + (c (s + 0)).toNat := rfl
    rw [Nat.add_zero] at e
    omega
  | 2, _ =>
    have e : ps_wv c s 2 = 256 * (256 * 0 + (c (s + 0)).toNat) + (c (s + 1)).toNat := rfl
    rw [Nat.add_zero] at e
    omega
  | 3, _ =>
    have e : ps_wv c s 3 = 256 * (256 * (256 * 0 + (c (s + 0)).toNat) + (c (s + 1)).toNat) + (c (s + 2)).toNat := rfl
    rw [Nat.add_zero] at e
    omega
/-- the end of the word, number or sign -/
theorem px_j238 {c : Nat → Int} {n s : Nat} {w : fa_W} (ht : px_tx c n w) (hs : s ≤ n) (h5 : w 7 5 = (s : Int)) (p : Nat) (h3 : w 7 3 = (p : Int)) (hp : p ≤ n) (hsp : s ≤ p) (h0 : p = s → ps_le (c s) = false ∧ ps_di (c s) = false) (h1 : p ≠ s → ps_te c n s = p ∧ (p - s ≤ 4 → w 7 4 = ((ps_tk c n s : Nat) : Int) ∧ (ps_tk c n s = 1 ∨ ps_tk c n s = 2 → w 7 6 = ((ps_tv c n s : Nat) : Int))) ∧ (4 < p - s → ps_tk c n s = 3)) : pb_ok (fm_Reader_advance_j238 w) (fun w' => px_tok c n s w' ∧ px_k w w') := by
  have hn := ht.2.1
  unfold fm_Reader_advance_j238
  rw [h3, h5, pb_wr (by omega), pb_wr (by omega)]
  by_cases e : p = s
  · obtain ⟨e1, e2⟩ := h0 e
    rw [if_pos (by omega), px_ch ht (by omega), px_signAt (px_c_rng ht.1 p)]
    dsimp only [fa_let]
    have tk : ps_tk c n s = ps_sg (c s) := by
      unfold ps_tk
      rw [e1, e2]
      rfl
    have te : ps_te c n s = s + 1 := by
      unfold ps_te
      rw [e1, e2]
      rfl
    have sg : ps_sg (c s) ≠ 1 ∧ ps_sg (c s) ≠ 2 := by
      unfold ps_sg
      split
      · omega
      · split <;> omega
    refine pb_some ⟨⟨?_, ?_, ?_, fun q => by omega⟩, px_k_st (px_k_st (fun _ _ _ => rfl) (by omega)) (by omega)⟩
    · rw [fa_st_eq, fa_st_ne (by decide), h3, te, e]; rfl
    · rw [fa_st_ne (by decide), fa_st_eq, tk, e]
    · rw [fa_st_ne (by decide), fa_st_ne (by decide)]; exact h5
  · obtain ⟨e1, e2, e3⟩ := h1 e
    rw [if_neg (by omega)]
    have ed : (p : Int) - (s : Int) = ((p - s : Nat) : Int) := by omega
    rw [ed, pb_wr (by omega)]
    by_cases h4 : p - s ≤ 4
    · rw [if_pos (by omega)]
      exact pb_some ⟨⟨by rw [h3, e1], (e2 h4).1, h5, (e2 h4).2⟩, fun _ _ _ => rfl⟩
    · rw [if_neg (by omega)]
      dsimp only [fa_let]
      have tk := e3 (by omega)
      refine pb_some ⟨⟨?_, ?_, ?_, fun q => by omega⟩, px_k_st (fun _ _ _ => rfl) (by omega)⟩
      · rw [fa_st_ne (by decide), h3, e1]
      · rw [fa_st_eq, tk]; rfl
      · rw [fa_st_ne (by decide)]; exact h5
theorem px_digits {c : Nat → Int} {n s : Nat} (hs : s ≤ n) (hnl : ps_le (c s) = false) : ∀ (d j F : Nat) (w : fa_W), px_tx c n w → s + j + d = ps_de c n s → d < F → w 7 3 = ((s + j : Nat) : Int) → w 7 5 = (s : Int) → (j ≤ 4 → w 7 6 = ((ps_dv c s j : Nat) : Int)) → pb_ok (fm_Reader_advance_l167 F (j : Int) w) (fun w' => px_tok c n s w' ∧ px_k w w') := by
  intro d
  induction d with
  | zero =>
    intro j F w ht hd hF h3 h5 h6
    obtain ⟨F, rfl⟩ : ∃ z, F = z + 1 := ⟨F - 1, by omega⟩
    have hn := ht.2.1
    have q := ps_de_p ht.1 s hs
    have ej : s + j = ps_de c n s := by omega
    have fin : pb_ok (fm_Reader_advance_j233 w) (fun w' => px_tok c n s w' ∧ px_k w w') := by
      unfold fm_Reader_advance_j233
      dsimp only [fa_let]
      have k1 : px_k w (fa_st w 7 4 1) := px_k_st (fun _ _ _ => rfl) (by omega)
      refine pb_mono (px_j238 (px_k_tx k1 ht) hs (by rw [fa_st_ne (by decide)]; exact h5) (s + j) (by rw [fa_st_ne (by decide)]; exact h3) (by omega) (by omega) (fun e => ⟨hnl, ?_⟩) (fun e => ?_)) (fun w' g => ⟨g.1, fun o k r => (g.2 o k r).trans (k1 o k r)⟩)
      · have := q.2.2.1
        rw [← ej, e] at this
        exact this
      · have hdi : ps_di (c s) = true := q.2.2.2 s (Nat.le_refl _) (by omega)
        have te : ps_te c n s = ps_de c n s := by
          unfold ps_te
          rw [hnl, hdi]
          rfl
        have tk : ps_tk c n s = if 4 < ps_de c n s - s then 3 else 1 := by
          unfold ps_tk
          rw [hnl, hdi]
          rfl
        have tv : ps_tv c n s = ps_dv c s (ps_de c n s - s) := by
          unfold ps_tv
          rw [hnl]
          rfl
        refine ⟨by rw [te, ej], fun h4 => ?_, fun h4 => by rw [tk, if_pos (by omega)]⟩
        rw [tk, if_neg (by omega), tv]
        refine ⟨fa_st_eq _ _ _ _, fun _ => ?_⟩
        rw [fa_st_ne (by decide), h6 (by omega), show ps_de c n s - s = j by omega]
    unfold fm_Reader_advance_l167
    rw [h3, px_ch ht (by omega), px_isDigit (px_c_rng ht.1 _), pb_wr (by omega)]
    split
    · exact fin
    · rw [if_neg (by rw [ej, q.2.2.1]; decide)]
      exact fin
  | succ d ih =>
    intro j F w ht hd hF h3 h5 h6
    obtain ⟨F, rfl⟩ : ∃ z, F = z + 1 := ⟨F - 1, by omega⟩
    have hn := ht.2.1
    have q := ps_de_p ht.1 s hs
    have hc := ps_di_in (q.2.2.2 (s + j) (by omega) (by omega))
    unfold fm_Reader_advance_l167
    rw [h3, px_ch ht (by omega), px_isDigit (px_c_rng ht.1 _), pb_wr (by omega), if_neg (by omega), if_pos (q.2.2.2 (s + j) (by omega) (by omega))]
    dsimp only [fa_let]
    have e3 : fa_st w 7 6 (w 7 6 * 10 + (c (s + j) - 48)) 7 3 + 1 = ((s + (j + 1) : Nat) : Int) := by
      rw [fa_st_ne (by decide), h3]; omega
    rw [e3, show (j : Int) + 1 = ((j + 1 : Nat) : Int) from rfl]
    have k1 : px_k w (fa_st (fa_st w 7 6 (w 7 6 * 10 + (c (s + j) - 48))) 7 3 ((s + (j + 1) : Nat) : Int)) := px_k_st (px_k_st (fun _ _ _ => rfl) (by omega)) (by omega)
    refine pb_mono (ih (j + 1) F _ (px_k_tx k1 ht) (by omega) (by omega) (fa_st_eq _ _ _ _) (by rw [fa_st_ne (by decide), fa_st_ne (by decide)]; exact h5) (fun h4 => ?_)) (fun w' g => ⟨g.1, fun o k r => (g.2 o k r).trans (k1 o k r)⟩)
    rw [fa_st_ne (by decide), fa_st_eq, h6 (by omega)]
    show _ = ((10 * ps_dv c s j + ((c (s + j)).toNat - 48) : Nat) : Int)
    omega
theorem px_letters {c : Nat → Int} {n s : Nat} (hs : s ≤ n) : ∀ (d j F : Nat) (w : fa_W), px_tx c n w → s + j + d = ps_we c n s → d < F → w 7 3 = ((s + j : Nat) : Int) → w 7 5 = (s : Int) → (j ≤ 4 → w 7 6 = ((ps_wv c s j : Nat) : Int)) → pb_ok (fm_Reader_advance_l66 F (j : Int) w) (fun w' => px_tok c n s w' ∧ px_k w w') := by
  intro d
  induction d with
  | zero =>
    intro j F w ht hd hF h3 h5 h6
    obtain ⟨F, rfl⟩ : ∃ z, F = z + 1 := ⟨F - 1, by omega⟩
    have hn := ht.2.1
    have q := ps_we_p ht.1 s hs
    have ej : s + j = ps_we c n s := by omega
    have hl : ∀ k, s ≤ k → k < s + j → 97 ≤ c k ∧ c k ≤ 122 := fun k h1 h2 => ps_le_in (q.2.2.2 k h1 (by omega))
    have fin : pb_ok (fm_Reader_advance_j129 w) (fun w' => px_tok c n s w' ∧ px_k w w') := by
      unfold fm_Reader_advance_j129
      rw [h3, h5, pb_wr (by omega), pb_wr (by omega)]
      by_cases j0 : j = 0
      · rw [if_pos (by omega)]
        have hnl : ps_le (c s) = false := by
          have := q.2.2.1
          rw [← ej, j0] at this
          exact this
        have dq := ps_de_p ht.1 s hs
        exact px_digits hs hnl (ps_de c n s - s) 0 fa_FU w ht (by omega) (by unfold fa_FU; omega) (by rw [h3, j0]) h5 (fun _ => by rw [h6 (by omega), j0]; rfl)
      · rw [if_neg (by omega)]
        have hle : ps_le (c s) = true := q.2.2.2 s (Nat.le_refl _) (by omega)
        have te : ps_te c n s = ps_we c n s := by
          unfold ps_te
          rw [if_pos hle]
        have tk : ps_tk c n s = if 4 < ps_we c n s - s then 3 else if ps_kw (ps_wv c s (ps_we c n s - s)) = true then ps_wv c s (ps_we c n s - s) else 2 := by
          unfold ps_tk
          rw [if_pos hle]
        have tv : ps_tv c n s = ps_wv c s (ps_we c n s - s) := by
          unfold ps_tv
          rw [if_pos hle]
        have go : ∀ (v : Int), (j ≤ 4 → v = ((ps_tk c n s : Nat) : Int)) → pb_ok (fm_Reader_advance_j159 v w) (fun w' => px_tok c n s w' ∧ px_k w w') := by
          intro v hv
          unfold fm_Reader_advance_j159
          dsimp only [fa_let]
          have k1 : px_k w (fa_st w 7 4 v) := px_k_st (fun _ _ _ => rfl) (by omega)
          refine pb_mono (px_j238 (px_k_tx k1 ht) hs (by rw [fa_st_ne (by decide)]; exact h5) (s + j) (by rw [fa_st_ne (by decide)]; exact h3) (by omega) (by omega) (fun e => by omega) (fun e => ?_)) (fun w' g => ⟨g.1, fun o k r => (g.2 o k r).trans (k1 o k r)⟩)
          refine ⟨by rw [te, ej], fun h4 => ⟨?_, fun _ => ?_⟩, fun h4 => by rw [tk, if_pos (by omega)]⟩
          · rw [fa_st_eq]; exact hv (by omega)
          · rw [fa_st_ne (by decide), h6 (by omega), tv, show ps_we c n s - s = j by omega]
        by_cases h4 : j ≤ 4
        · have wl := ps_wv_len (c := c) (s := s) (k := j) h4 hl
          rw [h6 h4, px_isKeyword (by omega)]
          rw [show ps_we c n s - s = j by omega, if_neg (by omega)] at tk
          by_cases hk : ps_kw (ps_wv c s j) = true
          · rw [if_pos hk]
            rw [if_pos hk] at tk
            exact go _ (fun _ => by rw [tk])
          · rw [if_neg hk]
            rw [if_neg hk] at tk
            exact go _ (fun _ => by rw [tk]; rfl)
        · split
          · exact go _ (fun h => absurd h h4)
          · exact go _ (fun h => absurd h h4)
    unfold fm_Reader_advance_l66
    rw [h3, px_ch ht (by omega), px_isLetter (px_c_rng ht.1 _), pb_wr (by omega)]
    split
    · exact fin
    · rw [if_neg (by rw [ej, q.2.2.1]; decide)]
      exact fin
  | succ d ih =>
    intro j F w ht hd hF h3 h5 h6
    obtain ⟨F, rfl⟩ : ∃ z, F = z + 1 := ⟨F - 1, by omega⟩
    have hn := ht.2.1
    have q := ps_we_p ht.1 s hs
    have hc := ps_le_in (q.2.2.2 (s + j) (by omega) (by omega))
    have hl : ∀ k, s ≤ k → k < s + j → 97 ≤ c k ∧ c k ≤ 122 := fun k h1 h2 => ps_le_in (q.2.2.2 k h1 (by omega))
    unfold fm_Reader_advance_l66
    rw [h3, px_ch ht (by omega), px_isLetter (px_c_rng ht.1 _), pb_wr (by omega), if_neg (by omega), if_pos (q.2.2.2 (s + j) (by omega) (by omega))]
    dsimp only [fa_let]
    generalize hv : fa_ior (fa_ishl (w 7 6) 8) (c (s + j)) = v
    have e3 : fa_st w 7 6 v 7 3 + 1 = ((s + (j + 1) : Nat) : Int) := by
      rw [fa_st_ne (by decide), h3]; omega
    rw [e3, show (j : Int) + 1 = ((j + 1 : Nat) : Int) from rfl]
    have k1 : px_k w (fa_st (fa_st w 7 6 v) 7 3 ((s + (j + 1) : Nat) : Int)) := px_k_st (px_k_st (fun _ _ _ => rfl) (by omega)) (by omega)
    refine pb_mono (ih (j + 1) F _ (px_k_tx k1 ht) (by omega) (by omega) (fa_st_eq _ _ _ _) (by rw [fa_st_ne (by decide), fa_st_ne (by decide)]; exact h5) (fun h4 => ?_)) (fun w' g => ⟨g.1, fun o k r => (g.2 o k r).trans (k1 o k r)⟩)
    rw [fa_st_ne (by decide), fa_st_eq, ← hv, h6 (by omega)]
    have ec : c (s + j) = (((c (s + j)).toNat : Nat) : Int) := by omega
    rw [ec, px_shift (ps_wv_lt (by omega) hl) (by omega)]
    rfl
theorem px_blanks {c : Nat → Int} {n p : Nat} (hp : p ≤ n) : ∀ (d j F : Nat) (w : fa_W), px_tx c n w → p + j + d = ps_sk c n p → d < F → w 7 3 = ((p + j : Nat) : Int) → pb_ok (fm_Reader_advance_l11 F (j : Int) w) (fun w' => px_tok c n (ps_sk c n p) w' ∧ px_k w w') := by
  intro d
  induction d with
  | zero =>
    intro j F w ht hd hF h3
    obtain ⟨F, rfl⟩ : ∃ z, F = z + 1 := ⟨F - 1, by omega⟩
    have hn := ht.2.1
    have q := ps_sk_p ht.1 p hp
    have ej : p + j = ps_sk c n p := by omega
    have fin : pb_ok (fm_Reader_advance_j51 w) (fun w' => px_tok c n (ps_sk c n p) w' ∧ px_k w w') := by
      unfold fm_Reader_advance_j51
      dsimp only [fa_let]
      rw [h3, ej]
      have k1 : px_k w (fa_st (fa_st w 7 5 ((ps_sk c n p : Nat) : Int)) 7 6 0) := px_k_st (px_k_st (fun _ _ _ => rfl) (by omega)) (by omega)
      have wq := ps_we_p ht.1 (ps_sk c n p) q.2.1
      refine pb_mono (px_letters q.2.1 (ps_we c n (ps_sk c n p) - ps_sk c n p) 0 fa_FU _ (px_k_tx k1 ht) (by omega) (by unfold fa_FU; omega) ?_ ?_ (fun _ => ?_)) (fun w' g => ⟨g.1, fun o k r => (g.2 o k r).trans (k1 o k r)⟩)
      · rw [fa_st_ne (by decide), fa_st_ne (by decide), h3, ej]; rfl
      · rw [fa_st_ne (by decide), fa_st_eq]
      · rw [fa_st_eq]; rfl
    unfold fm_Reader_advance_l11
    rw [h3, px_ch ht (by omega), px_isBlank (px_c_rng ht.1 _), pb_wr (by omega)]
    split
    · exact fin
    · rw [if_neg (by rw [ej, q.2.2.1]; decide)]
      exact fin
  | succ d ih =>
    intro j F w ht hd hF h3
    obtain ⟨F, rfl⟩ : ∃ z, F = z + 1 := ⟨F - 1, by omega⟩
    have hn := ht.2.1
    have q := ps_sk_p ht.1 p hp
    unfold fm_Reader_advance_l11
    rw [h3, px_ch ht (by omega), px_isBlank (px_c_rng ht.1 _), pb_wr (by omega), if_neg (by omega), if_pos (q.2.2.2 (p + j) (by omega) (by omega))]
    dsimp only [fa_let]
    rw [show ((p + j : Nat) : Int) + 1 = ((p + (j + 1) : Nat) : Int) by omega, show (j : Int) + 1 = ((j + 1 : Nat) : Int) from rfl]
    have k1 : px_k w (fa_st w 7 3 ((p + (j + 1) : Nat) : Int)) := px_k_st (fun _ _ _ => rfl) (by omega)
    exact pb_mono (ih (j + 1) F _ (px_k_tx k1 ht) (by omega) (by omega) (fa_st_eq _ _ _ _)) (fun w' g => ⟨g.1, fun o k r => (g.2 o k r).trans (k1 o k r)⟩)
theorem px_advance {c : Nat → Int} {n p : Nat} {w : fa_W} (ht : px_tx c n w) (hf : w 7 7 = -1) (h3 : w 7 3 = (p : Int)) (hp : p ≤ n) : pb_ok (fm_Reader_advance w) (fun w' => px_tok c n (ps_sk c n p) w' ∧ px_k w w') := by
  have q := ps_sk_p ht.1 p hp
  have hn := ht.2.1
  unfold fm_Reader_advance
  rw [hf, pb_wr1, if_pos rfl]
  exact px_blanks hp (ps_sk c n p - p) 0 fa_FU w ht (by omega) (by unfold fa_FU; omega) h3
