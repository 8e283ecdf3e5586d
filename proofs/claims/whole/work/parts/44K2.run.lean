/-! an EXPR as it is written: fm for the form (D a FUNCTION's data, A what stands ahead of a SITE), C whose EXPRS are written -/
def pw_t (fm : Bool) (D A : Nat → List Nat) (C : Nat → Bool) : pt_T → List Nat := pt_rec
  (fun v => pw_nu v)
  (fun _ x => pw_nm x)
  (fun g x => if fm = true then D g else pw_nm x)
  (fun _ => pw_tx 10)
  (fun f x _ r => if fm = true then D f else pw_tx 11 ++ (pw_nm x ++ (pw_tx 9 ++ ((if C f = true then r else pw_tx 10) ++ pw_tx 12))))
  (fun _ _ _ ra rb rc => pw_tx 16 ++ (ra ++ (pw_tx 17 ++ (rb ++ (pw_tx 18 ++ (rc ++ pw_tx 12))))))
  (fun _ x _ _ ra rb => pw_tx 19 ++ (pw_nm x ++ (pw_tx 2 ++ (ra ++ (pw_tx 20 ++ (rb ++ pw_tx 12))))))
  (fun s _ _ ra rb => pw_tx 14 ++ (ra ++ ([s] ++ (rb ++ pw_tx 12))))
  (fun s _ _ ra rb => (if fm = true then A s ++ pw_tx 14 else pw_tx 14) ++ (ra ++ ((if fm = true then pw_tx 15 else pw_tx 1) ++ (rb ++ pw_tx 12))))
  []
/-- nothing but the class's rows of writing has changed -/
def pw_fw (w w' : fa_W) : Prop := ∀ i j, i ≠ 3 → i ≠ 4 → i ≠ 38 → i ≠ 39 → i ≠ 42 → i ≠ 43 → w' i j = w i j
/-- a piece is put: SHOWN has so much more -/
def px_pp (sc : Nat) (i ph : Nat) (bs : List Nat) (w0 : fa_W) : Prop := ∀ (l : List Nat) (w : fa_W), pw_fw w0 w → px_RL 3 l w → l.length + bs.length ≤ 6990 → ∃ w', fm_Writer_putPiece sc (i : Int) (ph : Int) w = some w' ∧ px_RL 3 (l ++ bs) w' ∧ ∀ a j, a ≠ 3 → a ≠ 4 → a ≠ 42 → a ≠ 43 → w' a j = w a j
def px_wg (sc : Nat) (a2 : Int) (k : Nat) (w w' : fa_W) : Prop := ∀ F X : Nat, X + k ≤ 1000000 → fm_Writer_putExpression_l19 sc a2 (F + k) (X : Int) w = fm_Writer_putExpression_l19 sc a2 F ((X + k : Nat) : Int) w'
theorem px_wg_tr {sc : Nat} {a2 : Int} {k m : Nat} {w w1 w2 : fa_W} (h : px_wg sc a2 k w w1) (g : px_wg sc a2 m w1 w2) : px_wg sc a2 (k + m) w w2 := fun F X hX => by
  have e1 := h (F + m) X (by omega)
  have e2 := g F (X + k) (by omega)
  rw [show F + m + k = F + (k + m) by omega] at e1
  rw [show X + k + m = X + (k + m) by omega] at e2
  exact e1.trans e2
theorem px_wround {sc o i ph T : Nat} {a2 : Int} {bs l : List Nat} {w0 w : fa_W} {p : Int} (hsc : fa_rf sc 0 = o) (hf : pw_fw w0 w) (hR : px_RL 3 l w) (hl : l.length + bs.length ≤ 6990) (hT : w 38 1 = ((T + 1 : Nat) : Int)) (hT2 : T + 2 ≤ 1200) (ht : w 39 T = ((i * 4 + ph : Nat) : Int)) (hph : ph < 4) (hi : i < 100) (hp : px_pp sc i ph bs w0) (hn : ∀ w1 : fa_W, pw_fw w0 w1 → fm_Writer_nextPart o (i : Int) (ph : Int) w1 = p) : ∃ w1, pw_fw w0 w1 ∧ px_RL 3 (l ++ bs) w1 ∧ (∀ j, j < T → w1 39 j = w 39 j) ∧ (p = -1 → px_wg sc a2 1 w w1 ∧ w1 38 1 = (T : Int)) ∧ ∀ q : Nat, q < 100 → p = (q : Int) → px_wg sc a2 1 w w1 ∧ w1 38 1 = ((T + 2 : Nat) : Int) ∧ w1 39 T = ((i * 4 + (ph + 1) : Nat) : Int) ∧ w1 39 (T + 1) = ((q * 4 : Nat) : Int) := by
  have r38 : fa_rf 38 0 = 38 + 1 := by decide +kernel
  have c38 : fa_cp 38 = 1200 := by decide +kernel
  have hd := px_pop (r := 38) (m := 1200) r38 c38 hT (by omega)
  have f1 : pw_fw w0 (fa_st w 38 1 (T : Int)) := fun a j q1 q2 q3 q4 q5 q6 => (fa_st_ne (by omega)).trans (hf a j q1 q2 q3 q4 q5 q6)
  obtain ⟨w1, p1, p2, p3⟩ := hp l (fa_st w 38 1 (T : Int)) f1 (px_RL_of hR (fun a j q => fa_st_ne (by omega))) hl
  have f2 : pw_fw w0 w1 := fun a j q1 q2 q3 q4 q5 q6 => (p3 a j q1 q2 q5 q6).trans (f1 a j q1 q2 q3 q4 q5 q6)
  have e4 : fa_idiv ((i * 4 + ph : Nat) : Int) 4 = (i : Int) := by
    have := pb_idiv (a := i * 4 + ph) (b := 4) (by omega) (by omega)
    rw [show (i * 4 + ph) / 4 = i by omega] at this
    exact this
  have e5 : fa_irem ((i * 4 + ph : Nat) : Int) 4 = (ph : Int) := by
    have := pb_irem (a := i * 4 + ph) (b := 4) (by omega) (by omega)
    rw [show (i * 4 + ph) % 4 = ph by omega] at this
    exact this
  have w1T : w1 38 1 = (T : Int) := by rw [p3 _ _ (by omega) (by omega) (by omega) (by omega), fa_st_eq]
  have w1k : ∀ j, w1 39 j = w 39 j := fun j => by rw [p3 _ _ (by omega) (by omega) (by omega) (by omega), fa_st_ne (by omega)]
  have step : ∀ F X : Nat, X + 1 ≤ 1000000 → fm_Writer_putExpression_l19 sc a2 (F + 1) (X : Int) w = if fa_wr p = -1 then fm_Writer_putExpression_l19 sc a2 F ((X + 1 : Nat) : Int) w1 else fm_Writer_putExpression_l19 sc a2 F ((X + 1 : Nat) : Int) (fr_add 38 (p * 4) (fr_add 38 ((i : Int) * 4 + (ph : Int) + 1) w1)) := fun F X hX => by
    conv => lhs; unfold fm_Writer_putExpression_l19
    unfold fm_Row_size
    rw [pb_wr (by omega), if_neg (by omega), hT, pb_wr (by omega), if_neg (by omega), hd, pf_l2_eq]
    rw [show w (38 + 1) T = ((i * 4 + ph : Nat) : Int) from ht, pf_let_eq, e4, pf_let_eq, e5, p1, Option.bind_some, pf_let_eq, hsc, hn w1 f2]
    have eX : (X : Int) + 1 = ((X + 1 : Nat) : Int) := by omega
    by_cases z : fa_wr p = -1
    · rw [if_pos z, if_pos z, pf_let_eq, eX]
    · rw [if_neg z, if_neg z, pf_let_eq, pf_let_eq, pf_let_eq, eX]
  by_cases z : p = -1
  · refine ⟨w1, f2, p2, fun j _ => w1k j, fun _ => ⟨fun F X hX => ?_, w1T⟩, fun q hq hpq => by omega⟩
    rw [step F X hX, z, pb_wr1, if_pos rfl]
  · by_cases z2 : ∃ q : Nat, q < 100 ∧ p = (q : Int)
    · obtain ⟨q, hq, hpq⟩ := z2
      obtain ⟨a1, a2', a3⟩ := px_push (r := 38) (m := 1200) (v := (i : Int) * 4 + (ph : Int) + 1) r38 c38 w1T (by omega)
      have st1 := step
      generalize fr_add 38 ((i : Int) * 4 + (ph : Int) + 1) w1 = w2 at *
      obtain ⟨b1, b2, b3⟩ := px_push (r := 38) (m := 1200) (v := p * 4) (w := w2) r38 c38 a1 (by omega)
      generalize fr_add 38 (p * 4) w2 = w3 at *
      refine ⟨w3, fun a j q1 q2 q3 q4 q5 q6 => ?_, px_RL_of p2 (fun a j q => ?_), fun j hj => ?_, fun h => (z h).elim, fun q' hq' hpq' => ?_⟩
      · rw [b3 _ _ (by omega) (by omega), a3 _ _ (by omega) (by omega)]; exact f2 a j q1 q2 q3 q4 q5 q6
      · rw [b3 _ _ (by omega) (by omega), a3 _ _ (by omega) (by omega)]
      · rw [b3 _ _ (by omega) (by omega), a3 _ _ (by omega) (by omega)]; exact w1k j
      · have : q' = q := by omega
        subst this
        refine ⟨fun F X hX => ?_, b1, ?_, ?_⟩
        · rw [st1 F X hX, hpq, pb_wr (by omega), if_neg (by omega)]
        · rw [b3 _ _ (by omega) (by omega)]
          have := a2'
          rw [this]; omega
        · have := b2
          rw [this, hpq]; omega
    · refine ⟨w1, f2, p2, fun j _ => w1k j, fun h => (z h).elim, fun q hq hpq => (z2 ⟨q, hq, hpq⟩).elim⟩
