/-! copying: what is written again is marked, from wholes to parts -/
def pe_f2 (o : Nat) (w w' : fa_W) : Prop := ∀ i j, i ≠ o + 24 → w' i j = w i j
/-- the marks of a whole are handed on to its parts -/
theorem pe_111 {o oP : Nat} {cd : Int} {K : Int → fa_W → Option fa_W} (hs : pe_sep o oP) {nd i : Nat} {p0 p1 p2 : Int} {w0 : fa_W} (hz : px_pz oP nd w0) (hi : i < nd) (h23 : w0 (o + 23) 1 = (nd : Int)) (e0 : w0 (oP + 10) (3 * i) = p0) (e1 : w0 (oP + 10) (3 * i + 1) = p1) (e2 : w0 (oP + 10) (3 * i + 2) = p2) (b0 : p0 = -1 ∨ ∃ j : Nat, p0 = (j : Int) ∧ j < nd) (b1 : p1 = -1 ∨ ∃ j : Nat, p1 = (j : Int) ∧ j < nd) (b2 : p2 = -1 ∨ ∃ j : Nat, p2 = (j : Int) ∧ j < nd) (F : Nat) : ∃ w', fm_Program_markThings_l111 o oP cd K (F + 4) (i : Int) 0 w0 = K ((i : Int) - 1) w' ∧ pe_f2 o w0 w' ∧ ∀ j : Nat, w' (o + 24) j = if (j : Int) = p0 ∨ (j : Int) = p1 ∨ (j : Int) = p2 then 0 else w0 (o + 24) j := by
  obtain ⟨he, ho, hp, hd⟩ := hs
  obtain ⟨r11, s11, m11⟩ := px_po_r11 ho
  have h100 := hz.2.2.2.2.2
  have st : ∀ (w : fa_W) (p : Int), w (o + 23) 1 = (nd : Int) → (p = -1 ∨ ∃ j : Nat, p = (j : Int) ∧ j < nd) → ∃ w', fr_set (o + 23) p 0 w = w' ∧ pe_f2 o w w' ∧ ∀ j : Nat, w' (o + 24) j = if (j : Int) = p then 0 else w (o + 24) j := fun w p hw hb => by
    rcases hb with hb | ⟨j, hb, hj⟩
    · rw [hb, pb_set_neg]
      exact ⟨w, rfl, fun _ _ _ => rfl, fun j => by rw [if_neg (by omega)]⟩
    · rw [hb, pb_set hw hj (by rw [m11]; exact h100), s11, show o + 23 + 1 = o + 24 by omega]
      refine ⟨_, rfl, fun i k q => fa_st_ne (fun z => q z.1), fun k => ?_⟩
      by_cases e : k = j
      · rw [e, fa_st_eq, if_pos rfl]
      · rw [fa_st_ne (by omega), if_neg (by omega)]
  have pa : ∀ (w : fa_W) (k : Nat), pe_f2 o w0 w → k < 3 → fm_Program_part oP (i : Int) (k : Int) w = w0 (oP + 10) (3 * i + k) := fun w k hw hk => by
    obtain ⟨r4, s4, m4⟩ := px_po_r4 hp
    unfold fm_Program_part
    rw [pb_wr (by omega), if_neg (by omega), if_neg (by omega), r4, show (i : Int) * 3 + (k : Int) = ((3 * i + k : Nat) : Int) by omega, pb_at ((hw _ _ (by omega)).trans hz.2.2.2.2.1) (by omega) (by rw [m4]; omega), s4, show oP + 9 + 1 = oP + 10 by omega, hw _ _ (by omega)]
  obtain ⟨wa, a1, a2, a3⟩ := st w0 p0 h23 b0
  obtain ⟨wb, c1, c2, c3⟩ := st wa p1 ((a2 _ _ (by omega)).trans h23) b1
  obtain ⟨wc, d1, d2, d3⟩ := st wb p2 ((c2 _ _ (by omega)).trans ((a2 _ _ (by omega)).trans h23)) b2
  have q0 : fm_Program_part oP (i : Int) 0 w0 = p0 := (pa w0 0 (fun _ _ _ => rfl) (by decide)).trans e0
  have q1 : fm_Program_part oP (i : Int) 1 wa = p1 := (pa wa 1 a2 (by decide)).trans e1
  have q2 : fm_Program_part oP (i : Int) 2 wb = p2 := (pa wb 2 (fun i j p => (c2 i j p).trans (a2 i j p)) (by decide)).trans e2
  refine ⟨wc, ?_, fun i j p => (d2 i j p).trans ((c2 i j p).trans (a2 i j p)), fun j => ?_⟩
  · show (if 3 ≤ fa_wr 0 then _ else _) = _
    rw [if_neg (by decide), r11, q0, a1, pf_let_eq, pf_let_eq]
    show (if 3 ≤ fa_wr (0 + 1) then _ else _) = _
    rw [if_neg (by decide), show (0 : Int) + 1 = 1 from rfl, q1, r11, c1, pf_let_eq, pf_let_eq]
    show (if 3 ≤ fa_wr (1 + 1) then _ else _) = _
    rw [if_neg (by decide), show (1 : Int) + 1 = 2 from rfl, q2, r11, d1, pf_let_eq, pf_let_eq]
    show (if 3 ≤ fa_wr (2 + 1) then _ else _) = _
    rw [if_pos (by decide), pf_let_eq]
    rfl
  · rw [d3, c3, a3]
    by_cases z0 : (j : Int) = p0
    · rw [if_pos (Or.inl z0), if_pos z0]
      split
      · rfl
      · split <;> rfl
    · by_cases z1 : (j : Int) = p1
      · rw [if_pos (Or.inr (Or.inl z1)), if_pos z1]
        split <;> rfl
      · by_cases z2 : (j : Int) = p2
        · rw [if_pos (Or.inr (Or.inr z2)), if_pos z2]
        · rw [if_neg z2, if_neg z1, if_neg z0, if_neg (fun q => by
            rcases q with q | q | q
            · exact z0 q
            · exact z1 q
            · exact z2 q)]
