/-! the RINGS, by the class -/
def pf_lr (W rg : Nat → Nat) : Nat → List Nat
  | 0 => []
  | k + 1 => if (W k).testBit k = true ∧ pf_fi k (pf_lr W rg k) 0 = -1 then pf_lr W rg k ++ [rg k] else pf_lr W rg k
theorem pf_lr_len (W rg : Nat → Nat) : ∀ k, (pf_lr W rg k).length ≤ k := by
  intro k
  induction k with
  | zero => exact Nat.le_refl _
  | succ k ih =>
    unfold pf_lr
    split
    · rw [List.length_append]
      show (pf_lr W rg k).length + 1 ≤ k + 1
      omega
    · omega
def pf_rg (nf : Nat) (W rg : Nat → Nat) : Prop := ∀ f, f < nf → rg f < 2 ^ nf ∧ ∀ g, (rg f).testBit g = true ↔ g < nf ∧ (W f).testBit g = true ∧ (W g).testBit f = true
def px_fg (o : Nat) (w w' : fa_W) : Prop := ∀ i j, i ≠ o + 9 → i ≠ o + 10 → w' i j = w i j
theorem px_listRings_l {o oP nf : Nat} {W rg : Nat → Nat} {w0 : fa_W} (ho : px_Fo o) (hd : oP + 26 < o) (h24 : nf ≤ 24) (h14 : w0 oP 14 = (nf : Int)) (h7 : w0 (o + 7) 1 = (nf : Int)) (h8 : ∀ f, f < nf → w0 (o + 8) f = (W f : Int)) (hb : ∀ f, W f < 2 ^ nf) (hrg : pf_rg nf W rg) : ∀ (d k F : Nat) (w : fa_W), nf = k + d → d < F → px_fg o w0 w → px_Rg o nf (pf_lr W rg k) w → ∃ w', fm_Flow_listRings_l9 o oP F (k : Int) w = some w' ∧ px_fg o w0 w' ∧ px_Rg o nf (pf_lr W rg nf) w' := by
  have r3 := ho.1.2.2.2.1
  have s3 := ho.2.1.2.2.2.1
  have m3 := ho.2.2.2.2.2.1
  have r4 := ho.1.2.2.2.2
  have s4 := ho.2.1.2.2.2.2
  have m4 := ho.2.2.2.2.2.2
  intro d
  induction d with
  | zero =>
    intro k F w hk hF hf hR
    obtain ⟨F, rfl⟩ : ∃ G, F = G + 1 := ⟨F - 1, by omega⟩
    have ek : k = nf := by omega
    rw [ek] at hR
    refine ⟨w, ?_, hf, hR⟩
    unfold fm_Flow_listRings_l9
    rw [hf _ _ (by omega) (by omega), h14, pb_wr (by omega), pb_wr (by omega), if_pos (by omega)]
  | succ d ih =>
    intro k F w hk hF hf hR
    obtain ⟨F, rfl⟩ : ∃ G, F = G + 1 := ⟨F - 1, by omega⟩
    have nx : ((k : Nat) : Int) + 1 = ((k + 1 : Nat) : Int) := by omega
    have h7' : w (o + 7) 1 = (nf : Int) := (hf _ _ (by omega) (by omega)).trans h7
    have h8' : ∀ f, f < nf → w (o + 8) f = (W f : Int) := fun f hl => (hf _ _ (by omega) (by omega)).trans (h8 f hl)
    have h14' : w oP 14 = (nf : Int) := (hf _ _ (by omega) (by omega)).trans h14
    have gk : fr_bits (o + 7) (k : Int) w = ((W k : Nat) : Int) := by
      rw [pb_bits h7' (by omega) (by rw [m3]; exact h24), s3, show o + 7 + 1 = o + 8 by omega, h8' k (by omega)]
    have nextv : pf_lr W rg (k + 1) = if (W k).testBit k = true ∧ pf_fi k (pf_lr W rg k) 0 = -1 then pf_lr W rg k ++ [rg k] else pf_lr W rg k := rfl
    unfold fm_Flow_listRings_l9
    rw [h14', pb_wr (by omega), pb_wr (by omega), if_neg (by omega), r3, gk, pf_hb (pf_lt24 (pf_two h24 (hb k))) (by omega)]
    by_cases e1 : (W k).testBit k = true
    · rw [if_pos e1, px_ringOf ho h24 (by omega) hR, Option.bind_some]
      have len := pf_lr_len W rg k
      rcases pf_fi_cases k (pf_lr W rg k) 0 with ⟨e2, _⟩ | ⟨i, i1, e2, _⟩
      · rw [e2, pb_wr1, if_pos rfl]
        obtain ⟨r, q1, q2, q3⟩ := px_ringFrom (oP := oP) ho h24 h14' (show k < nf by omega) h7' h8' hb
        have er : r = rg k := Nat.eq_of_testBit_eq (fun g => Bool.eq_iff_iff.mpr ((q3 g).trans ((hrg k (by omega)).2 g).symm))
        rw [q1, Option.bind_some, pf_let_eq, pf_let_eq, nx, r4, er]
        have ad := px_ad1 (v := ((rg k : Nat) : Int)) s4 hR.1 (by rw [m4]; omega)
        generalize fr_add (o + 9) ((rg k : Nat) : Int) w = w1 at ad ⊢
        obtain ⟨a1, a2, a3⟩ := ad
        rw [if_pos ⟨e1, e2⟩] at nextv
        refine ih (k + 1) F w1 (by omega) (by omega) (fun i j p q => (a3 i j (by omega) (by omega)).trans (hf i j p q)) ?_
        rw [nextv]
        refine ⟨?_, ?_, fun i hi => ?_⟩
        · rw [List.length_append]; exact a1
        · rw [List.length_append]; show (pf_lr W rg k).length + 1 ≤ 24; omega
        · rw [List.length_append] at hi
          change i < (pf_lr W rg k).length + 1 at hi
          by_cases ei : i = (pf_lr W rg k).length
          · rw [ei, List.getD_eq_getElem?_getD, List.getElem?_append_right (Nat.le_refl _), Nat.sub_self]
            exact ⟨a2, (hrg k (by omega)).1⟩
          · rw [List.getD_eq_getElem?_getD, List.getElem?_append_left (by omega), ← List.getD_eq_getElem?_getD, a3 _ _ (by omega) (by omega)]
            exact hR.2.2 i (by omega)
      · have i24 := hR.2.1
        rw [e2, pb_wr (by omega), if_neg (by omega), pf_let_eq, nx]
        refine ih (k + 1) F w (by omega) (by omega) hf ?_
        rw [nextv, if_neg (fun q => by rw [e2] at q; have := q.2; omega)]
        exact hR
    · rw [if_neg e1, pf_let_eq, nx]
      refine ih (k + 1) F w (by omega) (by omega) hf ?_
      rw [nextv, if_neg (fun q => e1 q.1)]
      exact hR
theorem px_listRings {o oP nf : Nat} {W rg : Nat → Nat} {w : fa_W} (ho : px_Fo o) (hd : oP + 26 < o) (h24 : nf ≤ 24) (h14 : w oP 14 = (nf : Int)) (h7 : w (o + 7) 1 = (nf : Int)) (h8 : ∀ f, f < nf → w (o + 8) f = (W f : Int)) (hb : ∀ f, W f < 2 ^ nf) (hrg : pf_rg nf W rg) : ∃ w', fm_Flow_listRings o oP w = some w' ∧ px_fg o w w' ∧ px_Rg o nf (pf_lr W rg nf) w' := by
  obtain ⟨FU, hFU⟩ : ∃ F, F = fa_FU := ⟨_, rfl⟩
  have hF2 : 1000 < FU := by rw [hFU]; unfold fa_FU; omega
  unfold fm_Flow_listRings fm_Row_clear
  rw [← hFU, ho.1.2.2.2.2, pf_let_eq, pf_let_eq]
  exact px_listRings_l ho hd h24 h14 h7 h8 hb hrg nf 0 FU _ (by omega) (by omega) (fun i j p q => fa_st_ne (by omega)) ⟨fa_st_eq _ _ _ _, Nat.zero_le _, fun i hi => by cases hi⟩
