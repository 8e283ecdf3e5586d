/-! GROUPS by the class: numbered from the classes -/
def px_Go (o : Nat) : Prop := (fa_rf o 0 = o + 1 ∧ fa_rf o 1 = o + 3 ∧ fa_rf o 2 = o + 5) ∧ (fa_rf (o + 1) 0 = o + 1 + 1 ∧ fa_rf (o + 3) 0 = o + 3 + 1 ∧ fa_rf (o + 5) 0 = o + 5 + 1) ∧ (fa_cp (o + 1) = 72 ∧ fa_cp (o + 3) = 3 ∧ fa_cp (o + 5) = 24)
theorem px_Go_111 : px_Go 111 := by unfold px_Go; decide
theorem px_Go_174 : px_Go 174 := by unfold px_Go; decide
def px_GL (o sp : Nat) (l : List Nat) (w : fa_W) : Prop := w (o + 4) sp = (l.length : Int) ∧ ∀ i, i < l.length → w (o + 2) (24 * sp + i) = ((l.getD i 0 : Nat) : Int)
theorem px_GL_of {o sp : Nat} {l : List Nat} {w w' : fa_W} (h : px_GL o sp l w) (h24 : l.length ≤ 24) (e1 : w' (o + 4) sp = w (o + 4) sp) (e2 : ∀ j, 24 * sp ≤ j → j < 24 * sp + 24 → w' (o + 2) j = w (o + 2) j) : px_GL o sp l w' := ⟨e1.trans h.1, fun i hi => (e2 _ (by omega) (by omega)).trans (h.2 i hi)⟩
theorem px_GL_snoc {o sp m : Nat} {l : List Nat} {w : fa_W} (h : px_GL o sp l w) : px_GL o sp (l ++ [m]) (fa_st (fa_st w (o + 2) (24 * sp + l.length) (m : Int)) (o + 4) sp ((l.length + 1 : Nat) : Int)) := by
  refine ⟨?_, fun i hi => ?_⟩
  · rw [fa_st_eq, List.length_append]; rfl
  · rw [List.length_append] at hi
    change i < l.length + 1 at hi
    rw [fa_st_ne (by omega)]
    by_cases e : i = l.length
    · rw [e, fa_st_eq, List.getD_eq_getElem?_getD, List.getElem?_append_right (Nat.le_refl _), Nat.sub_self]; rfl
    · rw [fa_st_ne (by omega), List.getD_eq_getElem?_getD, List.getElem?_append_left (by omega), ← List.getD_eq_getElem?_getD]
      exact h.2 i (by omega)
def px_fn (o sp : Nat) (w w' : fa_W) : Prop := ∀ i j, ¬ (i = o + 2 ∧ 24 * sp ≤ j ∧ j < 24 * sp + 24) → ¬ (i = o + 4 ∧ j = sp) → w' i j = w i j
theorem px_gnum_l {o nf sp mk : Nat} {mt : Nat → Nat} {w0 : fa_W} (ho : px_Go o) (h24 : nf ≤ 24) (hsp : sp < 3) (hE : pg_E mk mt nf) (hmk : mk < 2 ^ nf) (h5 : w0 (o + 5) 1 = (nf : Int)) (h6 : ∀ f, f < nf → mk.testBit f = true → w0 (o + 6) f = (mt f : Int)) (h1 : w0 (o + 1) 1 = ((72 : Nat) : Int)) (h3 : w0 (o + 3) 1 = ((3 : Nat) : Int)) : ∀ (d k F : Nat) (w : fa_W), nf = k + d → d < F → px_fn o sp w0 w → px_GL o sp (pg_l mk mt k) w → ∃ w', fm_Groups_number_l2 o (sp : Int) (mk : Int) F (k : Int) w = some w' ∧ px_fn o sp w0 w' ∧ px_GL o sp (pg_l mk mt nf) w' := by
  obtain ⟨⟨r0, r1, r2⟩, ⟨s0, s1, s2⟩, m0, m1, m2⟩ := ho
  intro d
  induction d with
  | zero =>
    intro k F w hk hF hf hG
    obtain ⟨F, rfl⟩ : ∃ G, F = G + 1 := ⟨F - 1, by omega⟩
    have ek : k = nf := by omega
    rw [ek] at hG
    refine ⟨w, ?_, hf, hG⟩
    unfold fm_Groups_number_l2 fm_Row_size
    rw [r2, hf _ _ (by omega) (by omega), h5, pb_wr (by omega), pb_wr (by omega), if_pos (by omega)]
  | succ d ih =>
    intro k F w hk hF hf hG
    obtain ⟨F, rfl⟩ : ∃ G, F = G + 1 := ⟨F - 1, by omega⟩
    have nx : ((k : Nat) : Int) + 1 = ((k + 1 : Nat) : Int) := by omega
    have len := pg_l_len mk mt k
    have nextv := pg_l_s mk mt k
    unfold fm_Groups_number_l2 fm_Row_size
    rw [r2, hf (o + 5) 1 (by omega) (by omega), h5, pb_wr (by omega), pb_wr (by omega), if_neg (by omega), pf_hb (pf_lt24 (pf_two h24 hmk)) (by omega)]
    cases c : mk.testBit k with
    | false =>
      rw [if_neg (by decide), pf_let_eq, nx]
      refine ih (k + 1) F w (by omega) (by omega) hf ?_
      rw [nextv, if_neg (fun q => by rw [c] at q; cases q.1)]
      exact hG
    | true =>
      obtain ⟨e1, e2, e3⟩ := hE k (by omega) c
      have pos : 0 < mt k := by
        rcases Nat.eq_zero_or_pos (mt k) with z | z
        · rw [z, Nat.zero_testBit] at e2; cases e2
        · exact z
      have gk : fr_bits (o + 5) (k : Int) w = ((mt k : Nat) : Int) := by
        rw [pb_bits ((hf _ _ (by omega) (by omega)).trans h5) (by omega) (by rw [m2]; exact h24), s2, show o + 5 + 1 = o + 6 by omega, hf _ _ (by omega) (by omega), h6 k (by omega) c]
      obtain ⟨k0, k1, k2, k3, k4⟩ := pf_lowest (pf_two h24 e1) pos w
      have fst := pg_first hE (show k < nf by omega) c
      rw [if_pos rfl, gk, k4, pb_wr (by omega)]
      have k0le : k0 ≤ k := by
        rcases Nat.lt_or_ge k k0 with z | z
        · rw [k3 k z] at e2; cases e2
        · exact z
      by_cases e : k0 = k
      · have all : ∀ i, i < k → (mt k).testBit i = false := fun i hi => k3 i (by omega)
        have mn : fm_Groups_many o (sp : Int) w = ((pg_l mk mt k).length : Int) := by
          unfold fm_Groups_many
          rw [r1, pb_bits ((hf _ _ (by omega) (by omega)).trans h3) hsp (by rw [m1]; exact Nat.le_refl _), s1, show o + 3 + 1 = o + 4 by omega]
          exact hG.1
        have st1 : fr_set (o + 1) ((sp : Int) * 24 + ((pg_l mk mt k).length : Int)) ((mt k : Nat) : Int) w = fa_st w (o + 2) (24 * sp + (pg_l mk mt k).length) ((mt k : Nat) : Int) := by
          rw [show (sp : Int) * 24 + ((pg_l mk mt k).length : Int) = ((24 * sp + (pg_l mk mt k).length : Nat) : Int) by omega, pb_set ((hf _ _ (by omega) (by omega)).trans h1) (by omega) (by rw [m0]; exact Nat.le_refl _), s0]
        have mn2 : fm_Groups_many o (sp : Int) (fa_st w (o + 2) (24 * sp + (pg_l mk mt k).length) ((mt k : Nat) : Int)) = ((pg_l mk mt k).length : Int) := by
          unfold fm_Groups_many
          rw [r1, pb_bits ((fa_st_ne (by omega)).trans ((hf _ _ (by omega) (by omega)).trans h3)) hsp (by rw [m1]; exact Nat.le_refl _), s1, show o + 3 + 1 = o + 4 by omega, fa_st_ne (by omega)]
          exact hG.1
        rw [if_pos (by omega), r0, mn, st1, pf_let_eq, r1, mn2, pb_set ((fa_st_ne (by omega)).trans ((hf _ _ (by omega) (by omega)).trans h3)) hsp (by rw [m1]; exact Nat.le_refl _), s1, show o + 3 + 1 = o + 4 by omega, pf_let_eq, pf_let_eq, nx, show ((pg_l mk mt k).length : Int) + 1 = (((pg_l mk mt k).length + 1 : Nat) : Int) from rfl]
        refine ih (k + 1) F _ (by omega) (by omega) (fun i j p q => (fa_st_ne (by omega)).trans ((fa_st_ne (by omega)).trans (hf i j p q))) ?_
        rw [nextv, if_pos ⟨c, fst.mpr all⟩]
        exact px_GL_snoc hG
      · rw [if_neg (by omega), pf_let_eq, nx]
        refine ih (k + 1) F w (by omega) (by omega) hf ?_
        rw [nextv, if_neg (fun q => by
          have := fst.mp q.2 k0 (by omega)
          rw [k2] at this
          cases this)]
        exact hG
theorem px_gnum {o nf sp mk : Nat} {mt : Nat → Nat} {w : fa_W} (ho : px_Go o) (h24 : nf ≤ 24) (hsp : sp < 3) (hE : pg_E mk mt nf) (hmk : mk < 2 ^ nf) (h5 : w (o + 5) 1 = (nf : Int)) (h6 : ∀ f, f < nf → mk.testBit f = true → w (o + 6) f = (mt f : Int)) (h1 : w (o + 1) 1 = ((72 : Nat) : Int)) (h3 : w (o + 3) 1 = ((3 : Nat) : Int)) (h0 : w (o + 4) sp = 0) : ∃ w', fm_Groups_number o (sp : Int) (mk : Int) w = some w' ∧ px_fn o sp w w' ∧ px_GL o sp (pg_l mk mt nf) w' := by
  obtain ⟨FU, hFU⟩ : ∃ F, F = fa_FU := ⟨_, rfl⟩
  have hF2 : 1000 < FU := by rw [hFU]; unfold fa_FU; omega
  unfold fm_Groups_number
  rw [← hFU]
  exact px_gnum_l ho h24 hsp hE hmk h5 h6 h1 h3 nf 0 FU w (by omega) (by omega) (fun _ _ _ _ => rfl) ⟨h0, fun i hi => by cases hi⟩
