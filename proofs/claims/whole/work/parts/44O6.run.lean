/-! back() and take() by the class -/
theorem pc_rk_c {p : Nat → Bool} {a : Nat} : ∀ d, (∀ k, a ≤ k → p k = false) → pc_rk p (a + d) = pc_rk p a := by
  intro d
  induction d with
  | zero => intro _; rfl
  | succ d ih =>
    intro h
    rw [show a + (d + 1) = a + d + 1 by omega, pc_rk_f (h (a + d) (by omega)), ih h]
theorem px_back0 {gs : ps_G} {t : pt_T} {la li si nd mk cl : Nat} {ins os : List Nat} {fb : Nat → pt_T} {sb : pf_sT} {hb : Nat → Int} {w : fa_W} (hP : pf_PR gs t la li si nd fb sb mk) (hH : bk_H gs t la li si fb hb) (hC : bk_C gs la fb t cl) (h67 : fa_sc (w 0 6) ≠ fa_sc (w 0 7)) (hX : px_SC (fa_sc (w 0 6)) gs t la li si nd ins os fb sb mk w) : ∃ w' ins' os', fm_Face_makeBack w = some w' ∧ (∀ x y, (x < fa_sc (w 0 7) + 1 ∨ fa_sc (w 0 7) + 27 < x) → w' x y = w x y) ∧ px_V (fa_sc (w 0 7) + 1) (bk_G mk cl sb hb si gs) (bk_T mk cl sb hb si gs t) (bk_la mk gs la) (bk_li cl hb li) (bk_si cl sb si) (bk_nd mk cl gs t) ins' os' w' := by
  obtain ⟨h1, h2, h3⟩ := bk_ok hP hH hC
  obtain ⟨hV, hG, hr, hmk, hM⟩ := hP
  have v1 := hV.1
  have v2 := hV.2.1
  have p24 : 2 ^ (gs.length + la) ≤ 2 ^ 24 := Nat.pow_le_pow_right (by omega) (by omega)
  obtain ⟨cl', hC', m1, m2⟩ := px_masks hX
  have e := bk_C_one hC' hC
  subst e
  have cc := hC.1
  obtain ⟨w', os', q1, q2, q3⟩ := px_makeBack hV h67 hX (M := bk_M mk) (CL := bk_M cl') (SV := pc_SV (bk_M cl') sb si) (LV := pc_LV (bk_M cl') hb) (fun f w1 hf => by rw [m1]; exact pf_hb (by omega) hf w1) (fun f w1 hf => by rw [m2]; exact pf_hb (by omega) hf w1) h1 h2 h3 (by
    have := pc_rk_c (p := bk_M mk) (a := gs.length + la) (24 - (gs.length + la)) (fun k hk => Nat.testBit_lt_two_pow (Nat.lt_of_lt_of_le hmk (Nat.pow_le_pow_right (by omega) hk)))
    rw [show gs.length + la + (24 - (gs.length + la)) = 24 by omega] at this
    exact this)
  exact ⟨w', _, os', q1, q2, q3⟩
theorem px_faceBack {gs : ps_G} {t : pt_T} {la li si nd mk cl : Nat} {ins os : List Nat} {fb : Nat → pt_T} {sb : pf_sT} {hb : Nat → Int} {w : fa_W} (hP : pf_PR gs t la li si nd fb sb mk) (hH : bk_H gs t la li si fb hb) (hC : bk_C gs la fb t cl) (h67 : fa_sc (w 0 6) ≠ fa_sc (w 0 7)) (hX : px_SC (fa_sc (w 0 6)) gs t la li si nd ins os fb sb mk w) : ∃ w', fm_Face_back w = some (((pw_pr (bk_M mk) (bk_M cl) gs t).length : Int), w') ∧ px_RL 3 (pw_pr (bk_M mk) (bk_M cl) gs t) w' ∧ ∀ i j, i ≠ 3 → i ≠ 4 → (i < 37 ∨ 43 < i) → (i < fa_sc (w 0 7) + 1 ∨ fa_sc (w 0 7) + 27 < i) → w' i j = w i j := by
  obtain ⟨V', _, eP, _⟩ := bk_V hP hH hC
  obtain ⟨w1, ins', os', q1, q2, q3⟩ := px_back0 hP hH hC h67 hX
  have e7 : w1 0 7 = w 0 7 := q2 0 7 (by have := px_sK_sc (w 0 7); rcases this with h | h <;> omega)
  obtain ⟨w2, r1, r2, r3⟩ := px_showProgram (px_sK_sc (w 0 7)) V' q3
  rw [eP] at r1 r2
  refine ⟨w2, ?_, r2, fun i j a b c d => (r3 i j a b (by omega) (by omega) (by omega) (by omega) (by omega)).trans (q2 i j d)⟩
  unfold fm_Face_back
  rw [q1, Option.bind_some, e7, r1, pf_bd_eq]
theorem px_faceTake {gs : ps_G} {t : pt_T} {la li si nd mk cl : Nat} {ins os : List Nat} {fb fb' : Nat → pt_T} {sb sb' : pf_sT} {hb : Nat → Int} {w : fa_W} (hP : pf_PR gs t la li si nd fb sb mk) (hH : bk_H gs t la li si fb hb) (hC : bk_C gs la fb t cl) (h67 : fa_sc (w 0 6) ≠ fa_sc (w 0 7)) (hX : px_SC (fa_sc (w 0 6)) gs t la li si nd ins os fb sb mk w) (hG' : pf_G (bk_G mk cl sb hb si gs) (bk_T mk cl sb hb si gs t) (bk_la mk gs la) (bk_li cl hb li) (bk_si cl sb si) fb' sb') : ∃ w' mk' ins' os', fm_Face_take w = some ((((bk_G mk cl sb hb si gs).length + bk_la mk gs la : Nat) : Int), w') ∧ (w' 0 6 = w 0 7 ∧ w' 0 7 = w 0 6 ∧ w' 3 1 = 0 ∧ w' 44 5 = -1) ∧ px_SC (fa_sc (w 0 7)) (bk_G mk cl sb hb si gs) (bk_T mk cl sb hb si gs t) (bk_la mk gs la) (bk_li cl hb li) (bk_si cl sb si) (bk_nd mk cl gs t) ins' os' fb' sb' mk' w' ∧ ∀ i j, ¬ (i = 0 ∧ (j = 6 ∨ j = 7)) → ¬ (i = 3 ∧ j = 1) → ¬ (i = 44 ∧ j = 5) → (i < fa_sc (w 0 7) + 1 ∨ fa_sc (w 0 7) + 62 < i) → w' i j = w i j := by
  obtain ⟨V', hr', eP, _⟩ := bk_V hP hH hC
  have hsc := px_sK_sc (w 0 7)
  have s54 : 54 < fa_sc (w 0 7) := by rcases hsc with h | h <;> omega
  obtain ⟨w1, ins', os', q1, q2, q3⟩ := px_back0 hP hH hC h67 hX
  have e7 : w1 0 7 = w 0 7 := q2 0 7 (by omega)
  have e6 : w1 0 6 = w 0 6 := q2 0 6 (by omega)
  obtain ⟨b, w2, r1, r2, r3, r4⟩ := px_settle hsc V' hG' q3
  have hb : b = true := by
    cases b with
    | true => rfl
    | false => exact absurd hr' (r3 rfl)
  subst hb
  obtain ⟨_, mk', X2⟩ := r2 rfl
  have g7 : w2 0 7 = w 0 7 := (r4 0 7 (by omega)).trans e7
  have g6 : w2 0 6 = w 0 6 := (r4 0 6 (by omega)).trans e6
  obtain ⟨w3, s1, s2, s3, s4, s45, s5⟩ := px_adopt w2
  have X3 := px_SC_ob (w' := w3) V' (fun i j a b => s5 i j (by omega) (by omega) (by omega)) X2
  obtain ⟨a1, a2, a3, a4, a5, a6, _⟩ := px_sK_all hsc
  refine ⟨w3, mk', ins', os', ?_, ⟨s2.trans g7, s3.trans g6, s4, s45⟩, X3, fun i j p q qf r => ?_⟩
  · unfold fm_Face_take
    rw [q1, Option.bind_some, e7, r1, pf_bd_eq, s1, pf_l2_eq, g7, a6]
    rw [X3.1.2.1.2.1]
  · rw [s5 i j p q qf, r4 i j (by omega), q2 i j (by omega)]
theorem px_faceShow {gs : ps_G} {t : pt_T} {la li si nd mk : Nat} {ins os : List Nat} {fb : Nat → pt_T} {sb : pf_sT} {w : fa_W} (hV : pn_V gs t la li si nd) (hX : px_SC (fa_sc (w 0 6)) gs t la li si nd ins os fb sb mk w) : ∃ w', fm_Face_show w = some (((pw_pr pw_al pw_al gs t).length : Int), w') ∧ px_RL 3 (pw_pr pw_al pw_al gs t) w' ∧ ∀ i j, i ≠ 3 → i ≠ 4 → (i < 37 ∨ 43 < i) → w' i j = w i j := by
  obtain ⟨w2, r1, r2, r3⟩ := px_showProgram (px_sK_sc (w 0 6)) hV hX.1
  refine ⟨w2, ?_, r2, fun i j a b c => r3 i j a b (by omega) (by omega) (by omega) (by omega) (by omega)⟩
  unfold fm_Face_show
  rw [r1, pf_bd_eq]
