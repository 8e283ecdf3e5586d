/-! the class looks at a SITE -/
def px_E (oP nd nf : Nat) (bo : Nat → Nat) (w : fa_W) : Prop := px_pz oP nd w ∧ w oP 14 = (nf : Int) ∧ w (oP + 19) 1 = ((24 : Nat) : Int) ∧ ∀ f, f < nf → w (oP + 20) f = (bo f : Int) ∧ bo f < nd
theorem px_E_ff {o oP nd nf : Nat} {bo : Nat → Nat} {w w' : fa_W} (hd : oP + 26 < o) (hf : px_ff o w w') (h : px_E oP nd nf bo w) : px_E oP nd nf bo w' := by
  obtain ⟨⟨z1, z2, z3, z4, z5, z6⟩, h2, h3, h4⟩ := h
  have e : ∀ i j, i ≤ oP + 26 → w' i j = w i j := fun i j a => hf i j (by omega) (by omega) (by omega)
  exact ⟨⟨(e _ _ (by omega)).trans z1, (e _ _ (by omega)).trans z2, (e _ _ (by omega)).trans z3, (e _ _ (by omega)).trans z4, (e _ _ (by omega)).trans z5, z6⟩, (e _ _ (by omega)).trans h2, (e _ _ (by omega)).trans h3, fun f hf => ⟨(e _ _ (by omega)).trans (h4 f hf).1, (h4 f hf).2⟩⟩
theorem px_cget {o nd nf i : Nat} {z : pf_s} {b : Bool} {w : fa_W} (ho : px_Fo o) (h100 : nd ≤ 100) (hc : px_xc o nd z b w) (hi : i < nd) : fr_bits (fa_rf o 0) (i : Int) w = (z.1 i : Int) := by
  obtain ⟨⟨r0, _⟩, ⟨s0, _⟩, m0, _⟩ := ho
  rw [r0, pb_bits hc.1.1 hi (by rw [m0]; exact h100), s0, show o + 1 + 1 = o + 2 by omega]
  exact hc.2.1 i hi
theorem px_body {o oP nd nf f : Nat} {bo : Nat → Nat} {z : pf_s} {b : Bool} {w : fa_W} (ho : px_Fo o) (hp : px_po oP) (h24 : nf ≤ 24) (h100 : nd ≤ 100) (hE : px_E oP nd nf bo w) (hc : px_xc o nd z b w) (hf : f < nf) : fm_Flow_comesOfBody o oP (f : Int) w = (z.1 (bo f) : Int) := by
  unfold fm_Flow_comesOfBody
  obtain ⟨e1, e2, e3, e4⟩ := hE
  obtain ⟨⟨_, _, _, _, _, _, _, _, _, r9, _⟩, ⟨_, _, _, _, _, _, _, _, _, c9, _⟩, ⟨_, _, _, _, _, _, _, _, _, m9, _⟩⟩ := hp
  rw [r9, pb_at e3 (by omega) (by rw [m9]; exact Nat.le_refl _), c9, show oP + 19 + 1 = oP + 20 by omega, (e4 f hf).1]
  exact px_cget (nf := nf) ho h100 hc (e4 f hf).2
theorem pf_let_eq {A B : Type} (a : A) (f : A → B) : fa_let a f = f a := rfl
theorem px_site_1 {o oP nd nf i X k acc : Nat} {z : pf_s} {b : Bool} {w : fa_W} {KK : Int → Int → Int → fa_W → Option (Int × fa_W)} (hk : k < nf) (h24 : nf ≤ 24) (hc : px_xc o nd z b w) (ok : pf_ok nf z) : ∃ (z1 : pf_s) (b1 : Bool) (w1 : fa_W), (if z.2.2.1.testBit k = true then fm_Flow_lookAtSite_j70 o oP (i : Int) KK (acc : Int) (X : Int) (k : Int) w else fa_let (fa_st w o 6 (fa_ior ((z.2.2.1 : Nat) : Int) (fm_Face_bit (k : Int) w))) fun w18 => fa_let (fa_st w18 o 7 (fa_bi true)) fun w19 => fm_Flow_lookAtSite_j70 o oP (i : Int) KK (acc : Int) (X : Int) (k : Int) w19) = fm_Flow_lookAtSite_j70 o oP (i : Int) KK (acc : Int) (X : Int) (k : Int) w1 ∧ px_xc o nd z1 b1 w1 ∧ pf_xg nf z b z1 b1 ∧ px_ff o w w1 ∧ z1.1 = z.1 ∧ (∀ Cs Hs Ls Ms, pf_sd z Cs Hs Ls Ms → Ls k → pf_sd z1 Cs Hs Ls Ms) ∧ pf_zL z1 k := by
  cases ez : z.2.2.1.testBit k with
  | true =>
    rw [if_pos rfl]
    exact ⟨z, b, w, rfl, hc, pf_xg_refl b ok, px_ff_refl _ _, rfl, fun _ _ _ _ a _ => a, ez⟩
  | false =>
    have G := pf_up_L (b := b) hk h24 ok ez
    have hb : fm_Face_bit (k : Int) w = ((2 ^ k : Nat) : Int) := pf_bit (by omega) w
    have hlt := pf_bit_lt (show k < 24 by omega)
    have hone : ∀ f, (2 ^ k).testBit f = true ↔ f = k := fun f => pf_one
    generalize 2 ^ k = y at G hb hlt hone
    rw [if_neg (by decide), hb, pb_or (pf_lt24 (pf_two h24 ok.2.2.1)) (pf_lt24 hlt), pf_let_eq, pf_let_eq]
    refine ⟨(z.1, z.2.1, z.2.2.1 ||| y, z.2.2.2), true, _, rfl, ?_, G, fun i j p q r => by rw [fa_st_ne (by omega), fa_st_ne (by omega)], rfl, fun Cs Hs Ls Ms a l => ⟨a.1, a.2.1, fun f h => ?_, a.2.2.2⟩, ?_⟩
    · obtain ⟨⟨c1, c2⟩, c3, c4, c5, c6, c7⟩ := hc
      refine ⟨⟨?_, ?_⟩, fun i hi => ?_, fun v hv => ?_, ?_, ?_, ?_⟩
      · rw [fa_st_ne (by omega), fa_st_ne (by omega)]; exact c1
      · rw [fa_st_ne (by omega), fa_st_ne (by omega)]; exact c2
      · rw [fa_st_ne (by omega), fa_st_ne (by omega)]; exact c3 i hi
      · rw [fa_st_ne (by omega), fa_st_ne (by omega)]; exact c4 v hv
      · dsimp only; rw [fa_st_ne (by omega), fa_st_eq]
      · rw [fa_st_ne (by omega), fa_st_ne (by omega)]; exact c6
      · rw [fa_st_eq]; rfl
    · dsimp only at h
      rw [Nat.testBit_or, Bool.or_eq_true] at h
      exact h.elim (a.2.2.1 f) (fun h => by rw [(hone f).mp h]; exact l)
    · unfold pf_zL
      dsimp only
      rw [Nat.testBit_or, (hone k).mpr rfl, Bool.or_true]
theorem px_site_l {o oP nd nf i ib X : Nat} {bo : Nat → Nat} {Y : Nat} (ho : px_Fo o) (hp : px_po oP) (hd : oP + 26 < o) (h24 : nf ≤ 24) (h100 : nd ≤ 100) (hX : X < 2 ^ nf) (hib : ib < nd) : ∀ (d k F acc : Nat) (z : pf_s) (b : Bool) (w : fa_W), nf = k + d → d < F → px_E oP nd nf bo w → (∀ w', px_ff o w w' → fm_Program_part oP (i : Int) 1 w' = (ib : Int)) → px_xc o nd z b w → pf_ok nf z → acc < 2 ^ nf → z.1 ib = Y → ∃ (r : Nat) (w' : fa_W) (z' : pf_s) (b' : Bool), fm_Flow_lookAtSite_l20 o oP (i : Int) F (acc : Int) (X : Int) (k : Int) w = some ((r : Int), w') ∧ r < 2 ^ nf ∧ px_xc o nd z' b' w' ∧ pf_xg nf z b z' b' ∧ px_ff o w w' ∧ z'.1 = z.1 ∧ (∀ Cs Hs Ls Ms, pf_sd z Cs Hs Ls Ms → (∀ f, X.testBit f = true → Ls f ∧ ∀ g, Y.testBit g = true → Hs f g) → pf_sd z' Cs Hs Ls Ms) ∧ (∀ g, r.testBit g = true ↔ acc.testBit g = true ∨ ∃ f, k ≤ f ∧ X.testBit f = true ∧ pf_b z.1 (bo f) g) ∧ ∀ f, k ≤ f → X.testBit f = true → pf_zL z' f ∧ ∀ g, Y.testBit g = true → pf_b z'.2.1 f g := by
  intro d
  induction d with
  | zero =>
    intro k F acc z b w hk hF hE hq hc ok ha hY
    obtain ⟨F, rfl⟩ : ∃ G, F = G + 1 := ⟨F - 1, by omega⟩
    refine ⟨acc, w, z, b, ?_, ha, hc, pf_xg_refl b ok, px_ff_refl _ _, rfl, fun _ _ _ _ a _ => a, fun g => ⟨Or.inl, fun h => ?_⟩, fun f p q => ?_⟩
    · unfold fm_Flow_lookAtSite_l20
      rw [hE.2.1, pb_wr (by omega), pb_wr (by omega), if_pos (by omega)]
    · rcases h with h | ⟨f, p, q, _⟩
      · exact h
      · have := pf_tb_lt hX q; omega
    · have := pf_tb_lt hX q; omega
  | succ d ih =>
    intro k F acc z b w hk hF' hE hq hc ok ha hY
    obtain ⟨F, rfl⟩ : ∃ G, F = G + 1 := ⟨F - 1, by omega⟩
    unfold fm_Flow_lookAtSite_l20
    rw [hE.2.1, pb_wr (by omega), pb_wr (by omega), if_neg (by omega), pf_hb (pf_lt24 (pf_two h24 hX)) (by omega)]
    have nx : ((k : Nat) : Int) + 1 = ((k + 1 : Nat) : Int) := by omega
    cases e : X.testBit k with
    | false =>
      rw [if_neg (by decide)]
      dsimp only [fa_let]
      rw [nx]
      obtain ⟨r, w', z', b', q1, q2, q3, q4, q5, q6, q7, q8, q9⟩ := ih (k + 1) F acc z b w (by omega) (by omega) hE hq hc ok ha hY
      have up : ∀ f, k ≤ f → X.testBit f = true → k + 1 ≤ f := fun f p q => by
        have : f ≠ k := fun h => by rw [h, e] at q; cases q
        omega
      refine ⟨r, w', z', b', q1, q2, q3, q4, q5, q6, q7, fun g => (q8 g).trans ⟨fun c => ?_, fun c => ?_⟩, fun f p q => q9 f (up f p q) q⟩
      · rcases c with c | ⟨f, p, q⟩
        · exact Or.inl c
        · exact Or.inr ⟨f, by omega, q⟩
      · rcases c with c | ⟨f, p, q⟩
        · exact Or.inl c
        · exact Or.inr ⟨f, up f p q.1, q⟩
    | true =>
      rw [if_pos rfl, hc.2.2.2.1, pf_hb (pf_lt24 (pf_two h24 ok.2.2.1)) (by omega)]
      -- the FUNCTION is called
      have step1 := px_site_1 (oP := oP) (i := i) (X := X) (acc := acc) (KK := (fun x3 x4 x5 w9 => fm_Flow_lookAtSite_l20 o oP (i : Int) F x3 x4 x5 w9)) (show k < nf by omega) h24 hc ok
      obtain ⟨z1, b1, w1, e1, c1, g1, f1, k1, s1, l1⟩ := step1
      rw [e1]
      unfold fm_Flow_lookAtSite_j70
      have hYn : Y < 2 ^ nf := by rw [← hY]; exact ok.1 ib
      obtain ⟨w2, e2, c2, f2⟩ := px_hold ho h24 c1 g1.1 (show k < 74 by omega) hYn
      rw [hq w1 f1, px_cget (nf := nf) ho h100 c1 hib, k1, hY, e2]
      dsimp only [fa_let]
      have f12 := px_ff_tr f1 f2
      rw [px_body ho hp h24 h100 (px_E_ff hd f12 hE) c2 (show k < nf by omega), nx]
      dsimp only
      rw [pb_or (pf_lt24 (pf_two h24 ha)) (pf_lt24 (pf_two h24 (g1.1.1 _)))]
      have g2 := pf_up_H (b := b1) h24 g1.1 (show k < 74 by omega) hYn
      have hor := Nat.or_lt_two_pow ha (g1.1.1 (bo k))
      obtain ⟨r, w', z', b', q1, q2, q3, q4, q5, q6, q7, q8, q9⟩ := ih (k + 1) F (acc ||| z1.1 (bo k)) _ _ w2 (by omega) (by omega) (px_E_ff hd f12 hE) (fun w' hw => hq w' (px_ff_tr f12 hw)) c2 g2.1 hor (by dsimp only; rw [k1]; exact hY)
      dsimp only at q6 q8
      rw [k1] at q6 q8
      have le := q4.2.2.1
      refine ⟨r, w', z', b', ?_, q2, q3, pf_xg_tr g1 (pf_xg_tr g2 q4), px_ff_tr f12 q5, q6, fun Cs Hs Ls Ms a p => ?_, fun g => (q8 g).trans ⟨fun c => ?_, fun c => ?_⟩, fun f p q => ?_⟩
      · rw [← q1, k1]
      · have a1 := s1 Cs Hs Ls Ms a (p k e).1
        refine q7 Cs Hs Ls Ms ⟨a1.1, fun v f h => ?_, a1.2.2⟩ p
        dsimp only at h
        by_cases ev : v = k
        · rw [ev, pu_set_eq, Nat.testBit_or, Bool.or_eq_true] at h
          rw [ev]
          exact h.elim (a1.2.1 k f) ((p k e).2 f)
        · rw [pu_set_ne _ _ ev] at h
          exact a1.2.1 v f h
      · rcases c with c | ⟨f, p, q⟩
        · rw [Nat.testBit_or, Bool.or_eq_true] at c
          exact c.elim Or.inl (fun c => Or.inr ⟨k, Nat.le_refl _, e, c⟩)
        · exact Or.inr ⟨f, by omega, q⟩
      · rw [Nat.testBit_or, Bool.or_eq_true]
        rcases c with c | ⟨f, p, q, u⟩
        · exact Or.inl (Or.inl c)
        · by_cases ef : f = k
          · rw [ef] at u
            exact Or.inl (Or.inr u)
          · exact Or.inr ⟨f, by omega, q, u⟩
      · by_cases ef : f = k
        · rw [ef]
          refine ⟨le.2.2.1 k l1, fun g hg => le.2.1 k g ?_⟩
          dsimp only
          rw [pu_set_eq, Nat.testBit_or, hg, Bool.or_true]
        · exact q9 f (by omega) q
