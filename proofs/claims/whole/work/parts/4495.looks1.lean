/-! the reference looks at an EXPR -/
def pf_b (m : Nat → Nat) (v f : Nat) : Prop := (m v).testBit f = true
def pf_X (z : pf_s) (q : Int × pt_T × pt_T) (s : Nat) (w : fa_W) : Prop := w 212 s = 1 ∧ ∃ x y r : Nat, w 209 s = (x : Int) ∧ w 210 s = (y : Int) ∧ w 211 s = (r : Int) ∧ (x < 2 ^ 24 ∧ y < 2 ^ 24 ∧ r < 2 ^ 24) ∧ (∀ f, x.testBit f = true ↔ pf_k (pf_b z.1) (pf_b z.2.1) q.2.1 f) ∧ (∀ f, y.testBit f = true ↔ pf_k (pf_b z.1) (pf_b z.2.1) q.2.2 f) ∧ ∀ f, r.testBit f = true ↔ ∃ g, pf_k (pf_b z.1) (pf_b z.2.1) q.2.1 g ∧ pf_b z.2.1 g f
theorem pf_X_fr {z : pf_s} {q : Int × pt_T × pt_T} {s : Nat} {w w' : fa_W} (h : ∀ i, 209 ≤ i → i ≤ 212 → w' i s = w i s) (hX : pf_X z q s w) : pf_X z q s w' := by
  unfold pf_X
  rw [h 209 (by omega) (by omega), h 210 (by omega) (by omega), h 211 (by omega) (by omega), h 212 (by omega) (by omega)]
  exact hX
theorem pf_Xs {z : pf_s} {sb : pf_sT} {A B : Nat → Prop} {w1 w2 : fa_W} (h1 : ∀ s, A s → pf_X z (sb s) s w1) (hf : pf_fv B w1 w2) (h2 : ∀ s, B s → pf_X z (sb s) s w2) : ∀ s, A s ∨ B s → pf_X z (sb s) s w2 := by
  intro s h
  by_cases b : B s
  · exact h2 s b
  · rcases h with a | b'
    · exact pf_X_fr (fun i p q => hf i s (by omega) (by omega) (fun x => b x.2.2)) (h1 s a)
    · exact absurd b' b
theorem pf_site_l {nf s x y : Nat} (h24 : nf ≤ 24) (hs : s < 101) (hx : x < 2 ^ nf) (hy : y < 2 ^ nf) : ∀ (d k F acc fo : Nat) (z : pf_s) (w : fa_W), nf = k + d → d < F → w 181 17 + w 181 18 = (nf : Int) → pf_mc z fo w → pf_ok nf z → acc < 2 ^ nf → ∃ (r : Nat) (w' : fa_W) (z' : pf_s) (fo' : Nat), fm_Mod_looksAtSite_l40 (s : Int) (x : Int) (y : Int) F (acc : Int) (k : Int) w = some ((r : Int), w') ∧ r < 2 ^ nf ∧ pf_mc z' fo' w' ∧ pf_ch nf z fo z' fo' ∧ w' 211 s = (r : Int) ∧ (∀ i j, i ≠ 207 → ¬ (i = 181 ∧ j = 55) → ¬ (i = 211 ∧ j = s) → w' i j = w i j) ∧ (∀ H R L M, pf_sd z H R L M → (∀ f, k ≤ f → x.testBit f = true → ∀ g, y.testBit g = true → H f g) → pf_sd z' H R L M ∧ ∀ g, r.testBit g = true → acc.testBit g = true ∨ ∃ f, k ≤ f ∧ x.testBit f = true ∧ R f g) ∧ (pf_Fi z' = pf_Fi z → (∀ g, r.testBit g = true ↔ acc.testBit g = true ∨ ∃ f, k ≤ f ∧ x.testBit f = true ∧ pf_b z.2.1 f g) ∧ ∀ f, k ≤ f → x.testBit f = true → ∀ g, y.testBit g = true → pf_b z.1 f g) := by
  intro d
  induction d with
  | zero =>
    intro k F acc fo z w hk hF hn hm ok ha
    obtain ⟨F, rfl⟩ : ∃ G, F = G + 1 := ⟨F - 1, by omega⟩
    refine ⟨acc, fa_st w 211 s (acc : Int), z, fo, ?_, ha, ?_, pf_ch_refl fo ok, fa_st_eq _ _ _ _, fun i j p q r => fa_st_ne r, fun H R L M a b => ⟨a, fun g h => Or.inl h⟩, fun _ => ⟨fun g => ⟨Or.inl, fun h => ?_⟩, fun f p q => ?_⟩⟩
    · unfold fm_Mod_looksAtSite_l40 fm_Mod_functions
      rw [hn, pb_wr (by omega), pb_wr (by omega), if_pos (by omega), pb_ix hs (by omega)]
      rfl
    · obtain ⟨m1, m2, m3, m4, m5⟩ := hm
      exact ⟨fun v hv => (fa_st_ne (by omega)).trans (m1 v hv), fun v hv => (fa_st_ne (by omega)).trans (m2 v hv), (fa_st_ne (by omega)).trans m3, (fa_st_ne (by omega)).trans m4, (fa_st_ne (by omega)).trans m5⟩
    · rcases h with h | ⟨f, p, q, _⟩
      · exact h
      · have := pf_tb_lt hx q; omega
    · have := pf_tb_lt hx q; omega
  | succ d ih =>
    intro k F acc fo z w hk hF hn hm ok ha
    obtain ⟨F, rfl⟩ : ∃ G, F = G + 1 := ⟨F - 1, by omega⟩
    unfold fm_Mod_looksAtSite_l40 fm_Mod_functions
    rw [hn, pb_wr (by omega), pb_wr (by omega), if_neg (by omega), pf_hd (pf_lt24 (pf_two h24 hx)) (by omega)]
    have nx : ((k : Nat) : Int) + 1 = ((k + 1 : Nat) : Int) := by omega
    cases e : x.testBit k with
    | false =>
      rw [if_neg (by decide)]
      dsimp only [fa_let]
      rw [nx]
      obtain ⟨r, w', z', fo', q1, q2, q3, q4, q5, q6, q7, q8⟩ := ih (k + 1) F acc fo z w (by omega) (by omega) hn hm ok ha
      have up : ∀ f, k ≤ f → x.testBit f = true → k + 1 ≤ f := fun f p q => by
        have : f ≠ k := fun h => by rw [h, e] at q; cases q
        omega
      refine ⟨r, w', z', fo', q1, q2, q3, q4, q5, q6, fun H R L M a b => ?_, fun h => ?_⟩
      · obtain ⟨c1, c2⟩ := q7 H R L M a (fun f p => b f (by omega))
        refine ⟨c1, fun g h => ?_⟩
        rcases c2 g h with c | ⟨f, p, q⟩
        · exact Or.inl c
        · exact Or.inr ⟨f, by omega, q⟩
      · obtain ⟨c1, c2⟩ := q8 h
        refine ⟨fun g => (c1 g).trans ⟨fun c => ?_, fun c => ?_⟩, fun f p q => c2 f (up f p q) q⟩
        · rcases c with c | ⟨f, p, q⟩
          · exact Or.inl c
          · exact Or.inr ⟨f, by omega, q⟩
        · rcases c with c | ⟨f, p, q⟩
          · exact Or.inl c
          · exact Or.inr ⟨f, up f p q.1, q⟩
    | true =>
      rw [if_pos rfl, pb_ix (k := k) (n := 124) (by omega) (by omega)]
      obtain ⟨fo1, a1, a2, a3⟩ := pf_moreH h24 hm ok (show k < 124 by omega) hy
      dsimp only [fa_let, fa_bd, Option.bind_some]
      rw [a1]
      dsimp only [Option.bind_some]
      generalize hw1 : fa_st (fa_st w 181 55 (fo1 : Int)) 207 k ((z.1 k ||| y : Nat) : Int) = w1 at a2
      have fr : ∀ i j, i ≠ 207 → ¬ (i = 181 ∧ j = 55) → w1 i j = w i j := fun i j p q => by
        rw [← hw1, fa_st_ne (by omega), fa_st_ne (by omega)]
      rw [pb_ix (k := k) (n := 24) (by omega) (by omega)]
      dsimp only [Option.bind_some]
      rw [nx, a2.2.1 k (by omega), pb_or (pf_lt24 (pf_two h24 ha)) (pf_lt24 (pf_two h24 (ok.2.1 k)))]
      have hor := Nat.or_lt_two_pow ha (ok.2.1 k)
      obtain ⟨r, w', z', fo', q1, q2, q3, q4, q5, q6, q7, q8⟩ := ih (k + 1) F (acc ||| z.2.1 k) fo1 _ w1 (by omega) (by omega) (by rw [fr _ _ (by omega) (by omega), fr _ _ (by omega) (by omega)]; exact hn) a2 a3.1 hor
      refine ⟨r, w', z', fo', q1, q2, q3, pf_ch_tr a3 q4, q5, fun i j p q u => (q6 i j p q u).trans (fr i j p q), fun H R L M a b => ?_, fun h => ?_⟩
      · obtain ⟨s1, s2, s3, s4⟩ := a
        obtain ⟨c1, c2⟩ := q7 H R L M ⟨fun v f hb => by
          dsimp only at hb
          by_cases ev : v = k
          · rw [ev, pu_set_eq, Nat.testBit_or] at hb
            rw [ev]
            cases ez : (z.1 k).testBit f with
            | true => exact s1 k f ez
            | false =>
              rw [ez, Bool.false_or] at hb
              exact b k (Nat.le_refl _) e f hb
          · rw [pu_set_ne _ _ ev] at hb
            exact s1 v f hb, s2, s3, s4⟩ (fun f p => b f (by omega))
        refine ⟨c1, fun g hg => ?_⟩
        rcases c2 g hg with c | ⟨f, p, q⟩
        · rw [Nat.testBit_or] at c
          cases ea : acc.testBit g with
          | true => exact Or.inl rfl
          | false =>
            rw [ea, Bool.false_or] at c
            exact Or.inr ⟨k, Nat.le_refl _, e, s2 k g c⟩
        · exact Or.inr ⟨f, by omega, q⟩
      · have e1 : pf_Fi (pu_set z.1 k (z.1 k ||| y), z.2) = pf_Fi z := by
          have := q4.2.2.1
          have := a3.2.2.1
          omega
        have e2 := a3.2.2.2 e1
        obtain ⟨c1, c2⟩ := q8 (by rw [e1]; exact h)
        have e3 : z.1 k ||| y = z.1 k := by
          have := congrFun (congrArg Prod.fst e2) k
          dsimp only at this
          rw [pu_set_eq] at this
          exact this
        rw [e2] at c2
        refine ⟨fun g => (c1 g).trans ⟨fun c => ?_, fun c => ?_⟩, fun f p q g hg => ?_⟩
        · rcases c with c | ⟨f, p, q⟩
          · rw [Nat.testBit_or] at c
            cases ea : acc.testBit g with
            | true => exact Or.inl rfl
            | false =>
              rw [ea, Bool.false_or] at c
              exact Or.inr ⟨k, Nat.le_refl _, e, c⟩
          · exact Or.inr ⟨f, by omega, q⟩
        · rw [Nat.testBit_or]
          rcases c with c | ⟨f, p, q, u⟩
          · rw [c]; exact Or.inl rfl
          · by_cases ef : f = k
            · rw [ef] at u
              left
              rw [show (z.2.1 k).testBit g = true from u, Bool.or_true]
            · exact Or.inr ⟨f, by omega, q, u⟩
        · by_cases ef : f = k
          · rw [ef]
            exact pf_or_sub e3 hg
          · exact c2 f (by omega) q g hg
