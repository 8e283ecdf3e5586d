/-! read(), by the class -/
theorem pf_bd_eq {A B C : Type} (a : A) (b : B) (f : A → B → Option C) : fa_bd (some (a, b)) f = f a b := rfl
theorem pf_rc_eq (o : Nat) (w : fa_W) : fm_Row_clear o w = fa_st w o 1 0 := rfl
theorem px_sK_sc (z : Int) : px_sK (fa_sc z) := by
  unfold fa_sc
  by_cases h : z = 0
  · rw [if_pos h]; exact Or.inl rfl
  · rw [if_neg h]; exact Or.inr rfl
theorem px_read_bad {c : Nat → Int} {n z : Nat} {w : fa_W} (ht : px_tx c n w) (h : ps_all c n false 9 [] ps_S0 = some (.error z)) : ∃ w', fm_Face_read w = some (3, 0, w') ∧ w' 0 8 = (z : Int) ∧ w' 1 1 = 0 ∧ ∀ i j, (i < 7 ∨ 36 < i) → ¬ (i = 0 ∧ j = 8) → ¬ (i = 1 ∧ j = 1) → w' i j = w i j := by
  obtain ⟨q, e1, hQ⟩ := px_parse_R ht
  rw [h] at hQ
  obtain ⟨q1, q2, q3⟩ := hQ
  obtain ⟨a, w1⟩ := q
  dsimp only at q1 q3
  refine ⟨fm_Row_clear 1 (fa_st w1 0 8 a), ?_, ?_, by rw [pf_rc_eq, fa_st_eq], fun i j h1 h2 h3 => ?_⟩
  · unfold fm_Face_read
    rw [e1]
    rw [pf_bd_eq, pf_let_eq, pf_let_eq]
    have e8 : fm_Row_clear 1 (fa_st w1 0 8 a) 0 8 = (z : Int) := by
      show fa_st (fa_st w1 0 8 a) 1 1 0 0 8 = _
      rw [fa_st_ne (by omega), fa_st_eq]; exact q1
    rw [e8, pb_wr (by omega), if_neg (by omega)]
  · show fa_st (fa_st w1 0 8 a) 1 1 0 0 8 = _
    rw [fa_st_ne (by omega), fa_st_eq]; exact q1
  · show fa_st (fa_st w1 0 8 a) 1 1 0 i j = _
    rw [fa_st_ne (by omega), fa_st_ne (by omega)]
    exact q3 i j h1
theorem px_adopt (w : fa_W) : ∃ w', fm_Face_adopt w = (w' (fa_rf (fa_sc (w 0 7)) 0) 14, w') ∧ w' 0 6 = w 0 7 ∧ w' 0 7 = w 0 6 ∧ w' 3 1 = 0 ∧ w' 44 5 = -1 ∧ ∀ i j, ¬ (i = 0 ∧ (j = 6 ∨ j = 7)) → ¬ (i = 3 ∧ j = 1) → ¬ (i = 44 ∧ j = 5) → w' i j = w i j := by
  obtain ⟨w2, e2⟩ : ∃ x, x = fm_Machine_forget (fm_Row_clear 3 (fa_st (fa_st w 0 6 (w 0 7)) 0 7 (w 0 6))) := ⟨_, rfl⟩
  have c : ∀ i j, w2 i j = fa_st (fa_st (fa_st (fa_st w 0 6 (w 0 7)) 0 7 (w 0 6)) 3 1 0) 44 5 (-1) i j := fun i j => by rw [e2]; rfl
  have c6 : w2 0 6 = w 0 7 := by rw [c, fa_st_ne (by omega), fa_st_ne (by omega), fa_st_ne (by omega), fa_st_eq]
  refine ⟨w2, ?_, c6, ?_, ?_, ?_, fun i j h1 h2 h3 => ?_⟩
  · unfold fm_Face_adopt
    rw [pf_let_eq, pf_let_eq, pf_let_eq, pf_let_eq, ← e2, c6]
  · rw [c, fa_st_ne (by omega), fa_st_ne (by omega), fa_st_eq]
  · rw [c, fa_st_ne (by omega), fa_st_eq]
  · rw [c, fa_st_eq]
  · rw [c, fa_st_ne (by omega), fa_st_ne (by omega), fa_st_ne (by omega), fa_st_ne (by omega)]
theorem px_read_ok {c : Nat → Int} {n : Nat} {gs : ps_G} {t : pt_T} {s : ps_S} {w : fa_W} (ht : px_tx c n w) (h : ps_all c n false 9 [] ps_S0 = some (.ok (gs, t, s))) : pn_V (pk_rnG gs.length gs) (pk_rn gs.length t) s.2.2.1 s.2.2.2.1.length s.2.2.2.2.2.1 s.2.2.2.2.2.2 ∧ ∀ (fb : Nat → pt_T) (sb : pf_sT), pf_G (pk_rnG gs.length gs) (pk_rn gs.length t) s.2.2.1 s.2.2.2.1.length s.2.2.2.2.2.1 fb sb → ∃ w', (((∃ r, pv_P r (pk_rnG gs.length gs) (pk_rn gs.length t)) ∧ fm_Face_read w = some (0, (((pk_rnG gs.length gs).length + s.2.2.1 : Nat) : Int), w') ∧ (w' 0 6 = w 0 7 ∧ w' 0 7 = w 0 6 ∧ w' 3 1 = 0 ∧ w' 44 5 = -1) ∧ ∃ os mk, px_SC (fa_sc (w 0 7)) (pk_rnG gs.length gs) (pk_rn gs.length t) s.2.2.1 s.2.2.2.1.length s.2.2.2.2.2.1 s.2.2.2.2.2.2 s.2.2.2.1 os fb sb mk w') ∨ ((¬ ∃ r, pv_P r (pk_rnG gs.length gs) (pk_rn gs.length t)) ∧ fm_Face_read w = some (4, 0, w') ∧ (w' 0 6 = w 0 6 ∧ w' 0 7 = w 0 7 ∧ w' 3 1 = w 3 1 ∧ w' 44 5 = w 44 5))) ∧ w' 0 8 = -1 ∧ w' 1 1 = 0 ∧ ∀ i j, (i < 7 ∨ 36 < i) → ¬ (i = 0 ∧ 6 ≤ j ∧ j ≤ 8) → ¬ (i = 1 ∧ j = 1) → ¬ (i = 3 ∧ j = 1) → ¬ (i = 44 ∧ j = 5) → (i < fa_sc (w 0 7) + 1 ∨ fa_sc (w 0 7) + 62 < i) → w' i j = w i j := by
  obtain ⟨q, e1, hQ⟩ := px_parse_R ht
  rw [h] at hQ
  obtain ⟨a, w1⟩ := q
  have q1 : a = -1 := hQ.1
  have q3 : px_fo w w1 := hQ.2.1
  have hs := px_sK_sc (w 0 7)
  obtain ⟨hp, hto, hFo, hGo, hoe, r0, r1, r2, r3⟩ := px_sK_all hs
  -- the world after the reading
  obtain ⟨w2, e2⟩ : ∃ x, x = fm_Row_clear 1 (fa_st w1 0 8 a) := ⟨_, rfl⟩
  have c2 : ∀ i j, w2 i j = fa_st (fa_st w1 0 8 a) 1 1 0 i j := fun i j => by rw [e2]; rfl
  have f2 : ∀ i j, ¬ (i = 0 ∧ j = 8) → ¬ (i = 1 ∧ j = 1) → w2 i j = w1 i j := fun i j h1 h2 => by rw [c2, fa_st_ne (by omega), fa_st_ne (by omega)]
  have e8 : w2 0 8 = -1 := by rw [c2, fa_st_ne (by omega), fa_st_eq]; exact q1
  have e11 : w2 1 1 = 0 := by rw [c2, fa_st_eq]
  have g2 : ∀ i j, (i < 7 ∨ 36 < i) → ¬ (i = 0 ∧ j = 8) → ¬ (i = 1 ∧ j = 1) → w2 i j = w i j := fun i j h0 h1 h2 => (f2 i j h1 h2).trans (q3 i j h0)
  have e07 : w2 0 7 = w 0 7 := g2 0 7 (by omega) (by omega) (by omega)
  have e06 : w2 0 6 = w 0 6 := g2 0 6 (by omega) (by omega) (by omega)
  obtain ⟨sc, hsc⟩ : ∃ x, x = fa_sc (w 0 7) := ⟨_, rfl⟩
  rw [← hsc] at hs hp hto hFo hGo hoe r0 r1 r2 r3 ⊢
  obtain ⟨w3, os, e3, f3, hV, hX⟩ := pa_read hoe ht.2.1 hQ w2 (fun i j p1 p2 => f2 i j (by omega) (by omega))
  refine ⟨hV, fun fb sb hG => ?_⟩
  have sc55 : 55 ≤ sc := by rcases hs with z | z <;> omega
  obtain ⟨b, w4, e4, t4, n4, f4⟩ := px_settle hs hV hG hX
  have k07 : w3 0 7 = w 0 7 := (f3 _ _ (by omega)).trans e07
  have start : fm_Face_read w = (if b = true then some (0, (fm_Face_adopt w4).1, (fm_Face_adopt w4).2) else some (4, 0, w4)) := by
    unfold fm_Face_read
    rw [e1]
    rw [pf_bd_eq, pf_let_eq, pf_let_eq, ← e2, e8, pb_wr1, if_pos rfl, e07, ← hsc, r0, e3, Option.bind_some, k07, ← hsc, e4, pf_bd_eq]
    rfl
  have fr4 : ∀ i j, (i < 7 ∨ 36 < i) → ¬ (i = 0 ∧ j = 8) → ¬ (i = 1 ∧ j = 1) → (i < sc + 1 ∨ sc + 62 < i) → w4 i j = w i j := fun i j h0 h1 h2 h3 => by
    rw [f4 i j (by omega), f3 i j (by omega)]; exact g2 i j h0 h1 h2
  have z8 : w4 0 8 = -1 := by rw [f4 _ _ (by omega), f3 _ _ (by omega)]; exact e8
  have z11 : w4 1 1 = 0 := by rw [f4 _ _ (by omega), f3 _ _ (by omega)]; exact e11
  cases b with
  | false =>
    refine ⟨w4, Or.inr ⟨n4 rfl, start, fr4 _ _ (by omega) (by omega) (by omega) (by omega), fr4 _ _ (by omega) (by omega) (by omega) (by omega), fr4 _ _ (by omega) (by omega) (by omega) (by omega), fr4 _ _ (by omega) (by omega) (by omega) (by omega)⟩, z8, z11, fun i j h0 h1 h2 h3 h3' h4 => fr4 i j h0 (by omega) h2 h4⟩
  | true =>
    obtain ⟨hr, mk, SC⟩ := t4 rfl
    obtain ⟨w5, e5, a6, a7, a3, a45, f5⟩ := px_adopt w4
    have m7 : w4 0 7 = w 0 7 := fr4 _ _ (by omega) (by omega) (by omega) (by omega)
    have m6 : w4 0 6 = w 0 6 := fr4 _ _ (by omega) (by omega) (by omega) (by omega)
    have SC5 := px_SC_ob hV (fun i j p1 p2 => f5 i j (by omega) (by omega) (by omega)) SC
    refine ⟨w5, Or.inl ⟨hr, ?_, ⟨a6.trans m7, a7.trans m6, a3, a45⟩, os, mk, SC5⟩, (f5 _ _ (by omega) (by omega) (by omega)).trans z8, (f5 _ _ (by omega) (by omega) (by omega)).trans z11, fun i j h0 h1 h2 h3 h3' h4 => (f5 i j (by omega) h3 h3').trans (fr4 i j h0 (by omega) h2 h4)⟩
    rw [start, if_pos rfl, e5, m7, ← hsc, r0]
    show some ((0 : Int), w5 (sc + 1) 14, w5) = _
    rw [SC5.1.2.1.2.1]
