/-! feed() and end() in the law -/
def lw_bt (a : Int) (s : Nat) : Nat := (fa_iand (fa_iushr a (s : Int)) 255).toNat
theorem lw_bt_ok (a : Int) (s : Nat) (hs : s = 24 ∨ s = 16 ∨ s = 8 ∨ s = 0) : lw_bt a s < 256 ∧ fa_iand (fa_iushr a (s : Int)) 255 = ((lw_bt a s : Nat) : Int) ∧ fa_i2b (fa_i2b (fa_ishr a (s : Int))) = pm_sb ((lw_bt a s : Nat) : Int) := by
  obtain ⟨x, h1, h2, h3⟩ := lw_fb a s hs
  have e : lw_bt a s = x := by unfold lw_bt; rw [h2]; rfl
  rw [e]
  exact ⟨h1, h2, h3⟩
def lw_b4 (a : Int) : List Nat := [lw_bt a 24, lw_bt a 16, lw_bt a 8, lw_bt a 0]
theorem lw_feedN {a : Int} {l : List Nat} {w : fa_W} (h : px_RL 1 l w) (hl : l.length + 4 ≤ 400) : ∃ w', fm_Face_feedNumber a w = some w' ∧ px_RL 1 (l ++ lw_b4 a) w' ∧ ∀ i j, i ≠ 1 → i ≠ 2 → w' i j = w i j := by
  have r1 : fa_rf 1 0 = 1 + 1 := by decide +kernel
  have c1 : fa_cp 1 = 400 := by decide +kernel
  obtain ⟨FU, hFU⟩ : ∃ FU, fa_FU = FU + 5 := ⟨fa_FU - 5, by unfold fa_FU; omega⟩
  have step : ∀ (s : Nat) (l1 : List Nat) (w1 : fa_W) (F : Nat), (s = 24 ∨ s = 16 ∨ s = 8 ∨ s = 0) → px_RL 1 l1 w1 → l1.length < 400 → ∃ w2, fm_Face_feedNumber_l3 a (F + 1) (s : Int) w1 = fm_Face_feedNumber_l3 a F ((s : Int) + (-8)) w2 ∧ px_RL 1 (l1 ++ [lw_bt a s]) w2 ∧ ∀ i j, i ≠ 1 → i ≠ 2 → w2 i j = w1 i j := fun s l1 w1 F hs h1 hl1 => by
    obtain ⟨b1, b2, _⟩ := lw_bt_ok a s hs
    obtain ⟨q1, q2⟩ := px_RL_add r1 h1 (by rw [c1]; exact hl1) (lw_bt a s)
    refine ⟨_, ?_, q1, fun i j p q => q2 i j p (by omega)⟩
    conv => lhs; unfold fm_Face_feedNumber_l3
    rw [pb_wr (by omega), if_neg (by omega), pf_let_eq, pf_let_eq, b2]
  obtain ⟨w1, p1, p2, p3⟩ := step 24 l w (FU + 4) (by omega) h (by omega)
  obtain ⟨w2, q1, q2, q3⟩ := step 16 _ w1 (FU + 3) (by omega) p2 (by rw [List.length_append, List.length_singleton]; omega)
  obtain ⟨w3, s1, s2, s3⟩ := step 8 _ w2 (FU + 2) (by omega) q2 (by simp only [List.length_append, List.length_singleton]; omega)
  obtain ⟨w4, t1, t2, t3⟩ := step 0 _ w3 (FU + 1) (by omega) s2 (by simp only [List.length_append, List.length_singleton]; omega)
  refine ⟨w4, ?_, ?_, fun i j p q => by rw [t3 i j p q, s3 i j p q, q3 i j p q, p3 i j p q]⟩
  · unfold fm_Face_feedNumber
    rw [hFU]
    refine p1.trans (q1.trans (s1.trans (t1.trans ?_)))
    unfold fm_Face_feedNumber_l3
    rw [if_pos (by decide)]
  · rw [show l ++ lw_b4 a = l ++ [lw_bt a 24] ++ [lw_bt a 16] ++ [lw_bt a 8] ++ [lw_bt a 0] by simp only [List.append_assoc]; rfl]
    exact t2
def lw_av (a1 a2 a3 a4 a5 : Int) (q : Nat) : Int := if q = 0 then a1 else if q = 1 then a2 else if q = 2 then a3 else if q = 3 then a4 else a5
def lw_b20 (a1 a2 a3 a4 a5 : Int) : List Nat := lw_b4 a1 ++ (lw_b4 a2 ++ (lw_b4 a3 ++ (lw_b4 a4 ++ lw_b4 a5)))
theorem lw_b20_at (a1 a2 a3 a4 a5 : Int) : ∀ k : Fin 20, (lw_b20 a1 a2 a3 a4 a5)[k.val]? = some (lw_bt (lw_av a1 a2 a3 a4 a5 (k.val / 4)) (24 - 8 * (k.val % 4))) := by
  intro ⟨k, hk⟩
  have : k = 0 ∨ k = 1 ∨ k = 2 ∨ k = 3 ∨ k = 4 ∨ k = 5 ∨ k = 6 ∨ k = 7 ∨ k = 8 ∨ k = 9 ∨ k = 10 ∨ k = 11 ∨ k = 12 ∨ k = 13 ∨ k = 14 ∨ k = 15 ∨ k = 16 ∨ k = 17 ∨ k = 18 ∨ k = 19 := by omega
  rcases this with h | h | h | h | h | h | h | h | h | h | h | h | h | h | h | h | h | h | h | h <;> subst h <;> simp [lw_b20, lw_b4, lw_av]
theorem lw_feedM {a1 a2 a3 a4 a5 : Int} {n : Nat} (hn : n + 20 ≤ 400) : ∀ (d k F : Nat) (w : fa_W), k + d = 20 → d < F → w 181 2 = (n : Int) → (∀ q, q < 5 → w 183 q = lw_av a1 a2 a3 a4 a5 q) → ∃ w', fm_Mod_feed_l60 a1 a2 a3 a4 a5 F (k : Int) w = some (((n + 20 : Nat) : Int), w') ∧ w' 181 2 = ((n + 20 : Nat) : Int) ∧ (∀ j, k ≤ j → j < 20 → ∀ x, (lw_b20 a1 a2 a3 a4 a5)[j]? = some x → w' 182 (n + j) = pm_sb ((x : Nat) : Int)) ∧ ∀ i j, ¬ (i = 181 ∧ j = 2) → ¬ (i = 182 ∧ n + k ≤ j) → w' i j = w i j := by
  intro d
  induction d with
  | zero =>
    intro k F w hk hF h2 _
    obtain ⟨F, rfl⟩ : ∃ m, F = m + 1 := ⟨F - 1, by omega⟩
    refine ⟨fa_st w 181 2 ((w 181 2) + 20), ?_, ?_, fun j p q => by omega, fun i j p _ => fa_st_ne p⟩
    · unfold fm_Mod_feed_l60
      rw [pb_wr (by omega), if_pos (by omega), pf_let_eq, fa_st_eq, h2]
      rfl
    · rw [fa_st_eq, h2]; rfl
  | succ d ih =>
    intro k F w hk hF h2 h183
    obtain ⟨F, rfl⟩ : ∃ m, F = m + 1 := ⟨F - 1, by omega⟩
    have e4 : fa_idiv (k : Int) 4 = ((k / 4 : Nat) : Int) := pb_idiv (a := k) (b := 4) (by omega) (by omega)
    have r4 : fa_irem (k : Int) 4 = ((k % 4 : Nat) : Int) := pb_irem (a := k) (b := 4) (by omega) (by omega)
    have m4 : k % 4 < 4 := Nat.mod_lt _ (by omega)
    have d4 : k / 4 < 5 := by omega
    have es : (24 : Int) - 8 * ((k % 4 : Nat) : Int) = ((24 - 8 * (k % 4) : Nat) : Int) := by omega
    obtain ⟨b1, _, b3⟩ := lw_bt_ok (lw_av a1 a2 a3 a4 a5 (k / 4)) (24 - 8 * (k % 4)) (by omega)
    obtain ⟨w', q1, q2, q3, q4⟩ := ih (k + 1) F (fa_st w 182 (n + k) (pm_sb ((lw_bt (lw_av a1 a2 a3 a4 a5 (k / 4)) (24 - 8 * (k % 4)) : Nat) : Int))) (by omega) (by omega) (by rw [fa_st_ne (by omega)]; exact h2) (fun q hq => by rw [fa_st_ne (by omega)]; exact h183 q hq)
    refine ⟨w', ?_, q2, fun j p q x hx => ?_, fun i j p q => ?_⟩
    · conv => lhs; unfold fm_Mod_feed_l60
      rw [pb_wr (by omega), if_neg (by omega), e4, pb_ix d4 (by omega), Option.bind_some, h2, show (n : Int) + (k : Int) = ((n + k : Nat) : Int) by omega, pb_ix (show n + k < 400 by omega) (by omega), Option.bind_some, pf_let_eq, pf_let_eq, h183 _ d4, r4, es, b3]
      exact q1
    · by_cases y : j = k
      · subst y
        have ea := lw_b20_at a1 a2 a3 a4 a5 ⟨j, by omega⟩
        dsimp only at ea
        rw [ea] at hx
        rw [q4 182 (n + j) (by omega) (by omega), fa_st_eq, Option.some.inj hx]
      · exact q3 j (by omega) q x hx
    · rw [q4 i j p (by omega), fa_st_ne (by omega)]
theorem lw_feed {w : fa_W} {a1 a2 a3 a4 a5 : Int} (h : lw_I w) : lw_V (fm_Face_feed a1 a2 a3 a4 a5 w) (fm_Mod_feed a1 a2 a3 a4 a5) := by
  have h0 := h
  obtain ⟨gs, t, la, li, si, nd, fb, sb, mk, bs, tp, flt, hP, hB, hX, hM⟩ := h
  have hV := hP.1
  have hG := hP.2.1
  obtain ⟨hb1, hb2, hb3, hb4⟩ := id hB
  have s62 := lw_s62 w
  have X4 := hX.2.2.2.1
  have e20 : ∀ w1 : fa_W, fm_Row_size 1 w1 = w1 1 1 := fun _ => rfl
  by_cases z : tp.length + 20 ≤ 400
  · obtain ⟨w1, p1, p2, p3⟩ := lw_feedN (a := a1) X4 (by omega)
    obtain ⟨w2, q1, q2, q3⟩ := lw_feedN (a := a2) p2 (by rw [List.length_append]; show _ + 4 + 4 ≤ _; omega)
    obtain ⟨w3, r1, r2, r3⟩ := lw_feedN (a := a3) q2 (by rw [List.length_append, List.length_append]; show _ + 4 + 4 + 4 ≤ _; omega)
    obtain ⟨w4, s1, s2, s3⟩ := lw_feedN (a := a4) r2 (by rw [List.length_append, List.length_append, List.length_append]; show _ + 4 + 4 + 4 + 4 ≤ _; omega)
    obtain ⟨w5, t1, t2, t3⟩ := lw_feedN (a := a5) s2 (by rw [List.length_append, List.length_append, List.length_append, List.length_append]; show _ + 4 + 4 + 4 + 4 + 4 ≤ _; omega)
    have f5 : ∀ i j, i ≠ 1 → i ≠ 2 → w5 i j = w i j := fun i j p q => by rw [t3 i j p q, s3 i j p q, r3 i j p q, q3 i j p q, p3 i j p q]
    have T : px_RL 1 (tp ++ lw_b20 a1 a2 a3 a4 a5) w5 := by
      rw [show tp ++ lw_b20 a1 a2 a3 a4 a5 = tp ++ lw_b4 a1 ++ lw_b4 a2 ++ lw_b4 a3 ++ lw_b4 a4 ++ lw_b4 a5 by unfold lw_b20; simp only [List.append_assoc]]
      exact t2
    have l20 : (lw_b20 a1 a2 a3 a4 a5).length = 20 := rfl
    have T1 : w5 1 1 = ((tp.length + 20 : Nat) : Int) := by rw [T.1, List.length_append, l20]
    have hF : fm_Face_feed a1 a2 a3 a4 a5 w = some (((tp.length + 20 : Nat) : Int), w5) := by
      unfold fm_Face_feed
      rw [e20, X4.1, show (tp.length : Int) + 20 = ((tp.length + 20 : Nat) : Int) by omega, pb_wr (by omega), if_pos (by omega), p1, Option.bind_some, q1, Option.bind_some, r1, Option.bind_some, s1, Option.bind_some, t1, Option.bind_some, e20, T1]
    obtain ⟨w6, hw6⟩ : ∃ w6, w6 = fa_st (fa_st (fa_st (fa_st (fa_st (fa_st w5 181 0 0) 183 0 a1) 183 1 a2) 183 2 a3) 183 3 a4) 183 4 a5 := ⟨_, rfl⟩
    have f6 : ∀ i j, i ≠ 183 → ¬ (i = 181 ∧ j = 0) → w6 i j = w5 i j := fun i j p q => by
      rw [hw6, fa_st_ne (by omega), fa_st_ne (by omega), fa_st_ne (by omega), fa_st_ne (by omega), fa_st_ne (by omega), fa_st_ne q]
    have h6 : ∀ q, q < 5 → w6 183 q = lw_av a1 a2 a3 a4 a5 q := fun q hq => by
      have : q = 0 ∨ q = 1 ∨ q = 2 ∨ q = 3 ∨ q = 4 := by omega
      rcases this with g | g | g | g | g <;> subst g <;> rw [hw6] <;> rfl
    have h2 : w6 181 2 = (tp.length : Int) := by rw [f6 _ _ (by omega) (by omega), f5 _ _ (by omega) (by omega)]; exact hM.2.2.2.1.1
    obtain ⟨w7, m1, m2, m3, m4⟩ := lw_feedM (a1 := a1) (a2 := a2) (a3 := a3) (a4 := a4) (a5 := a5) z 20 0 fa_FU w6 (by omega) (by unfold fa_FU; omega) h2 h6
    have f7 : ∀ i j, i ≠ 1 → i ≠ 2 → i ≠ 182 → i ≠ 183 → ¬ (i = 181 ∧ (j = 0 ∨ j = 2)) → w7 i j = w i j := fun i j p1 p2 p3 p4 p5 => by
      rw [m4 i j (by omega) (by omega), f6 _ _ (by omega) (by omega), f5 _ _ p1 p2]
    refine ⟨_, w5, _, w7, hF, ?_, rfl, gs, t, la, li, si, nd, fb, sb, mk, bs, tp ++ lw_b20 a1 a2 a3 a4 a5, flt, hP, ⟨hb1, by rw [List.length_append, l20]; exact z, fun x hx => ?_, hb4⟩, ⟨?_, ?_, ?_, ?_, ?_, ?_⟩, ?_⟩
    · unfold fm_Mod_feed
      have i0 : fa_ix 0 5 = some 0 := pb_ix (k := 0) (n := 5) (by omega) (by omega)
      have i1 : fa_ix 1 5 = some 1 := pb_ix (k := 1) (n := 5) (by omega) (by omega)
      have i2 : fa_ix 2 5 = some 2 := pb_ix (k := 2) (n := 5) (by omega) (by omega)
      have i3 : fa_ix 3 5 = some 3 := pb_ix (k := 3) (n := 5) (by omega) (by omega)
      have i4 : fa_ix 4 5 = some 4 := pb_ix (k := 4) (n := 5) (by omega) (by omega)
      have h2' : fa_st w5 181 0 0 181 2 = (tp.length : Int) := by rw [fa_st_ne (by omega), f5 _ _ (by omega) (by omega)]; exact hM.2.2.2.1.1
      rw [pf_let_eq, h2', show (tp.length : Int) + 20 = ((tp.length + 20 : Nat) : Int) by omega, pb_wr (by omega), if_pos (by omega), i0, Option.bind_some, pf_let_eq, i1, Option.bind_some, pf_let_eq, i2, Option.bind_some, pf_let_eq, i3, Option.bind_some, pf_let_eq, i4, Option.bind_some, pf_let_eq, ← hw6]
      exact m1
    · rcases List.mem_append.mp hx with q | q
      · exact hb3 x q
      · obtain ⟨k, hk1, hk2⟩ := List.getElem_of_mem q
        have ea := lw_b20_at a1 a2 a3 a4 a5 ⟨k, by rw [← l20]; exact hk1⟩
        dsimp only at ea
        rw [List.getElem?_eq_getElem hk1, hk2] at ea
        rw [Option.some.inj ea]
        exact (lw_bt_ok _ _ (by omega)).1
    · obtain ⟨ins, os, hS⟩ := hX.1
      refine ⟨ins, os, ?_⟩
      rw [f7 0 6 (by omega) (by omega) (by omega) (by omega) (by omega)]
      exact px_SC_ob hV (fun i j p q => f7 i j (by omega) (by omega) (by omega) (by omega) (by omega)) hS
    · rw [f7 0 6 (by omega) (by omega) (by omega) (by omega) (by omega), f7 0 7 (by omega) (by omega) (by omega) (by omega) (by omega)]
      exact hX.2.1
    · exact lw_RL hX.2.2.1 (f7 _ _ (by omega) (by omega) (by omega) (by omega) (by omega)) (fun j => f7 _ _ (by omega) (by omega) (by omega) (by omega) (by omega))
    · exact lw_RL T (by rw [m4 _ _ (by omega) (by omega), f6 _ _ (by omega) (by omega)]) (fun j => by rw [m4 _ _ (by omega) (by omega), f6 _ _ (by omega) (by omega)])
    · rw [f7 _ _ (by omega) (by omega) (by omega) (by omega) (by omega)]; exact hX.2.2.2.2.1
    · exact ⟨by rw [f7 _ _ (by omega) (by omega) (by omega) (by omega) (by omega)]; exact hX.2.2.2.2.2.1, lw_C_ob hX.2.2.2.2.2.2 (fun i j p q => f7 i j (by omega) (by omega) (by omega) (by omega) (by omega))⟩
    · obtain ⟨h1, h2, h3, h4, h5⟩ := hM
      refine ⟨lw_IM_ob hV hG h1 (fun i j p q _ => f7 i j (by omega) (by omega) (by omega) (by omega) (by omega)) (fun j p q => f7 _ _ (by omega) (by omega) (by omega) (by omega) (by omega)), pm_KT_ob (fun j => f7 _ _ (by omega) (by omega) (by omega) (by omega) (by omega)) (f7 _ _ (by omega) (by omega) (by omega) (by omega) (by omega)) h2, ⟨(f7 _ _ (by omega) (by omega) (by omega) (by omega) (by omega)).trans h3.1, fun i x q => (f7 _ _ (by omega) (by omega) (by omega) (by omega) (by omega)).trans (h3.2 i x q)⟩, ⟨by rw [m2, List.length_append, l20], fun i x hx => ?_⟩, (f7 _ _ (by omega) (by omega) (by omega) (by omega) (by omega)).trans h5⟩
      by_cases y : i < tp.length
      · rw [List.getElem?_append_left y] at hx
        rw [m4 182 i (by omega) (by omega), f6 _ _ (by omega) (by omega), f5 _ _ (by omega) (by omega)]
        exact h4.2 i x hx
      · rw [List.getElem?_append_right (by omega)] at hx
        have hlt : i - tp.length < 20 := by
          by_cases u : i - tp.length < 20
          · exact u
          · rw [List.getElem?_eq_none (by rw [l20]; omega)] at hx; cases hx
        have := m3 (i - tp.length) (by omega) hlt x hx
        rw [show tp.length + (i - tp.length) = i by omega] at this
        exact this
  · refine ⟨-1, w, -1, fa_st w 181 0 0, ?_, ?_, rfl, lw_I_ob h0 (fun i j p _ => fa_st_ne (by omega))⟩
    · unfold fm_Face_feed
      rw [e20, X4.1, show (tp.length : Int) + 20 = ((tp.length + 20 : Nat) : Int) by omega, pb_wr (by omega), if_neg (by omega)]
    · unfold fm_Mod_feed
      rw [pf_let_eq, fa_st_ne (by omega), hM.2.2.2.1.1, show (tp.length : Int) + 20 = ((tp.length + 20 : Nat) : Int) by omega, pb_wr (by omega), if_neg (by omega)]
