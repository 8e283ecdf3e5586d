theorem px_vn_tot {w : fa_W} (a : Int) : ∀ (k F : Nat), k ≤ 21 → k < F → ∃ r, fm_Reader_variableNamed_l10 a w F ((k : Int) - 1) = some r := by
  intro k
  induction k with
  | zero =>
    intro F _ hF
    obtain ⟨F, rfl⟩ : ∃ z, F = z + 1 := ⟨F - 1, by omega⟩
    refine ⟨-1, ?_⟩
    unfold fm_Reader_variableNamed_l10
    rw [show ((0 : Nat) : Int) - 1 = -1 from rfl, pb_wr1, if_pos (by decide)]
  | succ k ih =>
    intro F hk hF
    obtain ⟨F, rfl⟩ : ∃ z, F = z + 1 := ⟨F - 1, by omega⟩
    unfold fm_Reader_variableNamed_l10
    rw [show ((k + 1 : Nat) : Int) - 1 = (k : Int) by omega, pb_wr (by omega), if_neg (by omega)]
    split
    · exact ⟨_, rfl⟩
    · obtain ⟨r, hr⟩ := ih F (by omega) (by omega)
      exact ⟨r, hr⟩
theorem px_8_D {z : Nat} {w : fa_W} (h : px_D z w) (d : Nat) : pb_ok (fm_Rparse_t (d + 1) 8 w) (fun q => px_D z q.2 ∧ px_fo w q.2) := by
  show pb_ok (fm_Reader_atom_b _ w) _
  obtain ⟨k, hk, hk2⟩ := h.2.2.1
  obtain ⟨r, hr⟩ := px_vn_tot (w := w) (w 7 6) k fa_FU hk (by unfold fa_FU; omega)
  have e3 : fa_wr (w 7 4) = 3 := by rw [h.2.1]; exact fa_wr_id (by omega) (by omega)
  unfold fm_Reader_atom_b fm_Reader_variableNamed fm_Row_size
  rw [e3, if_neg (by decide), if_neg (by decide), if_neg (by decide)]
  dsimp only [fa_let]
  rw [hk2, hr]
  dsimp only [Option.bind_some]
  rw [if_neg (by decide)]
  unfold fm_Reader_atom_j92 fm_Reader_atom_j112
  rw [e3, if_neg (by decide)]
  exact pb_some ⟨(px_fail_D h).1, (px_fail_D h).2.1⟩
theorem px_7_D {z : Nat} {w : fa_W} (h : px_D z w) (d : Nat) : pb_ok (fm_Rparse_t (d + 2) 7 w) (fun q => px_D z q.2 ∧ px_fo w q.2) := by
  show pb_ok (fm_Reader_chain_b (fun w9 => fm_Rparse_t (d + 1) 8 w9) w) _
  obtain ⟨F, hF⟩ : ∃ F, fa_FU = F + 1 := ⟨fa_FU - 1, by unfold fa_FU; omega⟩
  unfold fm_Reader_chain_b
  rw [hF]
  refine pb_bdm (px_8_D h d) (fun v w1 q => ?_)
  dsimp only at q
  have e3 : fa_wr (w1 7 4) = 3 := by rw [q.1.2.1]; exact fa_wr_id (by omega) (by omega)
  unfold fm_Reader_chain_l7 fm_Reader_startsAtom
  rw [e3, fa_wr_id (x := 0) (by omega) (by omega)]
  repeat rw [if_neg (by decide)]
  exact pb_some q
theorem px_6_D {z : Nat} {w : fa_W} (h : px_D z w) (d : Nat) : pb_ok (fm_Rparse_t (d + 3) 6 w) (fun q => px_D z q.2 ∧ px_fo w q.2) := by
  show pb_ok (fm_Reader_product_b (fun w9 => fm_Rparse_t (d + 2) 7 w9) w) _
  obtain ⟨F, hF⟩ : ∃ F, fa_FU = F + 1 := ⟨fa_FU - 1, by unfold fa_FU; omega⟩
  unfold fm_Reader_product_b
  rw [hF]
  refine pb_bdm (px_7_D h d) (fun v w1 q => ?_)
  dsimp only at q
  have e3 : fa_wr (w1 7 4) = 3 := by rw [q.1.2.1]; exact fa_wr_id (by omega) (by omega)
  unfold fm_Reader_product_l7
  rw [e3, fa_wr_id (x := 0) (by omega) (by omega), if_neg (by decide), if_neg (by decide), if_neg (by decide)]
  exact pb_some q
theorem px_5_D {z : Nat} {w : fa_W} (h : px_D z w) (d : Nat) : pb_ok (fm_Rparse_t (d + 4) 5 w) (fun q => px_D z q.2 ∧ px_fo w q.2) := by
  show pb_ok (fm_Reader_sum_b (fun w9 => fm_Rparse_t (d + 3) 6 w9) w) _
  obtain ⟨F, hF⟩ : ∃ F, fa_FU = F + 1 := ⟨fa_FU - 1, by unfold fa_FU; omega⟩
  unfold fm_Reader_sum_b
  rw [hF]
  refine pb_bdm (px_6_D h d) (fun v w1 q => ?_)
  dsimp only at q
  have e3 : fa_wr (w1 7 4) = 3 := by rw [q.1.2.1]; exact fa_wr_id (by omega) (by omega)
  unfold fm_Reader_sum_l7
  rw [e3, fa_wr_id (x := 0) (by omega) (by omega), if_neg (by decide), if_neg (by decide), if_neg (by decide)]
  exact pb_some q
theorem px_4_D {z : Nat} {w : fa_W} (h : px_D z w) (d : Nat) : pb_ok (fm_Rparse_t (d + 5) 4 w) (fun q => px_D z q.2 ∧ px_fo w q.2) := by
  show pb_ok (fm_Reader_test_b (fun w9 => fm_Rparse_t (d + 4) 5 w9) w) _
  unfold fm_Reader_test_b
  refine pb_bdm (px_5_D h d) (fun v w1 q => ?_)
  dsimp only at q
  have e3 : fa_wr (w1 7 4) = 3 := by rw [q.1.2.1]; exact fa_wr_id (by omega) (by omega)
  rw [e3, if_neg (by decide)]
  exact pb_some q
theorem px_0_D {z : Nat} {w : fa_W} (h : px_D z w) (d : Nat) : pb_ok (fm_Rparse_t (d + 6) 0 w) (fun q => px_D z q.2 ∧ px_fo w q.2) := by
  show pb_ok (fm_Reader_expression_b (fun w9 => fm_Rparse_t (d + 5) 1 w9) (fun w9 => fm_Rparse_t (d + 5) 2 w9) (fun w9 => fm_Rparse_t (d + 5) 3 w9) (fun w9 => fm_Rparse_t (d + 5) 4 w9) w) _
  have e3 : fa_wr (w 7 4) = 3 := by rw [h.2.1]; exact fa_wr_id (by omega) (by omega)
  unfold fm_Reader_expression_b
  rw [e3, if_neg (by decide), if_neg (by decide), if_neg (by decide)]
  exact pb_bdm (px_4_D h d) (fun v w1 q => pb_some q)
/-- a number is added to a row -/
theorem px_ad1 {r n : Nat} {v : Int} {w : fa_W} (hr : fa_rf r 0 = r + 1) (hn : w r 1 = (n : Int)) (hc : n < fa_cp r) : fr_add r v w r 1 = ((n + 1 : Nat) : Int) ∧ fr_add r v w (r + 1) n = v ∧ ∀ o k, ¬ (o = r ∧ k = 1) → ¬ (o = r + 1 ∧ k = n) → fr_add r v w o k = w o k := by
  rw [pb_add hn hc (by omega)]
  unfold pb_ad
  rw [hr]
  exact ⟨fa_st_eq _ _ _ _, by rw [fa_st_ne (by omega), fa_st_eq], fun o k q1 q2 => by rw [fa_st_ne q1, fa_st_ne q2]⟩
theorem px_set1 {r n k : Nat} {v : Int} {w : fa_W} (hr : fa_rf r 0 = r + 1) (hn : w r 1 = (n : Int)) (hk : k < n) (hc : n ≤ fa_cp r) : fr_set r (k : Int) v w (r + 1) k = v ∧ ∀ o j, ¬ (o = r + 1 ∧ j = k) → fr_set r (k : Int) v w o j = w o j := by
  rw [pb_set hn hk hc, hr]
  exact ⟨fa_st_eq _ _ _ _, fun o j q => fa_st_ne q⟩
def px_un (nd K v o k : Nat) : Prop := ¬ ((o = 10 ∨ o = 12 ∨ o = 14 ∨ o = 16) ∧ k = nd) ∧ ¬ (o = 18 ∧ 3 * nd ≤ k) ∧ ¬ ((o = 9 ∨ o = 11 ∨ o = 13 ∨ o = 15 ∨ o = 17) ∧ k = 1) ∧ ¬ (o = 20 ∧ k = v ∧ K = 9) ∧ ¬ (o = 24 ∧ k = v ∧ (K = 7 ∨ K = 5)) ∧ ¬ (o = 28 ∧ k = v ∧ K = 5)
theorem px_padd {nd K v st : Nat} {h a b c : Int} {w : fa_W} (hz : px_sz nd w) (hnd : nd < 100) (hst : (fa_wr a = -1 ∧ st = nd) ∨ ∃ a' : Nat, a = (a' : Int) ∧ a' < nd ∧ w 16 a' = (st : Int)) (hK : K ≤ 9) (h9 : K = 9 → v < 100) (h7 : K = 7 → v < 74) (h5 : K = 5 → v < 24) : ∃ w', fm_Program_add 8 (K : Int) (v : Int) h a b c w = ((nd : Int), w') ∧ px_N 8 w' nd K v h st a b c ∧ px_sz (nd + 1) w' ∧ (K = 9 → w' 20 v = (nd : Int)) ∧ (K = 7 ∨ K = 5 → w' 24 v = (nd : Int)) ∧ (K = 5 → w' 28 v = a) ∧ ∀ o k, px_un nd K v o k → w' o k = w o k := by
  obtain ⟨z1, z2, z3, z4, z5, z6, z7, z8, z9⟩ := hz
  have i1 := px_ad1 (r := 9) (v := (K : Int)) rfl z1 (by show nd < 100; exact hnd)
  have n2 : fr_add 9 (K : Int) w 11 1 = (nd : Int) := (i1.2.2 11 1 (by omega) (by omega)).trans z2
  have i2 := px_ad1 (r := 11) (v := (v : Int)) rfl n2 (by show nd < 100; exact hnd)
  have n3 : fr_add 11 (v : Int) (fr_add 9 (K : Int) w) 13 1 = (nd : Int) := (i2.2.2 13 1 (by omega) (by omega)).trans ((i1.2.2 13 1 (by omega) (by omega)).trans z3)
  have i3 := px_ad1 (r := 13) (v := h) rfl n3 (by show nd < 100; exact hnd)
  have a3 : ∀ o k, ¬ ((o = 9 ∨ o = 11 ∨ o = 13) ∧ k = 1) → ¬ ((o = 10 ∨ o = 12 ∨ o = 14) ∧ k = nd) → fr_add 13 h (fr_add 11 (v : Int) (fr_add 9 (K : Int) w)) o k = w o k := fun o k q1 q2 => (i3.2.2 o k (by omega) (by omega)).trans ((i2.2.2 o k (by omega) (by omega)).trans (i1.2.2 o k (by omega) (by omega)))
  have c10 : fr_add 13 h (fr_add 11 (v : Int) (fr_add 9 (K : Int) w)) 10 nd = (K : Int) := (i3.2.2 10 nd (by omega) (by omega)).trans ((i2.2.2 10 nd (by omega) (by omega)).trans i1.2.1)
  have c12 : fr_add 13 h (fr_add 11 (v : Int) (fr_add 9 (K : Int) w)) 12 nd = (v : Int) := (i3.2.2 12 nd (by omega) (by omega)).trans i2.2.1
  have c14 : fr_add 13 h (fr_add 11 (v : Int) (fr_add 9 (K : Int) w)) 14 nd = h := i3.2.1
  have s9 : fr_add 13 h (fr_add 11 (v : Int) (fr_add 9 (K : Int) w)) 9 1 = ((nd + 1 : Nat) : Int) := (i3.2.2 9 1 (by omega) (by omega)).trans ((i2.2.2 9 1 (by omega) (by omega)).trans i1.1)
  have s11 : fr_add 13 h (fr_add 11 (v : Int) (fr_add 9 (K : Int) w)) 11 1 = ((nd + 1 : Nat) : Int) := (i3.2.2 11 1 (by omega) (by omega)).trans i2.1
  have s13 : fr_add 13 h (fr_add 11 (v : Int) (fr_add 9 (K : Int) w)) 13 1 = ((nd + 1 : Nat) : Int) := i3.1
  clear i1 i2 i3 n2 n3
  unfold fm_Program_add fm_Row_size
  dsimp only [fa_let]
  rw [show fa_rf 8 0 = 9 from rfl, show fa_rf 8 1 = 11 from rfl, show fa_rf 8 2 = 13 from rfl, z1]
  generalize fr_add 13 h (fr_add 11 (v : Int) (fr_add 9 (K : Int) w)) = w3 at a3 c10 c12 c14 s9 s11 s13 ⊢
  have hs0 : (if fa_wr a = -1 then fm_Program_add_j57 8 (K : Int) (v : Int) h a b c (nd : Int) (nd : Int) w3 else fm_Program_add_j57 8 (K : Int) (v : Int) h a b c (nd : Int) (fr_at (fa_rf 8 3) a w3) w3) = fm_Program_add_j57 8 (K : Int) (v : Int) h a b c (nd : Int) (st : Int) w3 := by
    rcases hst with ⟨e1, e2⟩ | ⟨a', e1, e2, e3⟩
    · rw [if_pos e1, e2]
    · subst e1
      rw [pb_wr (by omega), if_neg (by omega), show fa_rf 8 3 = 15 from rfl, pb_at (n := nd) (by rw [a3 15 1 (by omega) (by omega)]; exact z4) e2 (by show nd ≤ 100; omega), show fa_rf 15 0 = 16 from rfl, a3 16 a' (by omega) (by omega), e3]
  rw [hs0]
  unfold fm_Program_add_j57
  dsimp only [fa_let]
  rw [show fa_rf 8 3 = 15 from rfl, show fa_rf 8 4 = 17 from rfl, show fa_rf 8 5 = 19 from rfl, show fa_rf 8 7 = 23 from rfl, show fa_rf 8 9 = 27 from rfl]
  have i4 := px_ad1 (r := 15) (v := (st : Int)) rfl ((a3 15 1 (by omega) (by omega)).trans z4) (by show nd < 100; exact hnd)
  have n5 : fr_add 15 (st : Int) w3 17 1 = ((3 * nd : Nat) : Int) := (i4.2.2 17 1 (by omega) (by omega)).trans ((a3 17 1 (by omega) (by omega)).trans z5)
  have i5 := px_ad1 (r := 17) (v := a) rfl n5 (by show 3 * nd < 300; omega)
  have i6 := px_ad1 (r := 17) (v := b) rfl i5.1 (by show 3 * nd + 1 < 300; omega)
  have i7 := px_ad1 (r := 17) (v := c) rfl i6.1 (by show 3 * nd + 1 + 1 < 300; omega)
  have p1 : fr_add 17 c (fr_add 17 b (fr_add 17 a (fr_add 15 (st : Int) w3))) 18 (3 * nd) = a := (i7.2.2 18 _ (by omega) (by omega)).trans ((i6.2.2 18 _ (by omega) (by omega)).trans i5.2.1)
  have p2 : fr_add 17 c (fr_add 17 b (fr_add 17 a (fr_add 15 (st : Int) w3))) 18 (3 * nd + 1) = b := (i7.2.2 18 _ (by omega) (by omega)).trans i6.2.1
  have p3 : fr_add 17 c (fr_add 17 b (fr_add 17 a (fr_add 15 (st : Int) w3))) 18 (3 * nd + 2) = c := i7.2.1
  have q7 : ∀ o k, ¬ ((o = 15 ∨ o = 17) ∧ k = 1) → ¬ (o = 16 ∧ k = nd) → ¬ (o = 18 ∧ 3 * nd ≤ k) → fr_add 17 c (fr_add 17 b (fr_add 17 a (fr_add 15 (st : Int) w3))) o k = w3 o k := fun o k r1 r2 r3 => (i7.2.2 o k (by omega) (by omega)).trans ((i6.2.2 o k (by omega) (by omega)).trans ((i5.2.2 o k (by omega) (by omega)).trans (i4.2.2 o k (by omega) (by omega))))
  have s17 : fr_add 17 c (fr_add 17 b (fr_add 17 a (fr_add 15 (st : Int) w3))) 17 1 = ((3 * (nd + 1) : Nat) : Int) := by rw [i7.1]; congr 1
  have s15 : fr_add 17 c (fr_add 17 b (fr_add 17 a (fr_add 15 (st : Int) w3))) 15 1 = ((nd + 1 : Nat) : Int) := (i7.2.2 15 1 (by omega) (by omega)).trans ((i6.2.2 15 1 (by omega) (by omega)).trans ((i5.2.2 15 1 (by omega) (by omega)).trans i4.1))
  have c16 : fr_add 17 c (fr_add 17 b (fr_add 17 a (fr_add 15 (st : Int) w3))) 16 nd = (st : Int) := (i7.2.2 16 nd (by omega) (by omega)).trans ((i6.2.2 16 nd (by omega) (by omega)).trans ((i5.2.2 16 nd (by omega) (by omega)).trans i4.2.1))
  clear i4 i5 i6 i7 n5
  generalize fr_add 17 c (fr_add 17 b (fr_add 17 a (fr_add 15 (st : Int) w3))) = w7 at p1 p2 p3 q7 s17 s15 c16 ⊢
  have q0 : ∀ o k, ¬ ((o = 10 ∨ o = 12 ∨ o = 14 ∨ o = 16) ∧ k = nd) → ¬ (o = 18 ∧ 3 * nd ≤ k) → ¬ ((o = 9 ∨ o = 11 ∨ o = 13 ∨ o = 15 ∨ o = 17) ∧ k = 1) → w7 o k = w o k := fun o k r1 r2 r3 => (q7 o k (by omega) (by omega) (by omega)).trans (a3 o k (by omega) (by omega))
  have N : px_N 8 w7 nd K v h st a b c := ⟨(q7 10 nd (by omega) (by omega) (by omega)).trans c10, (q7 12 nd (by omega) (by omega) (by omega)).trans c12, (q7 14 nd (by omega) (by omega) (by omega)).trans c14, c16, p1, p2, p3⟩
  have Z : px_sz (nd + 1) w7 := ⟨(q7 9 1 (by omega) (by omega) (by omega)).trans s9, (q7 11 1 (by omega) (by omega) (by omega)).trans s11, (q7 13 1 (by omega) (by omega) (by omega)).trans s13, s15, s17, (q0 19 1 (by omega) (by omega) (by omega)).trans z6, (q0 21 1 (by omega) (by omega) (by omega)).trans z7, (q0 23 1 (by omega) (by omega) (by omega)).trans z8, (q0 27 1 (by omega) (by omega) (by omega)).trans z9⟩
  clear q7 a3 c10 c12 c14 s9 s11 s13 p1 p2 p3 s17 s15 c16 z1 z2 z3 z4 z5 z6 z7 z8 z9 hs0 hst
  obtain ⟨x1, x2, x3, x4, x5, x6, x7, x8, x9⟩ := id Z
  obtain ⟨y1, y2, y3, y4, y5, y6, y7⟩ := id N
  rw [pb_wr (n := K) (by omega)]
  by_cases k9 : K = 9
  · rw [if_pos (by omega)]
    have s := px_set1 (r := 19) (k := v) (v := (nd : Int)) rfl x6 (h9 k9) (by decide)
    refine ⟨_, rfl, ⟨?_, ?_, ?_, ?_, ?_, ?_, ?_⟩, ⟨?_, ?_, ?_, ?_, ?_, ?_, ?_, ?_, ?_⟩, fun _ => s.1, fun q => by omega, fun q => by omega, fun o k q => ?_⟩
    all_goals first
      | (rw [s.2 _ _ (by omega)]; assumption)
      | (rw [s.2 o k (by have := q.2.2.2.1; omega)]; exact q0 o k q.1 q.2.1 q.2.2.1)
  · rw [if_neg (by omega)]
    by_cases k7 : K = 7
    · rw [if_pos (by omega)]
      have s := px_set1 (r := 23) (k := v) (v := (nd : Int)) rfl x8 (h7 k7) (by decide)
      refine ⟨_, rfl, ⟨?_, ?_, ?_, ?_, ?_, ?_, ?_⟩, ⟨?_, ?_, ?_, ?_, ?_, ?_, ?_, ?_, ?_⟩, fun q => by omega, fun _ => s.1, fun q => by omega, fun o k q => ?_⟩
      all_goals first
        | (rw [s.2 _ _ (by omega)]; assumption)
        | (rw [s.2 o k (by have := q.2.2.2.2.1; omega)]; exact q0 o k q.1 q.2.1 q.2.2.1)
    · rw [if_neg (by omega)]
      by_cases k5 : K = 5
      · rw [if_pos (by omega)]
        have s := px_set1 (r := 23) (k := v) (v := (nd : Int)) rfl x8 (by have := h5 k5; omega) (by decide)
        have s2 := px_set1 (r := 27) (k := v) (v := a) rfl ((s.2 27 1 (by omega)).trans x9) (h5 k5) (by decide)
        refine ⟨_, rfl, ⟨?_, ?_, ?_, ?_, ?_, ?_, ?_⟩, ⟨?_, ?_, ?_, ?_, ?_, ?_, ?_, ?_, ?_⟩, fun q => by omega, fun _ => (s2.2 24 v (by omega)).trans s.1, fun _ => s2.1, fun o k q => ?_⟩
        all_goals first
          | (rw [s2.2 _ _ (by omega), s.2 _ _ (by omega)]; assumption)
          | (rw [s2.2 o k (by have := q.2.2.2.2.2; omega), s.2 o k (by have := q.2.2.2.2.1; omega)]; exact q0 o k q.1 q.2.1 q.2.2.1)
      · rw [if_neg (by omega)]
        exact ⟨w7, rfl, N, Z, fun q => by omega, fun q => by omega, fun q => by omega, fun o k q => q0 o k q.1 q.2.1 q.2.2.1⟩
