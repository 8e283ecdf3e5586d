/-! a FUNCTION is entered, by the class -/
theorem px_repeat {fr to : Nat} {w : fa_W} (hf : fr ≤ 100) (ht : to ≤ 100) (hw : w 45 1 = ((7474 : Nat) : Int)) : ∃ w', fm_Row_repeat 45 ((fr : Int) * 74) ((to : Int) * 74) 74 w = some w' ∧ (∀ j, j < 74 → w' 46 (to * 74 + j) = w 46 (fr * 74 + j)) ∧ ∀ i j, ¬ (i = 46 ∧ to * 74 ≤ j ∧ j < to * 74 + 74) → w' i j = w i j := by
  have r0 : fa_rf 45 0 = 46 := by decide +kernel
  have c0 : fa_cp 45 = 7474 := by decide +kernel
  have e1 : (fr : Int) * 74 = ((fr * 74 : Nat) : Int) := by omega
  have e2 : (to : Int) * 74 = ((to * 74 : Nat) : Int) := by omega
  have E : fr_repeat 45 ((fr : Int) * 74) ((to : Int) * 74) 74 w = fa_cy w 46 46 (fr * 74) (to * 74) 74 := by
    unfold fr_repeat
    rw [hw, r0, c0, e1, e2, pb_wr (by omega), pb_wr (by omega), pb_wr (by omega), fa_wr_id (x := 74) (by omega) (by omega), if_pos (by omega)]
    rfl
  refine ⟨_, ft_repeat 45 _ _ _ w (by rw [hw]; omega), fun j q => ?_, fun i j q => ?_⟩
  · rw [E]
    unfold fa_cy
    rw [if_pos ⟨rfl, by omega, by omega⟩, show fr * 74 + (to * 74 + j - to * 74) = fr * 74 + j by omega]
  · rw [E]
    unfold fa_cy
    rw [if_neg q]
theorem px_rE_n {n : Nat} {a : rv_V} {x : Int} {f : Nat} (h : px_rE n a x) (e : a.2.1 = (f : Int)) : f < 24 ∧ ∃ fr : Nat, fr ≤ n ∧ x = ((fr * 32 + f : Nat) : Int) ∧ (a.2.2 = -1 ∨ a.2.2 = (fr : Int)) := by
  rcases h with ⟨h, _⟩ | ⟨g, fr, h1, h2, h3, h4, h5⟩
  · omega
  · have : g = f := by omega
    subst this
    exact ⟨h1, fr, h2, h4, h5⟩
theorem px_fnOf {fr f : Nat} (h1 : fr ≤ 100) (h2 : f < 24) (w : fa_W) : fm_Machine_functionOf ((fr * 32 + f : Nat) : Int) w = (f : Int) := by
  unfold fm_Machine_functionOf
  have := pb_and (a := fr * 32 + f) (b := 31) (by omega) (by omega)
  rw [show (31 : Nat) = 2 ^ 5 - 1 by rfl, Nat.and_two_pow_sub_one_eq_mod, show (fr * 32 + f) % 2 ^ 5 = f by omega] at this
  exact this
theorem px_shr5 {fr f : Nat} (h1 : fr ≤ 100) (h2 : f < 24) : fa_iushr ((fr * 32 + f : Nat) : Int) 5 = (fr : Int) := by
  have := pb_shr (a := fr * 32 + f) (k := 5) (by omega) (by omega)
  rw [Nat.shiftRight_eq_div_pow, show (fr * 32 + f) / 2 ^ 5 = fr by omega] at this
  exact this
theorem px_enter {sc o nd nf nv T f : Nat} {ins : List Nat} {fb : Nat → pt_T} {A x y : Int} {ap : Nat → Bool} {w0 w : fa_W} {il : rv_I} {s : rv_S} {a b : rv_V} (hX : px_rP sc o nd nf nv ins fb A ap w0) (hS : px_rS ins A w0 il s w) (hT : w 47 1 = (T : Int)) (hT2 : T + 2 ≤ 5252) (hn : s.1 < 100) (hq : il.length ≤ s.1) (hmo : s.2.2.2.2.2 ≤ s.1) (hen : s.2.2.2.2.1 < 2 ^ 24) (hf : f < nf) (ea : a.2.1 = (f : Int)) (xa : px_rE s.1 a x) (xb : px_rE s.1 b y) (hsv : ∀ i v c, s.2.1 i v = some c → i ≤ s.1 ∧ v < nv) : ∃ c w', fm_Machine_enter o x y w = some w' ∧ px_P o ins (fb f) (f : Int) c w0 ∧ c + pt_sz (fb f) ≤ nd ∧ px_rS ins A w0 ((f, s.1 + 1) :: il) (rv_nw s f b a.2.2 il.length) w' ∧ w' 47 1 = ((T + 2 : Nat) : Int) ∧ w' 48 T = -1 ∧ w' 48 (T + 1) = (((c + pt_sz (fb f) - 1) * 4 : Nat) : Int) ∧ (∀ j, j < T → w' 48 j = w 48 j) ∧ ∀ j, w' 49 j = w 49 j ∧ w' 50 j = w 50 j := by
  obtain ⟨_, hp, ho, hz, ⟨x1, x2, x3⟩, h19, hB, h24, _⟩ := hX
  obtain ⟨c, c1, c2, c3⟩ := hB f hf
  obtain ⟨hf24, fr, fr1, rfl, fr2⟩ := px_rE_n xa ea
  obtain ⟨s1, ⟨a5, a6, a7, a8, a9, a10, a4⟩, s2, s3, s4, s5⟩ := hS
  unfold fm_Machine_enter
  rw [px_fnOf (by omega) hf24, pf_let_eq, a8, pf_let_eq, px_shr5 (by omega) hf24, fa_st_eq]
  obtain ⟨w1, e1, k1, k2⟩ := px_repeat (fr := fr) (to := s.1 + 1) (w := fa_st w 44 9 ((s.1 : Int) + 1)) (by omega) (by omega) (by rw [fa_st_ne (by omega)]; exact s2)
  have e1' : fm_Row_repeat 45 ((fr : Int) * 74) (((s.1 : Int) + 1) * 74) 74 (fa_st w 44 9 ((s.1 : Int) + 1)) = some w1 := e1
  rw [e1', Option.bind_some]
  have w18 : w1 44 9 = ((s.1 + 1 : Nat) : Int) := by rw [k2 _ _ (by omega), fa_st_eq]; omega
  have w1o : ∀ i j, ¬ (i = 44 ∧ j = 9) → ¬ (i = 46 ∧ (s.1 + 1) * 74 ≤ j ∧ j < (s.1 + 1) * 74 + 74) → w1 i j = w i j := fun i j q q2 => by rw [k2 i j (by omega), fa_st_ne q]
  have w1n : ∀ j, j < 74 → w1 46 ((s.1 + 1) * 74 + j) = w 46 (fr * 74 + j) := fun j hj => by rw [k1 j hj, fa_st_ne (by omega)]
  clear k1 k2 e1 e1'
  have r0 : fa_rf 45 0 = 46 := by decide +kernel
  have c0 : fa_cp 45 = 7474 := by decide +kernel
  have e2 : ((s.1 + 1 : Nat) : Int) * 74 + (f : Int) = (((s.1 + 1) * 74 + f : Nat) : Int) := by omega
  rw [pf_let_eq, w18, e2, pb_set (r := 45) (n := 7474) (w := w1) (by rw [w1o _ _ (by omega) (by omega)]; exact s2) (by omega) (by omega), r0]
  obtain ⟨w2, hw2⟩ : ∃ w2, w2 = fa_st w1 46 ((s.1 + 1) * 74 + f) y := ⟨_, rfl⟩
  rw [← hw2]
  have w2o : ∀ i j, ¬ (i = 44 ∧ j = 9) → ¬ (i = 46 ∧ (s.1 + 1) * 74 ≤ j ∧ j < (s.1 + 1) * 74 + 74) → w2 i j = w i j := fun i j q q2 => by rw [hw2, fa_st_ne (by omega), w1o i j q q2]
  have w2n : ∀ j, j < 74 → j ≠ f → w2 46 ((s.1 + 1) * 74 + j) = w 46 (fr * 74 + j) := fun j hj hn => by rw [hw2, fa_st_ne (by omega), w1n j hj]
  have w2f : w2 46 ((s.1 + 1) * 74 + f) = y := by rw [hw2, fa_st_eq]
  have w28 : w2 44 9 = ((s.1 + 1 : Nat) : Int) := by rw [hw2, fa_st_ne (by omega)]; exact w18
  clear hw2 w1n w18
  obtain ⟨p1, p2⟩ := px_RL_add (r := 51) (by decide +kernel) (px_RL_of s3 (w' := w2) (fun i j q => w2o i j (by omega) (by omega))) (by rw [List.length_map, List.length_reverse, show fa_cp 51 = 100 by decide +kernel]; omega) f
  rw [pf_let_eq]
  generalize fr_add 51 (f : Int) w2 = w3 at *
  obtain ⟨p3, p4⟩ := px_RL_add (r := 53) (by decide +kernel) (px_RL_of s4 (w' := w3) (fun i j q => (p2 i j (by omega) (by omega)).trans (w2o i j (by omega) (by omega)))) (by rw [List.length_map, List.length_reverse, show fa_cp 53 = 100 by decide +kernel]; omega) (s.1 + 1)
  rw [pf_let_eq, p2 44 9 (by omega) (by omega), w28]
  generalize fr_add 53 ((s.1 + 1 : Nat) : Int) w3 = w4 at *
  have w4o : ∀ i j, ¬ (51 ≤ i ∧ i ≤ 54) → w4 i j = w2 i j := fun i j q => by rw [p4 i j (by omega) (by omega), p2 i j (by omega) (by omega)]
  have p1' : px_RL 51 (il.reverse.map (fun p => p.1) ++ [f]) w4 := px_RL_of p1 (fun i j q => p4 i j (by omega) (by omega))
  have e51 : w4 51 1 = ((il.length + 1 : Nat) : Int) := by rw [p1'.1, List.length_append, List.length_map, List.length_reverse]; rfl
  have mx : fa_max (w4 44 10) (fm_Row_size 51 w4) = ((max s.2.2.2.2.2 (il.length + 1) : Nat) : Int) := by
    unfold fm_Row_size
    rw [e51, w4o _ _ (by omega), w2o _ _ (by omega) (by omega), a9]
    unfold fa_max
    rw [pb_wr (by omega), pb_wr (by omega)]
    by_cases z : s.2.2.2.2.2 < il.length + 1
    · rw [if_pos (by omega), Nat.max_eq_right (by omega)]
    · rw [if_neg (by omega), Nat.max_eq_left (by omega)]
  rw [pf_let_eq, mx, pf_let_eq, pf_bit hf24, fa_st_ne (by omega), w4o _ _ (by omega), w2o _ _ (by omega) (by omega), a10, pb_or (by omega) (Nat.lt_of_lt_of_le (Nat.pow_lt_pow_right (by omega) hf24) (by omega)), pf_let_eq]
  obtain ⟨w5, hw5⟩ : ∃ w5, w5 = fa_st (fa_st w4 44 10 ((max s.2.2.2.2.2 (il.length + 1) : Nat) : Int)) 44 11 ((s.2.2.2.2.1 ||| 2 ^ f : Nat) : Int) := ⟨_, rfl⟩
  rw [← hw5]
  have w5o : ∀ i j, i ≠ 44 → w5 i j = w4 i j := fun i j q => by rw [hw5, fa_st_ne (by omega), fa_st_ne (by omega)]
  have w544 : w5 44 6 = A ∧ w5 44 7 = -1 ∧ w5 44 8 = 0 ∧ w5 44 9 = ((s.1 + 1 : Nat) : Int) ∧ w5 44 10 = ((max s.2.2.2.2.2 (il.length + 1) : Nat) : Int) ∧ w5 44 11 = ((s.2.2.2.2.1 ||| 2 ^ f : Nat) : Int) ∧ w5 44 5 = w0 44 5 := by
    rw [hw5]
    refine ⟨?_, ?_, ?_, ?_, ?_, fa_st_eq _ _ _ _, ?_⟩
    · rw [fa_st_ne (by omega), fa_st_ne (by omega), w4o _ _ (by omega), w2o _ _ (by omega) (by omega)]; exact a5
    · rw [fa_st_ne (by omega), fa_st_ne (by omega), w4o _ _ (by omega), w2o _ _ (by omega) (by omega)]; exact a6
    · rw [fa_st_ne (by omega), fa_st_ne (by omega), w4o _ _ (by omega), w2o _ _ (by omega) (by omega)]; exact a7
    · rw [fa_st_ne (by omega), fa_st_ne (by omega), w4o _ _ (by omega)]; exact w28
    · rw [fa_st_ne (by omega), fa_st_eq]
    · rw [fa_st_ne (by omega), fa_st_ne (by omega), w4o _ _ (by omega), w2o _ _ (by omega) (by omega)]; exact a4
  clear hw5 mx
  have hT5 : w5 47 1 = (T : Int) := by rw [w5o _ _ (by omega), w4o _ _ (by omega), w2o _ _ (by omega) (by omega)]; exact hT
  obtain ⟨q1, q2, q3⟩ := px_push (r := 47) (m := 5252) (v := -1) (by decide +kernel) (by decide +kernel) hT5 (by omega)
  generalize fr_add 47 (-1) w5 = w6 at *
  have w6o : ∀ i j, ¬ (47 ≤ i ∧ i ≤ 48) → w6 i j = w5 i j := fun i j q => q3 i j (by omega) (by omega)
  have eb : fr_at (fa_rf o 9) (f : Int) w6 = ((c + pt_sz (fb f) - 1 : Nat) : Int) := by
    obtain ⟨r1, r2, r3⟩ := px_po_r9 hp
    have f6 : ∀ i j, ¬ (44 ≤ i ∧ i ≤ 54) → w6 i j = w0 i j := fun i j q => by rw [w6o _ _ (by omega), w5o _ _ (by omega), w4o _ _ (by omega), w2o _ _ (by omega) (by omega), s1 _ _ q]
    rw [r1, pb_at (n := 24) (by rw [f6 _ _ (by omega)]; exact h19) hf24 (by omega), r2, f6 _ _ (by omega)]
    exact c2
  rw [pf_let_eq]
  unfold fm_Machine_begin
  rw [pf_let_eq, eb]
  obtain ⟨u1, u2, u3⟩ := px_push (r := 47) (m := 5252) (n := T + 1) (v := ((c + pt_sz (fb f) - 1 : Nat) : Int) * 4 + 0) (by decide +kernel) (by decide +kernel) q1 (by omega)
  generalize fr_add 47 (((c + pt_sz (fb f) - 1 : Nat) : Int) * 4 + 0) w6 = w7 at *
  have w7o : ∀ i j, ¬ (47 ≤ i ∧ i ≤ 48) → w7 i j = w5 i j := fun i j q => (u3 i j (by omega) (by omega)).trans (w6o i j q)
  obtain ⟨b5, b6, b7, b8, b9, b10, b4⟩ := w544
  refine ⟨c, w7, rfl, c3, c1, ⟨fun i j q => ?_, ⟨?_, ?_, ?_, ?_, ?_, ?_, ?_⟩, ?_, ?_, ?_, fun i v z hv => ?_⟩, u1, ?_, ?_, fun j hj => ?_, fun j => ⟨?_, ?_⟩⟩
  · rw [w7o _ _ (by omega), w5o _ _ (by omega), w4o _ _ (by omega), w2o _ _ (by omega) (by omega)]; exact s1 i j q
  · rw [w7o _ _ (by omega)]; exact b5
  · rw [w7o _ _ (by omega)]; exact b6
  · rw [w7o _ _ (by omega)]; exact b7
  · rw [w7o _ _ (by omega)]; exact b8
  · rw [w7o _ _ (by omega)]; exact b9
  · rw [w7o _ _ (by omega)]; exact b10
  · rw [w7o _ _ (by omega)]; exact b4
  · rw [w7o _ _ (by omega), w5o _ _ (by omega), w4o _ _ (by omega), w2o _ _ (by omega) (by omega)]; exact s2
  · rw [List.reverse_cons, List.map_append]
    exact px_RL_of p1' (fun i j q => by rw [w7o _ _ (by omega), w5o _ _ (by omega)])
  · rw [List.reverse_cons, List.map_append]
    exact px_RL_of p3 (fun i j q => by rw [w7o _ _ (by omega), w5o _ _ (by omega)])
  · change (if i = s.1 + 1 then (if v = f then some b else if a.2.2 < 0 then none else s.2.1 a.2.2.toNat v) else s.2.1 i v) = some z at hv
    show px_rE (s.1 + 1) z (w7 46 (i * 74 + px_xi ins v))
    rw [w7o _ _ (by omega), w5o _ _ (by omega), w4o _ _ (by omega)]
    by_cases ci : i = s.1 + 1
    · subst ci
      rw [if_pos rfl] at hv
      by_cases cv : v = f
      · subst cv
        rw [if_pos rfl] at hv
        cases hv
        have : px_xi ins v = v := by unfold px_xi; rw [if_pos hf24]
        rw [this, w2f]
        exact px_rE_m (Nat.le_succ _) xb
      · rw [if_neg cv] at hv
        by_cases cu : a.2.2 < 0
        · rw [if_pos cu] at hv; cases hv
        · rw [if_neg cu] at hv
          have eu : a.2.2.toNat = fr := by
            rcases fr2 with z | z
            · omega
            · omega
          rw [eu] at hv
          have hvn := (hsv _ _ _ hv).2
          have hxl := px_xi_lt x3 v
          have hxf : px_xi ins v ≠ f := fun z => cv (px_xi_inj x2 x3 (by omega) (by omega) (by rw [z]; unfold px_xi; rw [if_pos hf24]))
          rw [w2n _ hxl hxf]
          exact px_rE_m (Nat.le_succ _) (s5 _ _ _ hv)
    · rw [if_neg ci] at hv
      have hi := (hsv _ _ _ hv).1
      have hxl := px_xi_lt x3 v
      rw [w2o _ _ (by omega) (by omega)]
      exact px_rE_m (Nat.le_succ _) (s5 _ _ _ hv)
  · rw [u3 _ _ (by omega) (by omega)]; exact q2
  · rw [u2]; omega
  · rw [u3 _ _ (by omega) (by omega), q3 _ _ (by omega) (by omega), w5o _ _ (by omega), w4o _ _ (by omega), w2o _ _ (by omega) (by omega)]
  · rw [w7o _ _ (by omega), w5o _ _ (by omega), w4o _ _ (by omega), w2o _ _ (by omega) (by omega)]
  · rw [w7o _ _ (by omega), w5o _ _ (by omega), w4o _ _ (by omega), w2o _ _ (by omega) (by omega)]
