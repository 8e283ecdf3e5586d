theorem px_rQ_mono {sc K K' T V : Nat} {how : Int} {ins : List Nat} {A : Int} {w0 : fa_W} {il : rv_I} {s : rv_S} {w : fa_W} {r : rv_O} (h : K ≤ K') (q : px_rQ sc how ins A w0 K T V il s w r) : px_rQ sc how ins A w0 K' T V il s w r := by
  obtain ⟨k, w', h1, h2⟩ := q
  exact ⟨k, w', by omega, h2⟩
/-- a choice is made -/
theorem px_ch1 {sc o i T V pi : Nat} {how x : Int} {ins : List Nat} {A : Int} {w0 : fa_W} {il : rv_I} {s : rv_S} {w : fa_W} (hsc : fa_rf sc 0 = o) (hS : px_rS ins A w0 il s w) (hi : i < 100) (hT : w 47 1 = ((T + 1 : Nat) : Int)) (hT2 : T + 2 ≤ 5252) (ht : w 48 T = ((i * 4 + 1 : Nat) : Int)) (hV : w 49 1 = ((V + 1 : Nat) : Int)) (hV2 : V + 1 ≤ 5252) (hx : w 50 V = x) (hk : ∀ w1 : fa_W, (∀ i j, ¬ (44 ≤ i ∧ i ≤ 54) → w1 i j = w0 i j) → fm_Program_kind o (i : Int) w1 = ((6 : Nat) : Int) ∧ fm_Program_part o (i : Int) (if fa_wr x = 0 then 2 else 1) w1 = (pi : Int)) : ∃ w', px_go sc how 1 w w' ∧ px_rS ins A w0 il s w' ∧ w' 47 1 = ((T + 1 : Nat) : Int) ∧ w' 48 T = ((pi * 4 : Nat) : Int) ∧ w' 49 1 = (V : Int) ∧ (∀ j, j < T → w' 48 j = w 48 j) ∧ ∀ j, w' 50 j = w 50 j := by
  have w1o : ∀ a b, ¬ (44 ≤ a ∧ a ≤ 54) → fa_st w 47 1 (T : Int) a b = w0 a b := fun a b q => (fa_st_ne (by omega)).trans (hS.1 a b q)
  have w2o : ∀ a b, ¬ (44 ≤ a ∧ a ≤ 54) → fa_st (fa_st w 47 1 (T : Int)) 49 1 (V : Int) a b = w0 a b := fun a b q => (fa_st_ne (by omega)).trans (w1o a b q)
  have hd := px_pop (r := 49) (m := 5252) (n := V) (w := fa_st w 47 1 (T : Int)) (by decide +kernel) (by decide +kernel) (by rw [fa_st_ne (by omega)]; exact hV) hV2
  rw [show fa_st w 47 1 (T : Int) (49 + 1) V = x by rw [fa_st_ne (by omega)]; exact hx] at hd
  have hg : fm_Machine_go o (i : Int) ((1 : Nat) : Int) (fa_st w 47 1 (T : Int)) = some (fr_add 47 ((pi : Int) * 4 + 0) (fa_st (fa_st w 47 1 (T : Int)) 49 1 (V : Int))) := by
    rw [px_goC (hk _ w1o).1]
    unfold fm_Machine_goChoice
    rw [px_k1 (by omega), if_neg (by omega), hd]
    have := (hk _ w2o).2
    dsimp only [fa_l2]
    by_cases z : fa_wr x = 0
    · rw [if_pos z] at this
      rw [if_pos z]
      unfold fm_Machine_goChoice_j32 fm_Machine_begin
      rw [this]
      rfl
    · rw [if_neg z] at this
      rw [if_neg z]
      unfold fm_Machine_goChoice_j32 fm_Machine_begin
      rw [this]
      rfl
  have hr := px_round (how := how) hsc hS.2.1.2.1 hT (by omega) ht (by omega) hi hg
  obtain ⟨p1, p2, p3⟩ := px_push (r := 47) (m := 5252) (n := T) (v := (pi : Int) * 4 + 0) (w := fa_st (fa_st w 47 1 (T : Int)) 49 1 (V : Int)) (by decide +kernel) (by decide +kernel) (by rw [fa_st_ne (by omega), fa_st_eq]) (by omega)
  generalize fr_add 47 ((pi : Int) * 4 + 0) (fa_st (fa_st w 47 1 (T : Int)) 49 1 (V : Int)) = w3 at *
  refine ⟨w3, hr, px_rS_of hS (fun a b q => by rw [p3 _ _ (by omega) (by omega), fa_st_ne (by omega), fa_st_ne (by omega)]), p1, ?_, ?_, fun j hj => ?_, fun j => ?_⟩
  · rw [p2]; omega
  · rw [p3 _ _ (by omega) (by omega), fa_st_eq]
  · rw [p3 _ _ (by omega) (by omega), fa_st_ne (by omega), fa_st_ne (by omega)]
  · rw [p3 _ _ (by omega) (by omega), fa_st_ne (by omega), fa_st_ne (by omega)]
/-- the VAR of a let gets what it has -/
theorem px_lt1 {sc o i T V pi v nv : Nat} {how x : Int} {ins : List Nat} {A : Int} {w0 : fa_W} {il : rv_I} {s : rv_S} {w : fa_W} {a : rv_V} (hsc : fa_rf sc 0 = o) (hin : nv = 24 + ins.length ∧ ins.Nodup ∧ ∀ x ∈ ins, 24 ≤ x ∧ x < 74) (hS : px_rS ins A w0 il s w) (hj : rv_j il ≤ 100) (hl : il.length ≤ 100) (hi : i < 100) (hT : w 47 1 = ((T + 1 : Nat) : Int)) (hT2 : T + 2 ≤ 5252) (ht : w 48 T = ((i * 4 + 1 : Nat) : Int)) (hV : w 49 1 = ((V + 1 : Nat) : Int)) (hV2 : V + 1 ≤ 5252) (hx : w 50 V = x) (hv : v < nv) (ha : px_rE s.1 a x) (hsv : ∀ i v c, s.2.1 i v = some c → i ≤ s.1 ∧ v < nv) (hk : ∀ w1 : fa_W, (∀ i j, ¬ (44 ≤ i ∧ i ≤ 54) → w1 i j = w0 i j) → fm_Program_kind o (i : Int) w1 = ((7 : Nat) : Int) ∧ fm_Program_value o (i : Int) w1 = ((px_xi ins v : Nat) : Int) ∧ fm_Program_part o (i : Int) 1 w1 = (pi : Int)) : ∃ w', px_go sc how 1 w w' ∧ px_rS ins A w0 il (rv_put s (rv_j il) v a) w' ∧ w' 47 1 = ((T + 1 : Nat) : Int) ∧ w' 48 T = ((pi * 4 : Nat) : Int) ∧ w' 49 1 = (V : Int) ∧ (∀ j, j < T → w' 48 j = w 48 j) ∧ ∀ j, w' 50 j = w 50 j := by
  have lx := px_xi_lt hin.2.2 v
  have w1o : ∀ a b, ¬ (44 ≤ a ∧ a ≤ 54) → fa_st w 47 1 (T : Int) a b = w0 a b := fun a b q => (fa_st_ne (by omega)).trans (hS.1 a b q)
  have hd := px_pop (r := 49) (m := 5252) (n := V) (w := fa_st w 47 1 (T : Int)) (by decide +kernel) (by decide +kernel) (by rw [fa_st_ne (by omega)]; exact hV) hV2
  rw [show fa_st w 47 1 (T : Int) (49 + 1) V = x by rw [fa_st_ne (by omega)]; exact hx] at hd
  have r0 : fa_rf 45 0 = 46 := by decide +kernel
  have c0 : fa_cp 45 = 7474 := by decide +kernel
  have hfr : fm_Machine_frame (fa_st w 47 1 (T : Int)) = (rv_j il : Int) := px_lastf (px_RL_of hS.2.2.2.2.1 (fun i j q => fa_st_ne (by omega))) hl hj
  have hst : fr_set 45 ((rv_j il : Int) * 74 + ((px_xi ins v : Nat) : Int)) x (fa_st (fa_st w 47 1 (T : Int)) 49 1 (V : Int)) = fa_st (fa_st (fa_st w 47 1 (T : Int)) 49 1 (V : Int)) 46 (rv_j il * 74 + px_xi ins v) x := by
    have e2 : (rv_j il : Int) * 74 + ((px_xi ins v : Nat) : Int) = ((rv_j il * 74 + px_xi ins v : Nat) : Int) := by omega
    rw [e2, pb_set (n := 7474) (by rw [fa_st_ne (by omega), fa_st_ne (by omega)]; exact hS.2.2.1) (by omega) (by omega), r0]
  have w3o : ∀ a b, ¬ (44 ≤ a ∧ a ≤ 54) → fa_st (fa_st (fa_st w 47 1 (T : Int)) 49 1 (V : Int)) 46 (rv_j il * 74 + px_xi ins v) x a b = w0 a b := fun a b q => (fa_st_ne (by omega)).trans ((fa_st_ne (by omega)).trans (w1o a b q))
  have hg : fm_Machine_go o (i : Int) ((1 : Nat) : Int) (fa_st w 47 1 (T : Int)) = some (fr_add 47 ((pi : Int) * 4 + 0) (fa_st (fa_st (fa_st w 47 1 (T : Int)) 49 1 (V : Int)) 46 (rv_j il * 74 + px_xi ins v) x)) := by
    rw [px_goL (hk _ w1o).1]
    unfold fm_Machine_goLet
    rw [px_k1 (by omega), if_neg (by omega), hd, hfr, (hk _ w1o).2.1]
    dsimp only [fa_l2, fa_let]
    rw [hst]
    unfold fm_Machine_begin
    rw [(hk _ w3o).2.2]
    rfl
  have hr := px_round (how := how) hsc hS.2.1.2.1 hT (by omega) ht (by omega) hi hg
  obtain ⟨p1, p2, p3⟩ := px_push (r := 47) (m := 5252) (n := T) (v := (pi : Int) * 4 + 0) (w := fa_st (fa_st (fa_st w 47 1 (T : Int)) 49 1 (V : Int)) 46 (rv_j il * 74 + px_xi ins v) x) (by decide +kernel) (by decide +kernel) (by rw [fa_st_ne (by omega), fa_st_ne (by omega), fa_st_eq]) (by omega)
  generalize fr_add 47 ((pi : Int) * 4 + 0) (fa_st (fa_st (fa_st w 47 1 (T : Int)) 49 1 (V : Int)) 46 (rv_j il * 74 + px_xi ins v) x) = w3 at *
  refine ⟨w3, hr, px_rS_put hin hS hv ha hsv ?_ (fun a b q q2 => by rw [p3 _ _ (by omega) (by omega), fa_st_ne q2, fa_st_ne (by omega), fa_st_ne (by omega)]), p1, ?_, ?_, fun j hj => ?_, fun j => ?_⟩
  · rw [p3 _ _ (by omega) (by omega), fa_st_eq]
  · rw [p2]; omega
  · rw [p3 _ _ (by omega) (by omega), fa_st_ne (by omega), fa_st_eq]
  · rw [p3 _ _ (by omega) (by omega), fa_st_ne (by omega), fa_st_ne (by omega), fa_st_ne (by omega)]
  · rw [p3 _ _ (by omega) (by omega), fa_st_ne (by omega), fa_st_ne (by omega), fa_st_ne (by omega)]
/-- two values are there: an operator -/
theorem px_op2 {sc o i T V sg : Nat} {how x y : Int} {ins : List Nat} {A : Int} {w0 : fa_W} {il : rv_I} {s : rv_S} {w : fa_W} (hsc : fa_rf sc 0 = o) (hsg : sg = 42 ∨ sg = 43 ∨ sg = 45 ∨ sg = 47 ∨ sg = 60) (hS : px_rS ins A w0 il s w) (hi : i < 100) (hT : w 47 1 = ((T + 1 : Nat) : Int)) (hT2 : T + 2 ≤ 5252) (ht : w 48 T = ((i * 4 + 2 : Nat) : Int)) (hV : w 49 1 = ((V + 2 : Nat) : Int)) (hV2 : V + 2 ≤ 5252) (hx : w 50 V = x) (hy : w 50 (V + 1) = y) (hk : ∀ w1 : fa_W, (∀ i j, ¬ (44 ≤ i ∧ i ≤ 54) → w1 i j = w0 i j) → fm_Program_kind o (i : Int) w1 = ((8 : Nat) : Int) ∧ fm_Program_value o (i : Int) w1 = (sg : Int)) : px_rQ sc how ins A w0 1 T V il s w (rv_oo sg il x y s) := by
  have w1o : ∀ a b, ¬ (44 ≤ a ∧ a ≤ 54) → fa_st w 47 1 (T : Int) a b = w0 a b := fun a b q => (fa_st_ne (by omega)).trans (hS.1 a b q)
  have hd := px_pop (r := 49) (m := 5252) (n := V + 1) (w := fa_st w 47 1 (T : Int)) (by decide +kernel) (by decide +kernel) (by rw [fa_st_ne (by omega)]; exact hV) hV2
  rw [show fa_st w 47 1 (T : Int) (49 + 1) (V + 1) = y by rw [fa_st_ne (by omega)]; exact hy] at hd
  have hd2 := px_pop (r := 49) (m := 5252) (n := V) (w := fa_st (fa_st w 47 1 (T : Int)) 49 1 ((V + 1 : Nat) : Int)) (by decide +kernel) (by decide +kernel) (by rw [fa_st_eq]) (by omega)
  rw [show fa_st (fa_st w 47 1 (T : Int)) 49 1 ((V + 1 : Nat) : Int) (49 + 1) V = x by rw [fa_st_ne (by omega), fa_st_ne (by omega)]; exact hx] at hd2
  obtain ⟨w2, hw2⟩ : ∃ w2, w2 = fa_st (fa_st (fa_st w 47 1 (T : Int)) 49 1 ((V + 1 : Nat) : Int)) 49 1 (V : Int) := ⟨_, rfl⟩
  rw [← hw2] at hd2
  have w2o : ∀ a b, ¬ (47 ≤ a ∧ a ≤ 50) → w2 a b = w a b := fun a b q => by rw [hw2, fa_st_ne (by omega), fa_st_ne (by omega), fa_st_ne (by omega)]
  have w2T : w2 47 1 = (T : Int) := by rw [hw2, fa_st_ne (by omega), fa_st_ne (by omega), fa_st_eq]
  have w2V : w2 49 1 = (V : Int) := by rw [hw2, fa_st_eq]
  have w2s : ∀ j, w2 48 j = w 48 j ∧ w2 50 j = w 50 j := fun j => by rw [hw2, fa_st_ne (by omega), fa_st_ne (by omega), fa_st_ne (by omega), fa_st_ne (by omega), fa_st_ne (by omega), fa_st_ne (by omega)]; exact ⟨rfl, rfl⟩
  clear hw2
  have hg0 : fm_Machine_go o (i : Int) ((2 : Nat) : Int) (fa_st w 47 1 (T : Int)) = (if fa_wr (sg : Int) = 42 then some (fr_add 49 (x * y) w2) else if fa_wr (sg : Int) = 43 then some (fr_add 49 (x + y) w2) else if fa_wr (sg : Int) = 45 then some (fr_add 49 (x - y) w2) else if fa_wr (sg : Int) = 60 then (if fa_wr y ≤ fa_wr x then fm_Machine_goOperator_j141 o (i : Int) ((2 : Nat) : Int) false w2 else fm_Machine_goOperator_j141 o (i : Int) ((2 : Nat) : Int) true w2) else (fm_Machine_divide x y w2).bind fun w24 => some w24) := by
    rw [px_goO (hk _ w1o).1]
    unfold fm_Machine_goOperator
    rw [px_k1 (by omega), if_pos (by omega), hd]
    dsimp only [fa_l2]
    rw [hd2]
    dsimp only
    rw [(hk w2 (fun a b q => (w2o a b (by omega)).trans (hS.1 a b q))).2]
    rfl
  have fin : ∀ z : Int, fm_Machine_go o (i : Int) ((2 : Nat) : Int) (fa_st w 47 1 (T : Int)) = some (fr_add 49 z w2) → px_rQ sc how ins A w0 1 T V il s w (.ok (z, -1, -1), s) := fun z hg => by
    have hr := px_round (how := how) hsc hS.2.1.2.1 hT (by omega) ht (by omega) hi hg
    obtain ⟨p1, p2, p3⟩ := px_push (r := 49) (m := 5252) (n := V) (v := z) (w := w2) (by decide +kernel) (by decide +kernel) w2V (by omega)
    generalize fr_add 49 z w2 = w3 at *
    refine ⟨1, w3, by omega, Nat.le_refl _, hr, px_rS_of hS (fun a b q => (p3 a b (by omega) (by omega)).trans (w2o a b q)), ?_, p1, fun j q => ?_, fun j q => ?_, Or.inl ⟨rfl, p2⟩⟩
    · rw [p3 _ _ (by omega) (by omega)]; exact w2T
    · rw [p3 _ _ (by omega) (by omega)]; exact (w2s j).1
    · rw [p3 _ _ (by omega) (by omega)]; exact (w2s j).2
  rw [pb_wr (by omega)] at hg0
  unfold rv_oo rv_op
  rcases hsg with c | c | c | c | c
  · subst c
    rw [if_pos (by omega)] at hg0
    exact fin _ hg0
  · subst c
    rw [if_neg (by omega), if_pos (by omega)] at hg0
    exact fin _ hg0
  · subst c
    rw [if_neg (by omega), if_neg (by omega), if_pos (by omega)] at hg0
    exact fin _ hg0
  · subst c
    rw [if_neg (by omega), if_neg (by omega), if_neg (by omega), if_neg (by omega)] at hg0
    unfold fm_Machine_divide at hg0
    rw [if_neg (by decide), if_neg (by decide), if_neg (by decide), if_neg (by decide)]
    by_cases z : fa_wr y = 0
    · rw [if_pos z] at hg0 ⊢
      have hr := px_round (how := how) hsc hS.2.1.2.1 hT (by omega) ht (by omega) hi hg0
      exact px_rQ_err (Nat.le_refl _) hr (px_rF_of hS (fa_st_eq _ _ _ _) (fun a b q q2 => (fa_st_ne q2).trans (w2o a b q)))
    · rw [if_neg z, if_neg z] at hg0
      rw [if_neg z]
      exact fin _ hg0
  · subst c
    rw [if_neg (by omega), if_neg (by omega), if_neg (by omega), if_pos (by omega)] at hg0
    rw [if_neg (by decide), if_neg (by decide), if_neg (by decide), if_pos (by decide)]
    by_cases z : fa_wr y ≤ fa_wr x
    · rw [if_pos z] at hg0 ⊢
      exact fin 0 hg0
    · rw [if_neg z] at hg0 ⊢
      exact fin 1 hg0
