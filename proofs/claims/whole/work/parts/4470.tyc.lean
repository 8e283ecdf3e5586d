/-! the class's typing of a program, up to the shapes -/
theorem px_U_ext {o T : Nat} {up up' : Nat → Nat} {ar ar' : pu_A} {cl : Bool} {w : fa_W} (h : px_U o T up ar cl w) (e1 : ∀ k, k < T → up' k = up k) (e2 : ∀ k, k < T → ar' k = ar k) : px_U o T up' ar' cl w := by
  obtain ⟨h1, h2, h3, h4, h5, h6, h7, h8⟩ := h
  exact ⟨h1, h2, h3, fun k hk => by rw [e1 k hk]; exact h4 k hk, fun k hk q => h5 k hk (by rw [← e2 k hk]; exact q), fun k hk a b q => h6 k hk a b (by rw [← e2 k hk]; exact q), h7, h8⟩
theorem px_open0 {o T : Nat} (ho : px_to o) {w : fa_W} (hU : px_U o T (fun k => k) px_a0 false w) (hT : T < 400) (hx : px_a0 T = none) : ∃ w', fm_Typing_open o w = ((T : Int), w') ∧ px_U o (T + 1) (fun k => k) px_a0 false w' ∧ ∀ i j, ¬ (o + 1 ≤ i ∧ i ≤ o + 6) → w' i j = w i j := by
  obtain ⟨w', e1, e2, e3⟩ := px_arrow ho hU hT none (-1) (-1) (Or.inl ⟨rfl, rfl, rfl⟩)
  refine ⟨w', ?_, px_U_ext e2 (fun k hk => ?_) (fun k hk => ?_), e3⟩
  · unfold fm_Typing_open
    rw [e1]
    rfl
  · unfold pu_set; split
    · assumption
    · rfl
  · unfold pu_set; split
    · rename_i h; rw [h]; exact hx
    · rfl
theorem px_cl_f {o oP nf : Nat} (ho : px_to o) (hd : oP + 26 < o) (h24 : nf ≤ 24) : ∀ (d x F : Nat) (w : fa_W), x + d = nf → d < F → w oP 14 = (nf : Int) → px_U o (75 + 2 * x) (fun k => k) px_a0 false w → w (o + 11) 1 = ((74 : Nat) : Int) → (∀ v, v < 74 → w (o + 12) v = ((1 + v : Nat) : Int)) → w (o + 13) 1 = (x : Int) → (∀ f, f < x → w (o + 14) f = ((76 + 2 * f : Nat) : Int)) → w (o + 9) 1 = 0 → ∃ w', fm_Typing_clear_l79 o oP F (x : Int) w = some w' ∧ px_U o (75 + 2 * nf) (fun k => k) px_a0 false w' ∧ px_tv o nf w' ∧ w' (o + 9) 1 = 0 ∧ ∀ i j, ¬ (o + 1 ≤ i ∧ i ≤ o + 6) → i ≠ o + 13 → i ≠ o + 14 → w' i j = w i j := by
  intro d
  induction d with
  | zero =>
    intro x F w hx hF h14 hU h1 h2 h3 h4 h5
    obtain ⟨F, rfl⟩ : ∃ z, F = z + 1 := ⟨F - 1, by omega⟩
    unfold fm_Typing_clear_l79
    rw [h14, pb_wr (by omega), pb_wr (by omega), if_pos (by omega)]
    have e : x = nf := by omega
    subst e
    exact ⟨w, rfl, hU, ⟨h1, h2, h3, h4⟩, h5, fun _ _ _ _ _ => rfl⟩
  | succ d ih =>
    intro x F w hx hF h14 hU h1 h2 h3 h4 h5
    obtain ⟨F, rfl⟩ : ∃ z, F = z + 1 := ⟨F - 1, by omega⟩
    obtain ⟨w1, e1, U1, k1⟩ := px_open0 ho hU (by omega) (by unfold px_a0; rw [if_neg (by omega)])
    have av : fr_at (o + 11) (x : Int) w = ((1 + x : Nat) : Int) := by
      rw [pb_at (n := 74) h1 (by omega) (by rw [ho.2.2.2.2.2.2.2.1]; decide), ho.2.1.2.2.2.2.2.1]
      exact h2 x (by omega)
    obtain ⟨w2, e2, U2, k2⟩ := px_arrow ho U1 (by omega) (some (1 + x, 75 + 2 * x)) ((1 + x : Nat) : Int) ((75 + 2 * x : Nat) : Int) (Or.inr ⟨_, _, rfl, rfl, rfl⟩)
    have U2 := px_U_ext (up' := fun k => k) (ar' := px_a0) U2 (fun k hk => by
      unfold pu_set; split
      · assumption
      · rfl) (fun k hk => by
      unfold pu_set; split
      · rename_i h; rw [h, show 75 + 2 * x + 1 = 76 + 2 * x by omega]; exact px_a0_f x
      · rfl)
    have ad := px_ad1 (v := ((75 + 2 * x + 1 : Nat) : Int)) ho.2.1.2.2.2.2.2.2.1 (show w2 (o + 13) 1 = (x : Int) by rw [k2 _ _ (by omega), k1 _ _ (by omega)]; exact h3) (by rw [ho.2.2.2.2.2.2.2.2.1]; omega)
    unfold fm_Typing_clear_l79
    rw [h14, pb_wr (by omega), pb_wr (by omega), if_neg (by omega), e1]
    dsimp only [fa_l2]
    rw [ho.1.2.2.2.2.2.1, av, e2]
    dsimp only [fa_let]
    rw [ho.1.2.2.2.2.2.2.1]
    generalize fr_add (o + 13) ((75 + 2 * x + 1 : Nat) : Int) w2 = w3 at ad ⊢
    have k3 : ∀ i j, ¬ (o + 1 ≤ i ∧ i ≤ o + 6) → i ≠ o + 13 → i ≠ o + 14 → w3 i j = w i j := fun i j a b c => (ad.2.2 i j (by omega) (by omega)).trans ((k2 i j a).trans (k1 i j a))
    obtain ⟨w', q1, q2, q3, q4, q5⟩ := ih (x + 1) F w3 (by omega) (by omega) (by rw [k3 _ _ (by omega) (by omega) (by omega)]; exact h14) (by rw [show 75 + 2 * (x + 1) = 75 + 2 * x + 1 + 1 by omega]; exact px_U_of U2 (fun i j z => ad.2.2 i j (by omega) (by omega))) (by rw [k3 _ _ (by omega) (by omega) (by omega)]; exact h1) (fun v hv => by rw [k3 _ _ (by omega) (by omega) (by omega)]; exact h2 v hv) ad.1 (fun f hf => by
      by_cases z : f = x
      · rw [z, ad.2.1]; congr 1; omega
      · rw [ad.2.2 _ _ (by omega) (by omega), k2 _ _ (by omega), k1 _ _ (by omega)]; exact h4 f (by omega)) (by rw [k3 _ _ (by omega) (by omega) (by omega)]; exact h5)
    exact ⟨w', q1, q2, q3, q4, fun i j a b c => (q5 i j a b c).trans (k3 i j a b c)⟩
theorem px_cl_v {o oP nf : Nat} (ho : px_to o) (hd : oP + 26 < o) (h24 : nf ≤ 24) : ∀ (d x F : Nat) (w : fa_W), x + d = 74 → d < F → w oP 14 = (nf : Int) → px_U o (1 + x) (fun k => k) px_a0 false w → w (o + 11) 1 = (x : Int) → (∀ v, v < x → w (o + 12) v = ((1 + v : Nat) : Int)) → w (o + 13) 1 = 0 → w (o + 9) 1 = 0 → ∃ w', fm_Typing_clear_l54 o oP F (x : Int) w = some w' ∧ px_U o (75 + 2 * nf) (fun k => k) px_a0 false w' ∧ px_tv o nf w' ∧ w' (o + 9) 1 = 0 ∧ ∀ i j, ¬ (o + 1 ≤ i ∧ i ≤ o + 6) → ¬ (o + 11 ≤ i ∧ i ≤ o + 14) → w' i j = w i j := by
  intro d
  induction d with
  | zero =>
    intro x F w hx hF h14 hU h1 h2 h3 h5
    obtain ⟨F, rfl⟩ : ∃ z, F = z + 1 := ⟨F - 1, by omega⟩
    have e : x = 74 := by omega
    subst e
    unfold fm_Typing_clear_l54
    rw [pb_wr (by omega), if_pos (by omega)]
    obtain ⟨FU, hFU⟩ : ∃ F, F = fa_FU := ⟨_, rfl⟩
    have hF2 : nf < FU := by rw [hFU]; unfold fa_FU; omega
    rw [← hFU]
    obtain ⟨w', q1, q2, q3, q4, q5⟩ := px_cl_f ho hd h24 nf 0 FU w (by omega) hF2 h14 hU h1 h2 h3 (fun f hf => by omega) h5
    exact ⟨w', q1, q2, q3, q4, fun i j a b => q5 i j a (by omega) (by omega)⟩
  | succ d ih =>
    intro x F w hx hF h14 hU h1 h2 h3 h5
    obtain ⟨F, rfl⟩ : ∃ z, F = z + 1 := ⟨F - 1, by omega⟩
    obtain ⟨w1, e1, U1, k1⟩ := px_open0 ho hU (by omega) (by unfold px_a0; rw [if_neg (by omega)])
    have ad := px_ad1 (v := ((1 + x : Nat) : Int)) ho.2.1.2.2.2.2.2.1 (show w1 (o + 11) 1 = (x : Int) by rw [k1 _ _ (by omega)]; exact h1) (by rw [ho.2.2.2.2.2.2.2.1]; omega)
    unfold fm_Typing_clear_l54
    rw [pb_wr (by omega), if_neg (by omega), e1]
    dsimp only [fa_l2, fa_let]
    rw [ho.1.2.2.2.2.2.1]
    generalize fr_add (o + 11) ((1 + x : Nat) : Int) w1 = w3 at ad ⊢
    have k3 : ∀ i j, ¬ (o + 1 ≤ i ∧ i ≤ o + 6) → i ≠ o + 11 → i ≠ o + 12 → w3 i j = w i j := fun i j a b c => (ad.2.2 i j (by omega) (by omega)).trans (k1 i j a)
    obtain ⟨w', q1, q2, q3, q4, q5⟩ := ih (x + 1) F w3 (by omega) (by omega) (by rw [k3 _ _ (by omega) (by omega) (by omega)]; exact h14) (px_U_of U1 (fun i j z => ad.2.2 i j (by omega) (by omega))) ad.1 (fun v hv => by
      by_cases z : v = x
      · rw [z, ad.2.1]
      · rw [ad.2.2 _ _ (by omega) (by omega), k1 _ _ (by omega)]; exact h2 v (by omega)) (by rw [k3 _ _ (by omega) (by omega) (by omega)]; exact h3) (by rw [k3 _ _ (by omega) (by omega) (by omega)]; exact h5)
    exact ⟨w', q1, q2, q3, q4, fun i j a b => (q5 i j a b).trans (k3 i j a (by omega) (by omega))⟩
theorem px_clear {o oP nf nd : Nat} (ho : px_to o) (hd : oP + 26 < o) (h24 : nf ≤ 24) {w : fa_W} (h14 : w oP 14 = (nf : Int)) (hz : px_pz oP nd w) : ∃ w', fm_Typing_clear o oP w = some w' ∧ px_TI o oP nf nd 0 (75 + 2 * nf) (fun k => k) px_a0 false (fun k => k) (List.range (75 + 2 * nf)) 0 w' ∧ ∀ i j, (i < o ∨ o + 16 < i) → w' i j = w i j := by
  unfold fm_Typing_clear fm_Row_clear
  obtain ⟨FU, hFU⟩ : ∃ F, F = fa_FU := ⟨_, rfl⟩
  have hF2 : 74 < FU := by rw [hFU]; unfold fa_FU; omega
  rw [← hFU]
  dsimp only [fa_let]
  rw [ho.1.1, ho.1.2.1, ho.1.2.2.1, ho.1.2.2.2.2.1, ho.1.2.2.2.2.2.1, ho.1.2.2.2.2.2.2.1]
  have n0 : ∀ i j, ¬ (i = o ∧ j = 8) → ¬ ((i = o + 1 ∨ i = o + 3 ∨ i = o + 5 ∨ i = o + 9 ∨ i = o + 11 ∨ i = o + 13) ∧ j = 1) → fa_st (fa_st (fa_st (fa_st (fa_st (fa_st (fa_st w o 8 (fa_bi false)) (o + 1) 1 0) (o + 3) 1 0) (o + 5) 1 0) (o + 9) 1 0) (o + 11) 1 0) (o + 13) 1 0 i j = w i j := by
    intro i j a b
    rw [fa_st_ne (by omega), fa_st_ne (by omega), fa_st_ne (by omega), fa_st_ne (by omega), fa_st_ne (by omega), fa_st_ne (by omega), fa_st_ne (by omega)]
  have c8 : fa_st (fa_st (fa_st (fa_st (fa_st (fa_st (fa_st w o 8 (fa_bi false)) (o + 1) 1 0) (o + 3) 1 0) (o + 5) 1 0) (o + 9) 1 0) (o + 11) 1 0) (o + 13) 1 0 o 8 = fa_bi false := by
    rw [fa_st_ne (by omega), fa_st_ne (by omega), fa_st_ne (by omega), fa_st_ne (by omega), fa_st_ne (by omega), fa_st_ne (by omega), fa_st_eq]
  have c1 : fa_st (fa_st (fa_st (fa_st (fa_st (fa_st (fa_st w o 8 (fa_bi false)) (o + 1) 1 0) (o + 3) 1 0) (o + 5) 1 0) (o + 9) 1 0) (o + 11) 1 0) (o + 13) 1 0 (o + 1) 1 = 0 := by
    rw [fa_st_ne (by omega), fa_st_ne (by omega), fa_st_ne (by omega), fa_st_ne (by omega), fa_st_ne (by omega), fa_st_eq]
  have c3 : fa_st (fa_st (fa_st (fa_st (fa_st (fa_st (fa_st w o 8 (fa_bi false)) (o + 1) 1 0) (o + 3) 1 0) (o + 5) 1 0) (o + 9) 1 0) (o + 11) 1 0) (o + 13) 1 0 (o + 3) 1 = 0 := by
    rw [fa_st_ne (by omega), fa_st_ne (by omega), fa_st_ne (by omega), fa_st_ne (by omega), fa_st_eq]
  have c5 : fa_st (fa_st (fa_st (fa_st (fa_st (fa_st (fa_st w o 8 (fa_bi false)) (o + 1) 1 0) (o + 3) 1 0) (o + 5) 1 0) (o + 9) 1 0) (o + 11) 1 0) (o + 13) 1 0 (o + 5) 1 = 0 := by
    rw [fa_st_ne (by omega), fa_st_ne (by omega), fa_st_ne (by omega), fa_st_eq]
  have c9 : fa_st (fa_st (fa_st (fa_st (fa_st (fa_st (fa_st w o 8 (fa_bi false)) (o + 1) 1 0) (o + 3) 1 0) (o + 5) 1 0) (o + 9) 1 0) (o + 11) 1 0) (o + 13) 1 0 (o + 9) 1 = 0 := by
    rw [fa_st_ne (by omega), fa_st_ne (by omega), fa_st_eq]
  have c11 : fa_st (fa_st (fa_st (fa_st (fa_st (fa_st (fa_st w o 8 (fa_bi false)) (o + 1) 1 0) (o + 3) 1 0) (o + 5) 1 0) (o + 9) 1 0) (o + 11) 1 0) (o + 13) 1 0 (o + 11) 1 = 0 := by
    rw [fa_st_ne (by omega), fa_st_eq]
  have c13 : fa_st (fa_st (fa_st (fa_st (fa_st (fa_st (fa_st w o 8 (fa_bi false)) (o + 1) 1 0) (o + 3) 1 0) (o + 5) 1 0) (o + 9) 1 0) (o + 11) 1 0) (o + 13) 1 0 (o + 13) 1 = 0 := fa_st_eq _ _ _ _
  generalize fa_st (fa_st (fa_st (fa_st (fa_st (fa_st (fa_st w o 8 (fa_bi false)) (o + 1) 1 0) (o + 3) 1 0) (o + 5) 1 0) (o + 9) 1 0) (o + 11) 1 0) (o + 13) 1 0 = w1 at n0 c8 c1 c3 c5 c9 c11 c13 ⊢
  have U0 : px_U o 0 (fun k => k) px_a0 false w1 := ⟨c1, c3, c5, fun k hk => by omega, fun k hk => by omega, fun k hk => by omega, c8, by omega⟩
  obtain ⟨w2, e2, U2, k2⟩ := px_open0 ho U0 (by omega) rfl
  rw [e2]
  dsimp only [fa_l2]
  obtain ⟨w', q1, q2, q3, q4, q5⟩ := px_cl_v ho hd h24 74 0 FU w2 (by omega) hF2 (by rw [k2 _ _ (by omega), n0 _ _ (by omega) (by omega)]; exact h14) U2 (by rw [k2 _ _ (by omega)]; exact c11) (fun v hv => by omega) (by rw [k2 _ _ (by omega)]; exact c13) (by rw [k2 _ _ (by omega)]; exact c9)
  have fr : ∀ i j, (i < o ∨ o + 16 < i) → w' i j = w i j := fun i j a => (q5 i j (by omega) (by omega)).trans ((k2 i j (by omega)).trans (n0 i j (by omega) (by omega)))
  exact ⟨w', q1, ⟨q2, px_a0_I nf, q3, q4, px_pz_ob hz (fun i j _ _ => fr i j (by omega)), fun f _ => px_a0_f f, Nat.le_refl _, h24⟩, fr⟩
