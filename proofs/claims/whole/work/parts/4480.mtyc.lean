/-! the reference's first numbers: INT, VARS, nodes, FUNCTIONS -/
def pm_a0 (nd : Nat) (bd : Nat → Nat) (k : Nat) : Option (Nat × Nat) := if 125 + nd ≤ k then some (1 + (k - 125 - nd), 125 + bd (k - 125 - nd)) else none
theorem pm_a0_f (nd : Nat) (bd : Nat → Nat) (f : Nat) : pm_a0 nd bd (125 + nd + f) = some (1 + f, 125 + bd f) := by
  unfold pm_a0
  rw [if_pos (by omega), show 125 + nd + f - 125 - nd = f by omega]
theorem pm_a0_I {nf nd : Nat} {bd : Nat → Nat} (h24 : nf ≤ 24) (hb : ∀ f, f < nf → bd f < nd) : pu_I (125 + nd + nf) (fun k => k) (pm_a0 nd bd) (fun k => k) (List.range (125 + nd + nf)) 0 := by
  refine ⟨List.nodup_range, fun k => by rw [List.mem_range]; exact ⟨fun h => ⟨h, rfl⟩, fun h => h.1⟩, by rw [List.length_range]; rfl, by omega, rfl, ?_, fun k hk a b e => ?_, fun _ => 0, fun k hk => ⟨hk, rfl, Nat.le_refl _, hk, fun _ => ⟨rfl, rfl⟩, fun z => absurd rfl z⟩⟩
  · unfold pm_a0; rw [if_neg (by omega)]
  · unfold pm_a0 at e
    split at e
    · cases e
      have := hb (k - 125 - nd) (by omega)
      omega
    · cases e
theorem pm_U_ext {T : Nat} {up up' : Nat → Nat} {ar ar' : pu_A} {cl : Bool} {w : fa_W} (h : pm_U T up ar cl w) (e1 : ∀ k, k < T → up' k = up k) (e2 : ∀ k, k < T → ar' k = ar k) : pm_U T up' ar' cl w := by
  obtain ⟨h1, h2, h3, h4, h5, h6⟩ := h
  exact ⟨h1, h2, fun k hk => by rw [e1 k hk]; exact h3 k hk, fun k hk => by rw [h4 k hk]; unfold pm_so; rw [e2 k hk], fun k hk a b q => h5 k hk a b (by rw [← e2 k hk]; exact q), h6⟩
theorem pm_al0 {T : Nat} {nd : Nat} {bd : Nat → Nat} {w : fa_W} (hU : pm_U T (fun k => k) (pm_a0 nd bd) false w) (hT : T < 400) (s a b : Int) (hs : s = if T = 0 then 1 else if pm_a0 nd bd T = none then 0 else 2) (hx : ∀ c d, pm_a0 nd bd T = some (c, d) → a = (c : Int) ∧ b = (d : Int)) : ∃ w', fm_Mod_type2 s a b w = some ((T : Int), w') ∧ pm_U (T + 1) (fun k => k) (pm_a0 nd bd) false w' ∧ pm_tf w w' := by
  obtain ⟨w', e1, e2, e3⟩ := pm_alloc hU hT (pm_a0 nd bd T) s a b hs hx
  refine ⟨w', e1, pm_U_ext e2 (fun k hk => ?_) (fun k hk => ?_), e3⟩
  · unfold pu_set; split
    · assumption
    · rfl
  · unfold pu_set; split
    · rename_i h; rw [h]
    · rfl
/-- FUNCTIONS -/
theorem pm_cl_f {nf nd : Nat} {bd : Nat → Nat} (h24 : nf ≤ 24) (h100 : nd ≤ 100) (hb : ∀ f, f < nf → bd f < nd) : ∀ (d x F : Nat) (w : fa_W), x + d = nf → d < F → w 181 17 + w 181 18 = (nf : Int) → pm_U (125 + nd + x) (fun k => k) (pm_a0 nd bd) false w → (∀ n, n < nd → w 203 n = ((125 + n : Nat) : Int)) → (∀ v, v < 124 → w 204 v = ((1 + v : Nat) : Int)) → (∀ f, f < nf → w 189 f = (bd f : Int)) → (∀ f, f < x → w 206 f = ((125 + nd + f : Nat) : Int)) → ∃ w', fm_Mod_typesAll_l68 F 0 (x : Int) w = fm_Mod_typesAll_l95 fa_FU 0 0 w' ∧ pm_U (125 + nd + nf) (fun k => k) (pm_a0 nd bd) false w' ∧ (∀ f, f < nf → w' 206 f = ((125 + nd + f : Nat) : Int)) ∧ ∀ i j, ¬ (199 ≤ i ∧ i ≤ 202) → i ≠ 206 → ¬ (i = 181 ∧ (j = 43 ∨ j = 44)) → w' i j = w i j := by
  intro d
  induction d with
  | zero =>
    intro x F w hx hF h17 hU h1 h2 h3 h4
    obtain ⟨F, rfl⟩ : ∃ z, F = z + 1 := ⟨F - 1, by omega⟩
    have e : x = nf := by omega
    subst e
    refine ⟨w, ?_, hU, h4, fun _ _ _ _ _ => rfl⟩
    show (if fa_wr (fm_Mod_functions w) ≤ fa_wr (x : Int) then _ else _) = _
    unfold fm_Mod_functions
    rw [h17, if_pos (Int.le_refl _)]
  | succ d ih =>
    intro x F w hx hF h17 hU h1 h2 h3 h4
    obtain ⟨F, rfl⟩ : ∃ z, F = z + 1 := ⟨F - 1, by omega⟩
    have hbx := hb x (by omega)
    obtain ⟨w1, e1, U1, t1⟩ := pm_al0 hU (by omega) 2 ((1 + x : Nat) : Int) ((125 + bd x : Nat) : Int) (by rw [if_neg (by omega), pm_a0_f, if_neg (by simp)]) (fun c d z => by rw [pm_a0_f] at z; cases z; exact ⟨rfl, rfl⟩)
    have e : fm_Mod_functionType (x : Int) w = some (((125 + nd + x : Nat) : Int), w1) := by
      unfold fm_Mod_functionType
      rw [pb_ix (n := 124) (by omega) (by omega), pb_ix (n := 24) (by omega) (by omega)]
      dsimp only [Option.bind_some]
      rw [h3 x (by omega), pb_ix (n := 101) (by omega) (by omega)]
      dsimp only [Option.bind_some]
      rw [h2 x (by omega), h1 _ hbx, e1]
      rfl
    have red : fm_Mod_typesAll_l68 (F + 1) 0 (x : Int) w = fm_Mod_typesAll_l68 F 0 ((x + 1 : Nat) : Int) (fa_st w1 206 x ((125 + nd + x : Nat) : Int)) := by
      show (if fa_wr (fm_Mod_functions w) ≤ fa_wr (x : Int) then _ else _) = _
      unfold fm_Mod_functions
      rw [h17, pb_wr (by omega), pb_wr (by omega), if_neg (by omega), e]
      dsimp only [fa_bd, Option.bind_some]
      rw [pb_ix (n := 24) (by omega) (by omega)]
      rfl
    have kk : ∀ i j, ¬ (199 ≤ i ∧ i ≤ 202) → i ≠ 206 → ¬ (i = 181 ∧ (j = 43 ∨ j = 44)) → fa_st w1 206 x ((125 + nd + x : Nat) : Int) i j = w i j := fun i j a b c => (fa_st_ne (by omega)).trans (t1 i j a c)
    have e206 : fa_st w1 206 x ((125 + nd + x : Nat) : Int) 206 x = ((125 + nd + x : Nat) : Int) := fa_st_eq _ _ _ _
    have o206 : ∀ f, f ≠ x → fa_st w1 206 x ((125 + nd + x : Nat) : Int) 206 f = w 206 f := fun f hf => (fa_st_ne (by omega)).trans (t1 206 f (by omega) (by omega))
    have Un : pm_U (125 + nd + x + 1) (fun k => k) (pm_a0 nd bd) false (fa_st w1 206 x ((125 + nd + x : Nat) : Int)) := pm_U_of U1 (fun i j q => fa_st_ne (by omega))
    rw [red]
    generalize fa_st w1 206 x ((125 + nd + x : Nat) : Int) = w2 at kk e206 o206 Un ⊢
    obtain ⟨w', q1, q2, q3, q4⟩ := ih (x + 1) F w2 (by omega) (by omega) (by rw [kk _ _ (by omega) (by omega) (by omega), kk _ _ (by omega) (by omega) (by omega)]; exact h17) Un (fun n hn => by rw [kk _ _ (by omega) (by omega) (by omega)]; exact h1 n hn) (fun v hv => by rw [kk _ _ (by omega) (by omega) (by omega)]; exact h2 v hv) (fun f hf => by rw [kk _ _ (by omega) (by omega) (by omega)]; exact h3 f hf) (fun f hf => by
      by_cases z : f = x
      · rw [z]; exact e206
      · rw [o206 f z]; exact h4 f (by omega))
    exact ⟨w', q1, q2, q3, fun i j a b c => (q4 i j a b c).trans (kk i j a b c)⟩
/-- nodes -/
theorem pm_cl_n {nf nd : Nat} {bd : Nat → Nat} (h24 : nf ≤ 24) (h100 : nd ≤ 100) (hb : ∀ f, f < nf → bd f < nd) : ∀ (d x F : Nat) (w : fa_W), x + d = nd → d < F → w 181 16 = (nd : Int) → w 181 17 + w 181 18 = (nf : Int) → pm_U (125 + x) (fun k => k) (pm_a0 nd bd) false w → (∀ n, n < x → w 203 n = ((125 + n : Nat) : Int)) → (∀ v, v < 124 → w 204 v = ((1 + v : Nat) : Int)) → (∀ f, f < nf → w 189 f = (bd f : Int)) → ∃ w', fm_Mod_typesAll_l47 F 0 (x : Int) w = fm_Mod_typesAll_l95 fa_FU 0 0 w' ∧ pm_U (125 + nd + nf) (fun k => k) (pm_a0 nd bd) false w' ∧ (∀ n, n < nd → w' 203 n = ((125 + n : Nat) : Int)) ∧ (∀ f, f < nf → w' 206 f = ((125 + nd + f : Nat) : Int)) ∧ ∀ i j, ¬ (199 ≤ i ∧ i ≤ 203) → i ≠ 206 → ¬ (i = 181 ∧ (j = 43 ∨ j = 44)) → w' i j = w i j := by
  intro d
  induction d with
  | zero =>
    intro x F w hx hF h16 h17 hU h1 h2 h3
    obtain ⟨F, rfl⟩ : ∃ z, F = z + 1 := ⟨F - 1, by omega⟩
    have e : x = nd := by omega
    subst e
    obtain ⟨FU, hFU⟩ : ∃ F, F = fa_FU := ⟨_, rfl⟩
    have hF2 : nf < FU := by rw [hFU]; unfold fa_FU; omega
    obtain ⟨w', q1, q2, q3, q4⟩ := pm_cl_f h24 h100 hb nf 0 FU w (by omega) hF2 h17 hU h1 h2 h3 (fun f hf => by omega)
    refine ⟨w', ?_, q2, fun n hn => by rw [q4 _ _ (by omega) (by omega) (by omega)]; exact h1 n hn, q3, fun i j a b c => q4 i j (by omega) b c⟩
    show (if fa_wr (w 181 16) ≤ fa_wr (x : Int) then _ else _) = _
    rw [h16, if_pos (Int.le_refl _), ← hFU]
    rw [show ((0 : Nat) : Int) = 0 from rfl, ← hFU] at q1
    exact q1
  | succ d ih =>
    intro x F w hx hF h16 h17 hU h1 h2 h3
    obtain ⟨F, rfl⟩ : ∃ z, F = z + 1 := ⟨F - 1, by omega⟩
    have an : pm_a0 nd bd (125 + x) = none := by unfold pm_a0; rw [if_neg (by omega)]
    obtain ⟨w1, e1, U1, t1⟩ := pm_al0 hU (by omega) 0 (-1) (-1) (by rw [if_neg (by omega), an, if_pos rfl]) (fun c d z => by rw [an] at z; cases z)
    have red : fm_Mod_typesAll_l47 (F + 1) 0 (x : Int) w = fm_Mod_typesAll_l47 F 0 ((x + 1 : Nat) : Int) (fa_st w1 203 x ((125 + x : Nat) : Int)) := by
      show (if fa_wr (w 181 16) ≤ fa_wr (x : Int) then _ else _) = _
      unfold fm_Mod_typesNode
      rw [h16, pb_wr (by omega), pb_wr (by omega), if_neg (by omega), e1]
      dsimp only [fa_bd, Option.bind_some]
      rw [pb_ix (n := 101) (by omega) (by omega)]
      rfl
    have kk : ∀ i j, ¬ (199 ≤ i ∧ i ≤ 203) → i ≠ 206 → ¬ (i = 181 ∧ (j = 43 ∨ j = 44)) → fa_st w1 203 x ((125 + x : Nat) : Int) i j = w i j := fun i j a b c => (fa_st_ne (by omega)).trans (t1 i j (by omega) c)
    have e203 : fa_st w1 203 x ((125 + x : Nat) : Int) 203 x = ((125 + x : Nat) : Int) := fa_st_eq _ _ _ _
    have o203 : ∀ f, f ≠ x → fa_st w1 203 x ((125 + x : Nat) : Int) 203 f = w 203 f := fun f hf => (fa_st_ne (by omega)).trans (t1 203 f (by omega) (by omega))
    have Un : pm_U (125 + x + 1) (fun k => k) (pm_a0 nd bd) false (fa_st w1 203 x ((125 + x : Nat) : Int)) := pm_U_of U1 (fun i j q => fa_st_ne (by omega))
    rw [red]
    generalize fa_st w1 203 x ((125 + x : Nat) : Int) = w2 at kk e203 o203 Un ⊢
    obtain ⟨w', q1, q2, q3, q3', q4⟩ := ih (x + 1) F w2 (by omega) (by omega) (by rw [kk _ _ (by omega) (by omega) (by omega)]; exact h16) (by rw [kk _ _ (by omega) (by omega) (by omega), kk _ _ (by omega) (by omega) (by omega)]; exact h17) Un (fun f hf => by
      by_cases z : f = x
      · rw [z]; exact e203
      · rw [o203 f z]; exact h1 f (by omega)) (fun v hv => by rw [kk _ _ (by omega) (by omega) (by omega)]; exact h2 v hv) (fun f hf => by rw [kk _ _ (by omega) (by omega) (by omega)]; exact h3 f hf)
    exact ⟨w', q1, q2, q3, q3', fun i j a b c => (q4 i j a b c).trans (kk i j a b c)⟩
/-- VARS -/
theorem pm_cl_v {nf nd : Nat} {bd : Nat → Nat} (h24 : nf ≤ 24) (h100 : nd ≤ 100) (hb : ∀ f, f < nf → bd f < nd) : ∀ (d x F : Nat) (w : fa_W), x + d = 124 → d < F → w 181 16 = (nd : Int) → w 181 17 + w 181 18 = (nf : Int) → pm_U (1 + x) (fun k => k) (pm_a0 nd bd) false w → (∀ v, v < x → w 204 v = ((1 + v : Nat) : Int)) → (∀ f, f < nf → w 189 f = (bd f : Int)) → ∃ w', fm_Mod_typesAll_l20 F 0 (x : Int) w = fm_Mod_typesAll_l95 fa_FU 0 0 w' ∧ pm_U (125 + nd + nf) (fun k => k) (pm_a0 nd bd) false w' ∧ (∀ n, n < nd → w' 203 n = ((125 + n : Nat) : Int)) ∧ (∀ v, v < 124 → w' 204 v = ((1 + v : Nat) : Int)) ∧ (∀ f, f < nf → w' 206 f = ((125 + nd + f : Nat) : Int)) ∧ ∀ i j, ¬ (199 ≤ i ∧ i ≤ 204) → i ≠ 206 → ¬ (i = 181 ∧ (j = 43 ∨ j = 44)) → w' i j = w i j := by
  intro d
  induction d with
  | zero =>
    intro x F w hx hF h16 h17 hU h2 h3
    obtain ⟨F, rfl⟩ : ∃ z, F = z + 1 := ⟨F - 1, by omega⟩
    have e : x = 124 := by omega
    subst e
    obtain ⟨FU, hFU⟩ : ∃ F, F = fa_FU := ⟨_, rfl⟩
    have hF2 : nd < FU := by rw [hFU]; unfold fa_FU; omega
    obtain ⟨w', q1, q2, q3, q3', q4⟩ := pm_cl_n h24 h100 hb nd 0 FU w (by omega) hF2 h16 h17 hU (fun f hf => by omega) h2 h3
    refine ⟨w', ?_, q2, q3, fun v hv => by rw [q4 _ _ (by omega) (by omega) (by omega)]; exact h2 v hv, q3', fun i j a b c => q4 i j (by omega) b c⟩
    show (if 124 ≤ fa_wr ((124 : Nat) : Int) then _ else _) = _
    rw [pb_wr (by omega), if_pos (by omega), ← hFU]
    rw [show ((0 : Nat) : Int) = 0 from rfl, ← hFU] at q1
    exact q1
  | succ d ih =>
    intro x F w hx hF h16 h17 hU h2 h3
    obtain ⟨F, rfl⟩ : ∃ z, F = z + 1 := ⟨F - 1, by omega⟩
    have an : pm_a0 nd bd (1 + x) = none := by unfold pm_a0; rw [if_neg (by omega)]
    obtain ⟨w1, e1, U1, t1⟩ := pm_al0 hU (by omega) 0 (-1) (-1) (by rw [if_neg (by omega), an, if_pos rfl]) (fun c d z => by rw [an] at z; cases z)
    have red : fm_Mod_typesAll_l20 (F + 1) 0 (x : Int) w = fm_Mod_typesAll_l20 F 0 ((x + 1 : Nat) : Int) (fa_st w1 204 x ((1 + x : Nat) : Int)) := by
      show (if 124 ≤ fa_wr (x : Int) then _ else _) = _
      rw [pb_wr (by omega), if_neg (by omega), e1]
      dsimp only [fa_bd, Option.bind_some]
      rw [pb_ix (n := 124) (by omega) (by omega)]
      rfl
    have kk : ∀ i j, ¬ (199 ≤ i ∧ i ≤ 204) → i ≠ 206 → ¬ (i = 181 ∧ (j = 43 ∨ j = 44)) → fa_st w1 204 x ((1 + x : Nat) : Int) i j = w i j := fun i j a b c => (fa_st_ne (by omega)).trans (t1 i j (by omega) c)
    have e204 : fa_st w1 204 x ((1 + x : Nat) : Int) 204 x = ((1 + x : Nat) : Int) := fa_st_eq _ _ _ _
    have o204 : ∀ f, f ≠ x → fa_st w1 204 x ((1 + x : Nat) : Int) 204 f = w 204 f := fun f hf => (fa_st_ne (by omega)).trans (t1 204 f (by omega) (by omega))
    have Un : pm_U (1 + x + 1) (fun k => k) (pm_a0 nd bd) false (fa_st w1 204 x ((1 + x : Nat) : Int)) := pm_U_of U1 (fun i j q => fa_st_ne (by omega))
    rw [red]
    generalize fa_st w1 204 x ((1 + x : Nat) : Int) = w2 at kk e204 o204 Un ⊢
    obtain ⟨w', q1, q2, q3, q3', q3'', q4⟩ := ih (x + 1) F w2 (by omega) (by omega) (by rw [kk _ _ (by omega) (by omega) (by omega)]; exact h16) (by rw [kk _ _ (by omega) (by omega) (by omega), kk _ _ (by omega) (by omega) (by omega)]; exact h17) Un (fun f hf => by
      by_cases z : f = x
      · rw [z]; exact e204
      · rw [o204 f z]; exact h2 f (by omega)) (fun f hf => by rw [kk _ _ (by omega) (by omega) (by omega)]; exact h3 f hf)
    exact ⟨w', q1, q2, q3, q3', q3'', fun i j a b c => (q4 i j a b c).trans (kk i j a b c)⟩
/-- all the first numbers -/
theorem pm_first {nf nd : Nat} {bd : Nat → Nat} (h24 : nf ≤ 24) (h100 : nd ≤ 100) (hb : ∀ f, f < nf → bd f < nd) {w : fa_W} (h16 : w 181 16 = (nd : Int)) (h17 : w 181 17 + w 181 18 = (nf : Int)) (h3 : ∀ f, f < nf → w 189 f = (bd f : Int)) : ∃ w', fm_Mod_typesAll w = fm_Mod_typesAll_l95 fa_FU 0 0 w' ∧ pm_TI nf nd (125 + nd + nf) bd (fun k => k) (pm_a0 nd bd) false (fun k => k) (List.range (125 + nd + nf)) 0 w' ∧ ∀ i j, ¬ (199 ≤ i ∧ i ≤ 204) → i ≠ 206 → ¬ (i = 181 ∧ (j = 43 ∨ j = 44)) → w' i j = w i j := by
  obtain ⟨FU, hFU⟩ : ∃ F, F = fa_FU := ⟨_, rfl⟩
  have hF2 : 1000 < FU := by rw [hFU]; unfold fa_FU; omega
  unfold fm_Mod_typesAll
  rw [← hFU]
  dsimp only [fa_let]
  have n2 : ∀ i j, ¬ (i = 181 ∧ (j = 43 ∨ j = 44)) → fa_st (fa_st w 181 43 0) 181 44 (fa_bi true) i j = w i j := fun i j a => (fa_st_ne (by omega)).trans (fa_st_ne (by omega))
  have U0 : pm_U 0 (fun k => k) (pm_a0 nd bd) false (fa_st (fa_st w 181 43 0) 181 44 (fa_bi true)) := ⟨(fa_st_ne (by omega)).trans (fa_st_eq _ _ _ _), by omega, fun k hk => by omega, fun k hk => by omega, fun k hk => by omega, fa_st_eq _ _ _ _⟩
  generalize fa_st (fa_st w 181 43 0) 181 44 (fa_bi true) = w2 at n2 U0 ⊢
  have an : pm_a0 nd bd 0 = none := by unfold pm_a0; rw [if_neg (by omega)]
  obtain ⟨w1, e1, U1, t1⟩ := pm_al0 U0 (by omega) 1 (-1) (-1) (by rw [if_pos rfl]) (fun c d z => by rw [an] at z; cases z)
  rw [e1]
  dsimp only [fa_bd, Option.bind_some]
  have kk : ∀ i j, ¬ (199 ≤ i ∧ i ≤ 204) → i ≠ 206 → ¬ (i = 181 ∧ (j = 43 ∨ j = 44)) → w1 i j = w i j := fun i j a b c => (t1 i j (by omega) c).trans (n2 i j c)
  obtain ⟨w', q1, q2, q3, q3', q3'', q4⟩ := pm_cl_v h24 h100 hb 124 0 FU w1 (by omega) (by omega) (by rw [kk _ _ (by omega) (by omega) (by omega)]; exact h16) (by rw [kk _ _ (by omega) (by omega) (by omega), kk _ _ (by omega) (by omega) (by omega)]; exact h17) U1 (fun f hf => by omega) (fun f hf => by rw [kk _ _ (by omega) (by omega) (by omega)]; exact h3 f hf)
  rw [← hFU] at q1
  rw [show ((0 : Nat) : Int) = 0 from rfl] at q1 ⊢
  have kf : ∀ i j, ¬ (199 ≤ i ∧ i ≤ 204) → i ≠ 206 → ¬ (i = 181 ∧ (j = 43 ∨ j = 44)) → w' i j = w i j := fun i j a b c => (q4 i j a b c).trans (kk i j a b c)
  exact ⟨w', q1, ⟨q2, pm_a0_I h24 hb, q3, q3', fun f hf => ⟨q3'' f hf, by rw [kf _ _ (by omega) (by omega) (by omega)]; exact h3 f hf⟩, by rw [kf _ _ (by omega) (by omega) (by omega)]; exact h16, h100, h24, fun f _ => pm_a0_f nd bd f, Nat.le_refl _⟩, kf⟩
