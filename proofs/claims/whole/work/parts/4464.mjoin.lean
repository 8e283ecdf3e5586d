/-! the reference's linked TYPES -/
def pm_so (ar : pu_A) (k : Nat) : Int := if k = 0 then 1 else if ar k = none then 0 else 2
def pm_U (T : Nat) (up : Nat → Nat) (ar : pu_A) (cl : Bool) (w : fa_W) : Prop := w 181 43 = (T : Int) ∧ T ≤ 400 ∧ (∀ k, k < T → w 202 k = (up k : Int)) ∧ (∀ k, k < T → w 199 k = pm_so ar k) ∧ (∀ k, k < T → ∀ a b, ar k = some (a, b) → w 200 k = (a : Int) ∧ w 201 k = (b : Int)) ∧ w 181 44 = fa_bi (!cl)
theorem pm_U_of {T : Nat} {up : Nat → Nat} {ar : pu_A} {cl : Bool} {w w' : fa_W} (h : pm_U T up ar cl w) (e : ∀ i j, (199 ≤ i ∧ i ≤ 202) ∨ (i = 181 ∧ (j = 43 ∨ j = 44)) → w' i j = w i j) : pm_U T up ar cl w' := by
  obtain ⟨h1, h2, h3, h4, h5, h6⟩ := h
  exact ⟨by rw [e _ _ (by omega)]; exact h1, h2, fun k hk => by rw [e _ _ (by omega)]; exact h3 k hk, fun k hk => by rw [e _ _ (by omega)]; exact h4 k hk, fun k hk a b q => by rw [e _ _ (by omega), e _ _ (by omega)]; exact h5 k hk a b q, by rw [e _ _ (by omega)]; exact h6⟩
theorem pm_find_l {T : Nat} {up : Nat → Nat} {ar : pu_A} {cl : Bool} {R : Nat → Nat} {w : fa_W} (hU : pm_U T up ar cl w) {d : Nat → Nat} (hd : ∀ k, k < T → R k < T ∧ up (R k) = R k ∧ d k < T ∧ up k < T ∧ (up k = k → R k = k) ∧ (up k ≠ k → R (up k) = R k ∧ d (up k) < d k)) : ∀ (m F k : Nat) (a1 : Int), k < T → d k ≤ m → m < F → fm_Mod_find_l2 a1 w F (k : Int) = some (R k : Int) := by
  intro m
  induction m with
  | zero =>
    intro F k a1 hk hm hF
    obtain ⟨F, rfl⟩ : ∃ z, F = z + 1 := ⟨F - 1, by omega⟩
    obtain ⟨c1, c2, c3, c4, c5, c6⟩ := hd k hk
    have hT := hU.2.1
    have e : up k = k := by
      by_cases e : up k = k
      · exact e
      · have := (c6 e).2; omega
    unfold fm_Mod_find_l2
    rw [pb_ix (n := 1200) (by omega) (by omega)]
    dsimp only [Option.bind_some]
    rw [hU.2.2.1 k hk, e, if_pos rfl, c5 e]
  | succ m ih =>
    intro F k a1 hk hm hF
    obtain ⟨F, rfl⟩ : ∃ z, F = z + 1 := ⟨F - 1, by omega⟩
    obtain ⟨c1, c2, c3, c4, c5, c6⟩ := hd k hk
    have hT := hU.2.1
    unfold fm_Mod_find_l2
    rw [pb_ix (n := 1200) (by omega) (by omega)]
    dsimp only [Option.bind_some]
    rw [hU.2.2.1 k hk, pb_wr (by omega), pb_wr (by omega)]
    by_cases e : up k = k
    · rw [if_pos (by omega), c5 e]
    · rw [if_neg (by omega)]
      dsimp only [fa_let]
      obtain ⟨e1, e2⟩ := c6 e
      have := ih F (up k) a1 c4 (by omega) (by omega)
      rw [e1] at this
      exact this
theorem pm_find {T : Nat} {up : Nat → Nat} {ar : pu_A} {cl : Bool} {R : Nat → Nat} {l : List Nat} {N : Nat} {w : fa_W} (hI : pu_I T up ar R l N) (hU : pm_U T up ar cl w) {k : Nat} (hk : k < T) : fm_Mod_find (k : Int) w = some (R k : Int) := by
  obtain ⟨d, hd⟩ := pu_walk hI
  have hT := hU.2.1
  have dk := (hd k hk).2.2.1
  obtain ⟨FU, hFU, hF2⟩ : ∃ F, F = fa_FU ∧ 1000 < F := ⟨_, rfl, by unfold fa_FU; omega⟩
  unfold fm_Mod_find
  rw [← hFU]
  exact pm_find_l hU hd (d k) FU k _ hk (Nat.le_refl _) (by omega)
def pm_uf (w w' : fa_W) : Prop := ∀ i j, i ≠ 202 → ¬ (i = 181 ∧ j = 44) → w' i j = w i j
theorem pm_uf_tr {w w1 w2 : fa_W} (h1 : pm_uf w w1) (h2 : pm_uf w1 w2) : pm_uf w w2 := fun i j a b => (h2 i j a b).trans (h1 i j a b)
def pm_UQ (T : Nat) (ar : pu_A) (ps : List (Nat × Nat)) (up : Nat → Nat) (cl : Bool) (c : Nat) (w w' : fa_W) : Prop := ∃ up' cl' R' l' N', pu_I T up' ar R' l' N' ∧ pm_U T up' ar cl' w' ∧ l'.length ≤ c ∧ pu_P T ar ps up cl up' cl' ∧ pm_uf w w'
theorem pm_U_link {T : Nat} {up : Nat → Nat} {ar : pu_A} {cl : Bool} {w : fa_W} (hU : pm_U T up ar cl w) {r s : Nat} : pm_U T (pu_set up r s) ar cl (fa_st w 202 r (s : Int)) := by
  obtain ⟨h1, h2, h3, h4, h5, h6⟩ := hU
  refine ⟨by rw [fa_st_ne (by omega)]; exact h1, h2, fun k hk => ?_, fun k hk => by rw [fa_st_ne (by omega)]; exact h4 k hk, fun k hk a b e => by rw [fa_st_ne (by omega), fa_st_ne (by omega)]; exact h5 k hk a b e, by rw [fa_st_ne (by omega)]; exact h6⟩
  by_cases e : k = r
  · subst e
    rw [pu_set_eq, fa_st_eq]
  · rw [pu_set_ne _ _ e, fa_st_ne (by omega)]
    exact h3 k hk
theorem pm_so_wr (ar : pu_A) (k : Nat) : fa_wr (pm_so ar k) = pm_so ar k := by
  unfold pm_so
  split
  · exact fa_wr_id (by omega) (by omega)
  · split <;> exact fa_wr_id (by omega) (by omega)
set_option maxHeartbeats 1000000 in
theorem pm_joins {T : Nat} {ar : pu_A} : ∀ (n : Nat) (up : Nat → Nat) (cl : Bool) (R : Nat → Nat) (l : List Nat) (N a b : Nat) (w : fa_W), l.length < n → pu_I T up ar R l N → pm_U T up ar cl w → a < T → b < T → pb_ok (fm_Mod_joins n (a : Int) (b : Int) w) (pm_UQ T ar [(a, b)] up cl l.length w) := by
  intro n
  induction n with
  | zero => intro up cl R l N a b w hn; omega
  | succ n ih =>
    intro up cl R l N a b w hn hI hU ha hb
    have hT := hU.2.1
    obtain ⟨ra1, ra2, ra3⟩ := pu_root hI ha
    obtain ⟨rb1, rb2, rb3⟩ := pu_root hI hb
    have hab := hI.2.2.2.2.2.2.1
    show pb_ok (fm_Mod_joins_b (fm_Mod_joins n) (a : Int) (b : Int) w) _
    unfold fm_Mod_joins_b
    rw [pm_find hI hU ha, pm_find hI hU hb]
    dsimp only [Option.bind_some]
    rw [pb_wr (n := R a) (by omega), pb_wr (n := R b) (by omega)]
    by_cases e1 : R a = R b
    · rw [if_pos (by omega)]
      exact pb_some ⟨up, cl, R, l, N, hI, hU, Nat.le_refl _, pu_P_eq hI ha hb e1 (pu_P_nil T ar up cl), fun _ _ _ _ => rfl⟩
    rw [if_neg (by omega), pb_ix (n := 1200) (by omega) (by omega), pb_ix (n := 1200) (by omega) (by omega)]
    dsimp only [Option.bind_some, fa_let]
    rw [hU.2.2.2.1 _ ra2, hU.2.2.2.1 _ rb2, pm_so_wr, pm_so_wr]
    have se : ∀ k, (pm_so ar k = 0 ↔ k ≠ 0 ∧ ar k = none) ∧ (pm_so ar k = 2 ↔ k ≠ 0 ∧ ar k ≠ none) := by
      intro k
      unfold pm_so
      by_cases z : k = 0
      · rw [if_pos z]; exact ⟨⟨fun q => by omega, fun q => absurd z q.1⟩, ⟨fun q => by omega, fun q => absurd z q.1⟩⟩
      · rw [if_neg z]
        by_cases y : ar k = none
        · rw [if_pos y]; exact ⟨⟨fun _ => ⟨z, y⟩, fun _ => rfl⟩, ⟨fun q => by omega, fun q => absurd y q.2⟩⟩
        · rw [if_neg y]; exact ⟨⟨fun q => by omega, fun q => absurd q.2 y⟩, ⟨fun _ => ⟨z, y⟩, fun _ => rfl⟩⟩
    have erl : ∀ r, r ∈ l → (l.erase r).length + 1 = l.length := by
      intro r hr
      have := List.length_pos_of_mem hr
      rw [List.length_erase_of_mem hr]
      omega
    by_cases o1 : pm_so ar (R a) = 0
    · rw [if_pos o1]
      have z := (se (R a)).1.mp o1
      have e := erl _ ra1
      exact pb_some ⟨_, cl, _, _, _, pu_link hI ra1 rb1 e1 z.1, pm_U_link hU, by omega, pu_P_lk hI ha hb (Or.inl ⟨rfl, rfl⟩) e1 z.1 (Or.inl ⟨z.2, rfl⟩) (pu_P_nil T ar _ cl), fun i j q1 q2 => fa_st_ne (by omega)⟩
    rw [if_neg o1]
    have j70 : R b ≠ 0 → ((ar (R b) = none) ∨ (∃ x y x' y', ar (R a) = some (x, y) ∧ ar (R b) = some (x', y'))) → pb_ok (fm_Mod_joins_j70 (a : Int) (b : Int) (fm_Mod_joins n) (R a : Int) (R b : Int) w) (pm_UQ T ar [(a, b)] up cl l.length w) := by
      intro b0 hk
      have e := erl _ rb1
      have I1 := pu_link hI rb1 ra1 (Ne.symm e1) b0
      have U1 := pm_U_link (r := R b) (s := R a) hU
      unfold fm_Mod_joins_j70
      rw [pb_ix (n := 1200) (by omega) (by omega), pb_ix (n := 1200) (by omega) (by omega)]
      dsimp only [Option.bind_some, fa_let]
      have f1 : pm_uf w (fa_st w 202 (R b) (R a : Int)) := fun i j q1 q2 => fa_st_ne (by omega)
      generalize fa_st w 202 (R b) (R a : Int) = w1 at U1 f1 ⊢
      rw [U1.2.2.2.1 _ rb2, pm_so_wr]
      rcases hk with hk | ⟨x, y, x', y', k1, k2⟩
      · rw [if_neg (fun q => ((se (R b)).2.mp q).2 hk)]
        exact pb_some ⟨_, cl, _, _, _, I1, U1, by omega, pu_P_lk hI ha hb (Or.inr ⟨rfl, rfl⟩) (Ne.symm e1) b0 (Or.inl ⟨hk, rfl⟩) (pu_P_nil T ar _ cl), f1⟩
      · rw [if_pos ((se (R b)).2.mpr ⟨b0, by rw [k2]; simp⟩)]
        have la := U1.2.2.2.2.1 _ ra2 x y k1
        have lb := U1.2.2.2.2.1 _ rb2 x' y' k2
        have ba := hab _ ra2 x y k1
        have bb := hab _ rb2 x' y' k2
        rw [la.1, lb.1]
        refine pb_bindm (ih _ cl _ (l.erase (R b)) (N + 1) x x' w1 (by omega) I1 U1 ba.1 bb.1) (fun w2 q => ?_)
        obtain ⟨up2, cl2, R2, l2, N2, I2, U2, l2e, P2, f2⟩ := q
        have la := U2.2.2.2.2.1 _ ra2 x y k1
        have lb := U2.2.2.2.2.1 _ rb2 x' y' k2
        rw [la.2, lb.2]
        refine pb_bindm (ih up2 cl2 R2 l2 N2 y y' w2 (by omega) I2 U2 ba.2 bb.2) (fun w3 q => ?_)
        obtain ⟨up3, cl3, R3, l3, N3, I3, U3, l3e, P3, f3⟩ := q
        refine pb_some ⟨up3, cl3, R3, l3, N3, I3, U3, by omega, ?_, pm_uf_tr f1 (pm_uf_tr f2 f3)⟩
        refine pu_P_lk (ds := [(x, x')] ++ [(y, y')]) hI ha hb (Or.inr ⟨rfl, rfl⟩) (Ne.symm e1) b0 (Or.inr ⟨x', y', x, y, k2, k1, fun val => ?_⟩) (by rw [List.append_nil]; exact pu_P_tr P2 P3)
        constructor
        · intro h
          exact ⟨(h (x, x') (by simp)).symm, (h (y, y') (by simp)).symm⟩
        · intro h p q
          rcases List.mem_cons.mp q with rfl | q
          · exact h.1.symm
          · rcases List.mem_cons.mp q with rfl | q
            · exact h.2.symm
            · cases q
    by_cases o2 : pm_so ar (R b) = 0
    · rw [if_pos o2]
      have z := (se (R b)).1.mp o2
      exact j70 z.1 (Or.inl z.2)
    rw [if_neg o2]
    have na : R a = 0 ∨ ∃ x y, ar (R a) = some (x, y) := by
      by_cases z : R a = 0
      · exact Or.inl z
      · cases e : ar (R a) with
        | none => exact absurd ((se (R a)).1.mpr ⟨z, e⟩) o1
        | some q => exact Or.inr ⟨q.1, q.2, rfl⟩
    have nb : R b = 0 ∨ ∃ x y, ar (R b) = some (x, y) := by
      by_cases z : R b = 0
      · exact Or.inl z
      · cases e : ar (R b) with
        | none => exact absurd ((se (R b)).1.mpr ⟨z, e⟩) o2
        | some q => exact Or.inr ⟨q.1, q.2, rfl⟩
    have a00 : ar 0 = none := hI.2.2.2.2.2.1
    by_cases o3 : pm_so ar (R a) = pm_so ar (R b)
    · rw [if_pos o3]
      rcases na with na | ⟨x, y, na⟩
      · rcases nb with nb | ⟨x', y', nb⟩
        · omega
        · exfalso
          have z : R b ≠ 0 := fun z => by rw [z, a00] at nb; cases nb
          have := (se (R b)).2.mpr ⟨z, by rw [nb]; simp⟩
          rw [← o3] at this
          exact ((se (R a)).2.mp this).1 na
      · have z : R a ≠ 0 := fun z => by rw [z, a00] at na; cases na
        have := (se (R a)).2.mpr ⟨z, by rw [na]; simp⟩
        rw [o3] at this
        have y2 := (se (R b)).2.mp this
        rcases nb with nb | ⟨x', y', nb⟩
        · exact absurd nb y2.1
        · exact j70 y2.1 (Or.inr ⟨x, y, x', y', na, nb⟩)
    · rw [if_neg o3]
      have U' : pm_U T up ar true (fa_st w 181 44 (fa_bi false)) := by
        obtain ⟨h1, h2, h3, h4, h5, h6⟩ := hU
        exact ⟨by rw [fa_st_ne (by omega)]; exact h1, h2, fun k hk => by rw [fa_st_ne (by omega)]; exact h3 k hk, fun k hk => by rw [fa_st_ne (by omega)]; exact h4 k hk, fun k hk a b e => by rw [fa_st_ne (by omega), fa_st_ne (by omega)]; exact h5 k hk a b e, fa_st_eq _ _ _ _⟩
      refine pb_some ⟨up, true, R, l, N, hI, U', Nat.le_refl _, pu_P_cl hI ha hb ?_ (pu_P_nil T ar up true), fun i j q1 q2 => fa_st_ne q2⟩
      rcases na with na | na
      · rcases nb with nb | nb
        · omega
        · exact Or.inl ⟨na, nb⟩
      · rcases nb with nb | nb
        · exact Or.inr ⟨nb, na⟩
        · exfalso
          obtain ⟨x, y, na⟩ := na
          obtain ⟨x', y', nb⟩ := nb
          have za : R a ≠ 0 := fun z => by rw [z, a00] at na; cases na
          have zb : R b ≠ 0 := fun z => by rw [z, a00] at nb; cases nb
          exact o3 (((se (R a)).2.mpr ⟨za, by rw [na]; simp⟩).trans ((se (R b)).2.mpr ⟨zb, by rw [nb]; simp⟩).symm)
