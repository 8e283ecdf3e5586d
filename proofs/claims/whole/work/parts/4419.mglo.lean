def pm_GH : ps_G → Nat → Nat → fa_W → Prop
  | [], _, _, _ => True
  | (x, v, t) :: r, g, a, w => w 190 g = ((pm_cv x : Nat) : Int) ∧ w 189 g = ((a + pt_sz t - 1 : Nat) : Int) ∧ w 191 g = -1 ∧ w 192 g = ((pm_cv v : Nat) : Int) ∧ w 193 g = (g : Int) ∧ pm_H t (g : Int) a w ∧ pm_GH r (g + 1) (a + pt_sz t) w
theorem pm_GH_snoc : ∀ (gs : ps_G) (gl : List Nat) (g : Nat) (k k1 : pk_K) (x v : Nat) (t : pt_T) (w : fa_W), pk_GW gs gl k k1 → pm_GH gs g k.2.2.2 w → pm_GH [(x, v, t)] (g + gs.length) k1.2.2.2 w → pm_GH (gs ++ [(x, v, t)]) g k.2.2.2 w := by
  intro gs
  induction gs with
  | nil =>
    intro gl g k k1 x v t w h _ h2
    cases h
    exact h2
  | cons e r ih =>
    intro gl g k k1 x v t w h h1 h2
    obtain ⟨x0, v0, t0⟩ := e
    obtain ⟨_, _, _, tt, _, k3, h6, h7⟩ := h
    obtain ⟨c1, c2, c3, c4, c5, c6, c7⟩ := h1
    have m := (pk_can_mono t0 tt _ _ h6).2.2.2
    rw [← m] at c7
    refine ⟨c1, c2, c3, c4, c5, c6, ?_⟩
    show pm_GH (r ++ [(x, v, t)]) (g + 1) (k.2.2.2 + pt_sz t0) w
    rw [← m]
    refine ih _ (g + 1) k3 k1 x v t w h7 c7 ?_
    rw [List.length_cons] at h2
    rw [show g + 1 + r.length = g + (r.length + 1) by omega]
    exact h2
theorem pk_GW_mono : ∀ (gs : ps_G) (gl : List Nat) (k k' : pk_K), pk_GW gs gl k k' → pk_ge k k' := by
  intro gs
  induction gs with
  | nil => intro gl k k' h; cases h; exact pk_ge_refl _
  | cons e r ih =>
    intro gl k k' h
    obtain ⟨x0, v0, t0⟩ := e
    obtain ⟨_, _, _, tt, _, k3, h6, h7⟩ := h
    have m := pk_can_mono t0 tt _ _ h6
    exact pk_ge_tr ⟨m.1, m.2.1, m.2.2.1, by omega⟩ (ih _ _ _ h7)
theorem pm_GH_fr : ∀ (gs : ps_G) (gl : List Nat) (k k' : pk_K) (w w' : fa_W) (G : Nat), gl.length + gs.length ≤ 6 → (G < 6 → gl.length + gs.length ≤ G) → pk_GW gs gl k k' → pm_ht G k k' w w' → (∀ o j, (189 ≤ o ∧ o ≤ 193) → j < gl.length + gs.length → w' o j = w o j) → pm_GH gs gl.length k.2.2.2 w → pm_GH gs gl.length k.2.2.2 w' := by
  intro gs
  induction gs with
  | nil => intro gl k k' w w' G _ _ _ _ _ _; trivial
  | cons e r ih =>
    intro gl k k' w w' G hl hG h hf hn H
    obtain ⟨x, v, t⟩ := e
    obtain ⟨_, _, _, tt, hw, k3, h6, h7⟩ := h
    obtain ⟨c1, c2, c3, c4, c5, c6, c7⟩ := H
    rw [List.length_cons] at hl hG hn
    have m := pk_can_mono t tt _ _ h6
    have m2 := pk_GW_mono r _ _ _ h7
    have e1 : (gl ++ [x]).length = gl.length + 1 := by simp
    have i := ih (gl ++ [x]) k3 k' w w' G (by omega) (by omega) h7 (pm_ht_mono hf m.1 (Nat.le_refl _) (Nat.le_refl _) m.2.2.1 (Nat.le_refl _) (by omega) (Nat.le_refl _)) (fun o j p q => hn o j p (by omega))
    rw [e1] at i
    rw [m.2.2.2] at i
    refine ⟨by rw [hn _ _ (by omega) (by omega)]; exact c1, by rw [hn _ _ (by omega) (by omega)]; exact c2, by rw [hn _ _ (by omega) (by omega)]; exact c3, by rw [hn _ _ (by omega) (by omega)]; exact c4, by rw [hn _ _ (by omega) (by omega)]; exact c5, ?_, i c7⟩
    refine pm_H_tr t tt (gl ++ [x]) [(gl.length, v)] _ k k3 w w' G (by omega) (fun q b hb => ?_) h6 hw (fun b hb => ?_) (pm_ht_mono hf (Nat.le_refl _) m2.1 m2.2.1 (Nat.le_refl _) m2.2.2.1 (Nat.le_refl _) m2.2.2.2) c6
    · rw [List.mem_singleton] at hb
      subst hb
      dsimp only
      omega
    · rw [List.mem_singleton] at hb
      subst hb
      exact Or.inl (by dsimp only; omega)
/-- what reading a whole text never touches -/
def pm_fw (w w' : fa_W) : Prop := (∀ o k, (o ≤ 180 ∨ o = 182 ∨ o = 183 ∨ o = 196 ∨ o = 197 ∨ 199 ≤ o) → w' o k = w o k) ∧ ∀ k, (k ≤ 15 ∨ (22 ≤ k ∧ k ≤ 25) ∨ k = 31 ∨ k = 32 ∨ 36 ≤ k) → w' 181 k = w 181 k
theorem pm_fw_tr {w w1 w2 : fa_W} (h1 : pm_fw w w1) (h2 : pm_fw w1 w2) : pm_fw w w2 := ⟨fun o k h => (h2.1 o k h).trans (h1.1 o k h), fun k h => (h2.2 k h).trans (h1.2 k h)⟩
theorem pm_fw_refl (w : fa_W) : pm_fw w w := ⟨fun _ _ _ => rfl, fun _ _ => rfl⟩
theorem pm_fo_fw {w w' : fa_W} (h : pm_fo w w') : pm_fw w w' := ⟨fun o k q => h.1 o k (by omega), fun k q => h.2 k (by omega)⟩
theorem pm_fw_st {w w1 : fa_W} {o k : Nat} {v : Int} (h : pm_fw w w1) (hk : (o = 181 ∧ ¬ (k ≤ 15 ∨ (22 ≤ k ∧ k ≤ 25) ∨ k = 31 ∨ k = 32 ∨ 36 ≤ k)) ∨ (184 ≤ o ∧ o ≤ 195) ∨ o = 198) : pm_fw w (fa_st w1 o k v) := ⟨fun i j q => (fa_st_ne (by omega)).trans (h.1 i j q), fun j q => (fa_st_ne (by omega)).trans (h.2 j q)⟩
/-- a name told twice -/
theorem pm_dup {gl : List Nat} {w : fa_W} {x : Nat} (hxn : pk_nm x) (hg : w 181 17 = (gl.length : Int)) (hl : gl.length ≤ 6) (hn : ∀ y ∈ gl, pk_nm y) (hw : ∀ k y, gl[k]? = some y → w 190 k = ((pm_cv y : Nat) : Int)) : ∀ (r : List Nat) (k F : Nat), gl.drop k = r → k + r.length = gl.length → r.length < F → fm_Mod_global_l41 F ((pm_cv x : Nat) : Int) (k : Int) w = if x ∈ r then (fa_l2 (fm_Mod_fails ((w 181 26) - (w 181 34)) w) fun v39 w40 => some w40) else fm_Mod_global_l41 1 ((pm_cv x : Nat) : Int) (gl.length : Int) w := by
  intro r
  induction r with
  | nil =>
    intro k F hd hk hF
    obtain ⟨F, rfl⟩ : ∃ z, F = z + 1 := ⟨F - 1, by omega⟩
    rw [List.length_nil] at hk
    rw [if_neg (by simp)]
    unfold fm_Mod_global_l41
    rw [hg, pb_wr (n := gl.length) (by omega), pb_wr (n := k) (by omega), if_pos (by omega), if_pos (by omega)]
  | cons y r ih =>
    intro k F hd hk hF
    obtain ⟨F, rfl⟩ : ∃ z, F = z + 1 := ⟨F - 1, by omega⟩
    rw [List.length_cons] at hk hF
    have gk : gl[k]? = some y := by
      have := congrArg (fun l => l[0]?) hd
      simpa using this
    have gd : gl.drop (k + 1) = r := by
      have := congrArg List.tail hd
      simpa using this
    have ny : pk_nm y := hn y (List.mem_of_getElem? gk)
    have l1 := pm_cv_lt hxn.1
    have l2 := pm_cv_lt ny.1
    have i := ih (k + 1) F gd (by omega) (by omega)
    conv => lhs; unfold fm_Mod_global_l41
    rw [hg, pb_wr (n := gl.length) (by omega), pb_wr (n := k) (by omega), if_neg (by omega), pb_ix (show k < 6 by omega) (by decide)]
    dsimp only [Option.bind_some]
    rw [hw k y gk, pb_wr (n := pm_cv y) (by omega), pb_wr (n := pm_cv x) (by omega)]
    by_cases h : y = x
    · rw [if_pos (by rw [h]), if_pos (by rw [h]; exact List.mem_cons_self)]
    · rw [if_neg (fun q => h (pm_cv_inj ny hxn (by omega)))]
      have e : (x ∈ y :: r) ↔ x ∈ r := by
        rw [List.mem_cons]
        exact ⟨fun q => q.elim (fun z => absurd z.symm h) id, Or.inr⟩
      simp only [e]
      exact i
