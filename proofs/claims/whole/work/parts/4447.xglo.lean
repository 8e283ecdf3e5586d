/-! the class's GLOBALS lie in a Program (at o) -/
def px_GH (o : Nat) (ins : List Nat) : ps_G → Nat → Nat → fa_W → Prop
  | [], _, _, _ => True
  | (x, v, t) :: r, g, a, w => w (o + 18) g = (x : Int) ∧ w (o + 14) g = (v : Int) ∧ w (o + 20) g = ((a + pt_sz t - 1 : Nat) : Int) ∧ px_H o ins t (g : Int) a w ∧ px_GH o ins r (g + 1) (a + pt_sz t) w
theorem px_GH_snoc {o : Nat} {ins : List Nat} : ∀ (gs : ps_G) (gl : List Nat) (g : Nat) (k k1 : pk_K) (x v : Nat) (t : pt_T) (w : fa_W), pk_GW gs gl k k1 → px_GH o ins gs g k.2.2.2 w → px_GH o ins [(x, v, t)] (g + gs.length) k1.2.2.2 w → px_GH o ins (gs ++ [(x, v, t)]) g k.2.2.2 w := by
  intro gs
  induction gs with
  | nil =>
    intro gl g k k1 x v t w h _ h2
    cases h
    exact h2
  | cons e r ih =>
    intro gl g k k1 x v t w h h1 h2
    obtain ⟨x0, v0, t0⟩ := e
    obtain ⟨_, _, _, tt, _, k3, h6, h7⟩ := h
    obtain ⟨c1, c2, c3, c6, c7⟩ := h1
    have m := (pk_can_mono t0 tt _ _ h6).2.2.2
    rw [← m] at c7
    refine ⟨c1, c2, c3, c6, ?_⟩
    show px_GH o ins (r ++ [(x, v, t)]) (g + 1) (k.2.2.2 + pt_sz t0) w
    rw [← m]
    refine ih _ (g + 1) k3 k1 x v t w h7 c7 ?_
    rw [List.length_cons] at h2
    rw [show g + 1 + r.length = g + (r.length + 1) by omega]
    exact h2
theorem px_GH_fr {la lt si nd sl : Nat} {ins l : List Nat} (h18 : la ≤ 18) (hi : ∀ x ∈ ins, 24 ≤ x ∧ x < 24 + lt) {w w' : fa_W} (hf : px_fr la lt si nd sl w w') : ∀ (gs : ps_G) (gl : List Nat) (k k' : pk_K), gl.length + gs.length ≤ 6 → k'.1 ≤ la → k'.2.1 ≤ ins.length → k'.2.2.1 ≤ si → k'.2.2.2 ≤ nd → pk_GW gs gl k k' → px_GH 8 ins gs gl.length k.2.2.2 w → px_GH 8 (ins ++ l) gs gl.length k.2.2.2 w' := by
  intro gs
  induction gs with
  | nil => intro gl k k' _ _ _ _ _ _ _; trivial
  | cons e r ih =>
    intro gl k k' hl a1 a2 a3 a4 h H
    obtain ⟨x, v, t⟩ := e
    obtain ⟨_, _, _, tt, hw, k3, h6, h7⟩ := h
    obtain ⟨c1, c2, c3, c6, c7⟩ := H
    rw [List.length_cons] at hl
    have m := pk_can_mono t tt _ _ h6
    obtain ⟨n1, n2, n3, n4⟩ := pk_GW_mono r _ _ _ h7
    have e1 : (gl ++ [x]).length = gl.length + 1 := by simp
    have i := ih (gl ++ [x]) k3 k' (by omega) a1 a2 a3 a4 h7
    rw [e1, m.2.2.2] at i
    refine ⟨(hf.2.2.2.2.2.2.2.1 _).trans c1, (hf.2.2.2.2.2.1 22 _ (Or.inl rfl) (Or.inl (by omega))).trans c2, (hf.2.2.2.2.2.2.1 _ (by omega)).trans c3, ?_, i c7⟩
    have hf' : px_fr k3.1 lt k3.2.2.1 k3.2.2.2 0 w w' := px_fr_tr (px_fr_refl _ _ _ _ _ _) hf ⟨by dsimp only; omega, Nat.le_refl _, by dsimp only; omega, by dsimp only; omega⟩ (Nat.zero_le _)
    exact px_H_fr (la := k.1) (li := k.2.1) (si := k.2.2.1) (nd := k.2.2.2) (la' := k3.1) (li' := k3.2.1) (si' := k3.2.2.1) (nd' := k3.2.2.2) tt l h6 hw (fun b hb => by
      rw [List.mem_singleton] at hb
      subst hb
      exact Or.inl (by dsimp only; omega)) ⟨by omega, by omega⟩ hi hf' c6
