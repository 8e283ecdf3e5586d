/-! the program that is kept: numbers in the order of the text, FUNCTIONS from B on behind the GLOBALS -/
def pn_can (B : Nat) : pt_T → pk_K → pk_K → Prop := pt_rec
  (fun _ k k' => k' = (k.1, k.2.1, k.2.2.1, k.2.2.2 + 1))
  (fun _ _ k k' => k' = (k.1, k.2.1, k.2.2.1, k.2.2.2 + 1))
  (fun _ _ k k' => k' = (k.1, k.2.1, k.2.2.1, k.2.2.2 + 1))
  (fun d k k' => d = k.2.2.2 ∧ k' = (k.1, k.2.1, k.2.2.1, k.2.2.2 + 1))
  (fun f _ _ r k k' => f = B + k.1 ∧ ∃ k1, r (k.1 + 1, k.2) k1 ∧ k' = (k1.1, k1.2.1, k1.2.2.1, k1.2.2.2 + 1))
  (fun _ _ _ ra rb rc k k' => ∃ k1 k2 k3, ra k k1 ∧ rb k1 k2 ∧ rc k2 k3 ∧ k' = (k3.1, k3.2.1, k3.2.2.1, k3.2.2.2 + 1))
  (fun v _ _ _ ra rb k k' => ∃ k1 k2, ra k k1 ∧ v = 24 + k1.2.1 ∧ rb (k1.1, k1.2.1 + 1, k1.2.2) k2 ∧ k' = (k2.1, k2.2.1, k2.2.2.1, k2.2.2.2 + 1))
  (fun _ _ _ ra rb k k' => ∃ k1 k2, ra k k1 ∧ rb k1 k2 ∧ k' = (k2.1, k2.2.1, k2.2.2.1, k2.2.2.2 + 1))
  (fun s _ _ ra rb k k' => ∃ k1 k2, ra k k1 ∧ s = k1.2.2.1 ∧ rb (k1.1, k1.2.1, k1.2.2.1 + 1, k1.2.2.2) k2 ∧ k' = (k2.1, k2.2.1, k2.2.2.1, k2.2.2.2 + 1))
  (fun _ _ => False)
theorem pn_mono {B : Nat} (t : pt_T) (ht : pt_tw t) : ∀ k k', pn_can B t k k' → k.1 ≤ k'.1 ∧ k.2.1 ≤ k'.2.1 ∧ k.2.2.1 ≤ k'.2.2.1 ∧ k'.2.2.2 = k.2.2.2 + pt_sz t := by
  induction t, ht using pt_indh with
  | num v => intro k k' h; cases h; exact ⟨Nat.le_refl _, Nat.le_refl _, Nat.le_refl _, rfl⟩
  | var v x => intro k k' h; cases h; exact ⟨Nat.le_refl _, Nat.le_refl _, Nat.le_refl _, rfl⟩
  | glo g x => intro k k' h; cases h; exact ⟨Nat.le_refl _, Nat.le_refl _, Nat.le_refl _, rfl⟩
  | dead d => intro k k' h; cases h.2; exact ⟨Nat.le_refl _, Nat.le_refl _, Nat.le_refl _, rfl⟩
  | lam f x b tb ih =>
    intro k k' h
    obtain ⟨_, k1, h1, rfl⟩ := h
    have := ih _ _ h1
    have e : pt_sz (pt_lam f x b) = pt_sz b + 1 := rfl
    dsimp only at this ⊢
    omega
  | ife a b c ta tb tc iha ihb ihc =>
    intro k k' h
    obtain ⟨k1, k2, k3, h1, h2, h3, rfl⟩ := h
    have i1 := iha _ _ h1
    have i2 := ihb _ _ h2
    have i3 := ihc _ _ h3
    have e : pt_sz (pt_ife a b c) = pt_sz a + pt_sz b + pt_sz c + 1 := rfl
    dsimp only
    omega
  | lt v x a b ta tb iha ihb =>
    intro k k' h
    obtain ⟨k1, k2, h1, _, h2, rfl⟩ := h
    have i1 := iha _ _ h1
    have i2 := ihb _ _ h2
    have e : pt_sz (pt_let v x a b) = pt_sz a + pt_sz b + 1 := rfl
    dsimp only at i2 ⊢
    omega
  | op s a b ta tb iha ihb =>
    intro k k' h
    obtain ⟨k1, k2, h1, h2, rfl⟩ := h
    have i1 := iha _ _ h1
    have i2 := ihb _ _ h2
    have e : pt_sz (pt_op s a b) = pt_sz a + pt_sz b + 1 := rfl
    dsimp only
    omega
  | site s a b ta tb iha ihb =>
    intro k k' h
    obtain ⟨k1, k2, h1, _, h2, rfl⟩ := h
    have i1 := iha _ _ h1
    have i2 := ihb _ _ h2
    have e : pt_sz (pt_site s a b) = pt_sz a + pt_sz b + 1 := rfl
    dsimp only at i2 ⊢
    omega
/-- numbers as they are told -/
theorem pn_of {G : Nat} (t : pt_T) (ht : pt_tw t) : ∀ k k', pk_can t k k' → pn_can G (pk_rn G t) k k' := by
  induction t, ht using pt_indh with
  | num v => intro k k' h; exact h
  | var v x => intro k k' h; exact h
  | glo g x => intro k k' h; exact h
  | dead d => intro k k' h; exact h
  | lam f x b tb ih =>
    intro k k' h
    obtain ⟨e, k1, h1, rfl⟩ := h
    refine ⟨?_, k1, ih _ _ h1, rfl⟩
    show pk_rf G f = _
    unfold pk_rf
    rw [if_neg (by omega)]
    omega
  | ife a b c ta tb tc iha ihb ihc =>
    intro k k' h
    obtain ⟨k1, k2, k3, h1, h2, h3, rfl⟩ := h
    exact ⟨k1, k2, k3, iha _ _ h1, ihb _ _ h2, ihc _ _ h3, rfl⟩
  | lt v x a b ta tb iha ihb =>
    intro k k' h
    obtain ⟨k1, k2, h1, e, h2, rfl⟩ := h
    exact ⟨k1, k2, iha _ _ h1, e, ihb _ _ h2, rfl⟩
  | op s a b ta tb iha ihb =>
    intro k k' h
    obtain ⟨k1, k2, h1, h2, rfl⟩ := h
    exact ⟨k1, k2, iha _ _ h1, ihb _ _ h2, rfl⟩
  | site s a b ta tb iha ihb =>
    intro k k' h
    obtain ⟨k1, k2, h1, e, h2, rfl⟩ := h
    exact ⟨k1, k2, iha _ _ h1, e, ihb _ _ h2, rfl⟩
theorem ps_lk_map (G : Nat) : ∀ (sc : List (Nat × Nat)) (x v : Nat), ps_lk sc x = some v → ps_lk (sc.map (fun b => (pk_rb G b.1, b.2))) x = some (pk_rb G v) := by
  intro sc
  induction sc with
  | nil => intro x v h; cases h
  | cons b r ih =>
    intro x v h
    show (if b.2 = x then some (pk_rb G b.1) else ps_lk (r.map _) x) = _
    change (if b.2 = x then some b.1 else ps_lk r x) = some v at h
    by_cases e : b.2 = x
    · rw [if_pos e] at h ⊢
      cases h
      rfl
    · rw [if_neg e] at h ⊢
      exact ih x v h
theorem ps_lk_mapn (G : Nat) : ∀ (sc : List (Nat × Nat)) (x : Nat), ps_lk sc x = none → ps_lk (sc.map (fun b => (pk_rb G b.1, b.2))) x = none := by
  intro sc
  induction sc with
  | nil => intro x h; rfl
  | cons b r ih =>
    intro x h
    show (if b.2 = x then some (pk_rb G b.1) else ps_lk (r.map _) x) = _
    change (if b.2 = x then some b.1 else ps_lk r x) = none at h
    by_cases e : b.2 = x
    · rw [if_pos e] at h
      cases h
    · rw [if_neg e] at h ⊢
      exact ih x h
theorem pn_wfs {G : Nat} (t : pt_T) (ht : pt_tw t) : ∀ (gl : List Nat) (sc : List (Nat × Nat)) (k k' : pk_K), k'.1 ≤ 18 → pk_can t k k' → pk_wfs t gl sc → pk_wfs (pk_rn G t) gl (sc.map (fun b => (pk_rb G b.1, b.2))) := by
  induction t, ht using pt_indh with
  | num v => intro gl sc k k' _ _ h; exact h
  | var v x => intro gl sc k k' _ _ h; exact ⟨ps_lk_map G sc x v h.1, h.2⟩
  | glo g x => intro gl sc k k' _ _ h; exact ⟨ps_lk_mapn G sc x h.1, h.2⟩
  | dead d => intro gl sc k k' _ _ h; exact h
  | lam f x b tb ih =>
    intro gl sc k k' h18 hc h
    obtain ⟨e, k1, h1, rfl⟩ := hc
    have m := pk_can_mono b tb _ _ h1
    dsimp only at h18 m
    have := ih gl ((f, x) :: sc) _ _ h18 h1 h.2
    refine ⟨h.1, ?_⟩
    rw [List.map_cons] at this
    have ef : pk_rb G f = pk_rf G f := by unfold pk_rb; rw [if_pos (by omega)]
    rw [ef] at this
    exact this
  | ife a b c ta tb tc iha ihb ihc =>
    intro gl sc k k' h18 hc h
    obtain ⟨k1, k2, k3, h1, h2, h3, rfl⟩ := hc
    have m2 := pk_can_mono b tb _ _ h2
    have m3 := pk_can_mono c tc _ _ h3
    dsimp only at h18
    exact ⟨iha _ _ _ _ (by omega) h1 h.1, ihb _ _ _ _ (by omega) h2 h.2.1, ihc _ _ _ _ (by omega) h3 h.2.2⟩
  | lt v x a b ta tb iha ihb =>
    intro gl sc k k' h18 hc h
    obtain ⟨k1, k2, h1, e, h2, rfl⟩ := hc
    have m2 := pk_can_mono b tb _ _ h2
    dsimp only at h18 m2
    have := ihb gl ((v, x) :: sc) _ _ h18 h2 h.2.2
    refine ⟨h.1, iha _ _ _ _ (by omega) h1 h.2.1, ?_⟩
    rw [List.map_cons] at this
    have ev : pk_rb G v = v := by unfold pk_rb; rw [if_neg (by omega)]
    rw [ev] at this
    exact this
  | op s a b ta tb iha ihb =>
    intro gl sc k k' h18 hc h
    obtain ⟨k1, k2, h1, h2, rfl⟩ := hc
    have m2 := pk_can_mono b tb _ _ h2
    dsimp only at h18
    exact ⟨h.1, iha _ _ _ _ (by omega) h1 h.2.1, ihb _ _ _ _ (by omega) h2 h.2.2⟩
  | site s a b ta tb iha ihb =>
    intro gl sc k k' h18 hc h
    obtain ⟨k1, k2, h1, e, h2, rfl⟩ := hc
    have m2 := pk_can_mono b tb _ _ h2
    dsimp only at h18 m2
    exact ⟨iha _ _ _ _ (by omega) h1 h.1, ihb _ _ _ _ (by omega) h2 h.2⟩
/-- GLOBALS one behind another -/
def pn_GW (B : Nat) : ps_G → List Nat → pk_K → pk_K → Prop
  | [], _, k, k' => k' = k
  | (x, v, t) :: r, gl, k, k' => pk_nm x ∧ x ∉ gl ∧ pk_nm v ∧ pt_tw t ∧ pk_wfs t (gl ++ [x]) [(gl.length, v)] ∧ ∃ k1, pn_can B t k k1 ∧ pn_GW B r (gl ++ [x]) k1 k'
theorem pn_GW_of {G : Nat} : ∀ (gs : ps_G) (gl : List Nat) (k k' : pk_K), k'.1 ≤ 18 → gl.length + gs.length ≤ 6 → pk_GW gs gl k k' → pn_GW G (pk_rnG G gs) gl k k' := by
  intro gs
  induction gs with
  | nil => intro gl k k' _ _ h; exact h
  | cons e r ih =>
    intro gl k k' h18 hl h
    obtain ⟨x, v, t⟩ := e
    obtain ⟨h1, h2, h3, h4, h5, k1, h6, h7⟩ := h
    rw [List.length_cons] at hl
    have m := pk_GW_mono r _ _ _ h7
    have w := pn_wfs (G := G) t h4 _ _ _ _ (by have := m.1; omega) h6 h5
    have e2 : pk_rb G gl.length = gl.length := by
      unfold pk_rb pk_rf
      rw [if_pos (by omega), if_pos (by omega)]
    rw [List.map_cons, List.map_nil] at w
    dsimp only at w
    rw [e2] at w
    exact ⟨h1, h2, h3, (pk_rn_tw G t h4).1, w, k1, pn_of t h4 _ _ h6, ih _ _ _ h18 (by simp; omega) h7⟩
/-- a program as it is kept: la LAMBDAS, li lets, si SITES, nd THINGS -/
def pn_V (gs : ps_G) (t : pt_T) (la li si nd : Nat) : Prop := gs.length ≤ 6 ∧ la ≤ 18 ∧ nd ≤ 100 ∧ si ≤ 100 ∧ li ≤ 100 ∧ pt_tw t ∧ pk_wfs t (pk_gn gs) [] ∧ ∃ k1, pn_GW gs.length gs [] (0, 0, 0, 0) k1 ∧ pn_can gs.length t k1 (la, li, si, nd)
