/-! how much code there is, how large bodies are -/
def pm_cu (g : Nat → Nat) : Nat → Nat → Nat
  | _, 0 => 0
  | lo, d + 1 => g lo + pm_cu g (lo + 1) d
theorem pm_cu_app (g : Nat → Nat) (e : Nat) : ∀ (d lo : Nat), pm_cu g lo (d + e) = pm_cu g lo d + pm_cu g (lo + d) e := by
  intro d
  induction d with
  | zero => intro lo; rw [Nat.zero_add]; exact (Nat.zero_add _).symm
  | succ d ih =>
    intro lo
    have e1 : d + 1 + e = (d + e) + 1 := by omega
    rw [e1]
    show g lo + pm_cu g (lo + 1) (d + e) = g lo + pm_cu g (lo + 1) d + pm_cu g (lo + (d + 1)) e
    rw [ih, ← Nat.add_assoc (g lo), show lo + 1 + d = lo + (d + 1) by omega]
theorem pm_cu_cat (g : Nat → Nat) {B x y z : Nat} (h1 : x ≤ y) (h2 : y ≤ z) : pm_cu g (B + x) (z - x) = pm_cu g (B + x) (y - x) + pm_cu g (B + y) (z - y) := by
  have := pm_cu_app g (z - y) (y - x) (B + x)
  rw [show y - x + (z - y) = z - x by omega, show B + x + (y - x) = B + y by omega] at this
  exact this
theorem pm_cu_t {B : Nat} {fb : Nat → pt_T} (t : pt_T) (tt : pt_tw t) : ∀ (k k' : pk_K), pn_can B t k k' → pf_T fb t → pm_cz t + pm_cu (fun f => pm_cz (fb f)) (B + k.1) (k'.1 - k.1) ≤ 2 * pt_sz t := by
  induction t, tt using pt_indh with
  | num v => intro k k' h _; cases h; dsimp only; rw [Nat.sub_self]; show 1 + 0 ≤ 2 * 1; omega
  | var v x => intro k k' h _; cases h; dsimp only; rw [Nat.sub_self]; show 1 + 0 ≤ 2 * 1; omega
  | glo g x => intro k k' h _; cases h; dsimp only; rw [Nat.sub_self]; show 1 + 0 ≤ 2 * 1; omega
  | dead d => intro k k' h _; cases h.2; dsimp only; rw [Nat.sub_self]; show 1 + 0 ≤ 2 * 1; omega
  | lam f x b tb ih =>
    intro k k' h hT
    obtain ⟨ef, k1, h1, rfl⟩ := h
    have m := (pn_mono b tb _ _ h1).1
    dsimp only at m ⊢
    have i := ih _ _ h1 hT.1
    dsimp only at i
    have e1 : k1.1 - k.1 = (k1.1 - (k.1 + 1)) + 1 := by omega
    rw [e1]
    show 1 + (pm_cz (fb (B + k.1)) + pm_cu _ (B + k.1 + 1) _) ≤ 2 * (pt_sz b + 1)
    rw [← ef, hT.2, ef]
    rw [Nat.add_assoc B k.1 1]
    omega
  | ife a b c ta tb tc iha ihb ihc =>
    intro k k' h hT
    obtain ⟨k1, k2, k3, h1, h2, h3, rfl⟩ := h
    have m1 := (pn_mono a ta _ _ h1).1
    have m2 := (pn_mono b tb _ _ h2).1
    have m3 := (pn_mono c tc _ _ h3).1
    have i1 := iha _ _ h1 hT.1
    have i2 := ihb _ _ h2 hT.2.1
    have i3 := ihc _ _ h3 hT.2.2
    dsimp only
    rw [pm_cu_cat _ m1 (Nat.le_trans m2 m3), pm_cu_cat _ m2 m3]
    have e1 : pm_cz (pt_ife a b c) = pm_cz a + 1 + pm_cz b + 1 + pm_cz c := rfl
    have e2 : pt_sz (pt_ife a b c) = pt_sz a + pt_sz b + pt_sz c + 1 := rfl
    omega
  | lt v x a b ta tb iha ihb =>
    intro k k' h hT
    obtain ⟨k1, k2, h1, _, h2, rfl⟩ := h
    have m1 := (pn_mono a ta _ _ h1).1
    have m2 := (pn_mono b tb _ _ h2).1
    have i1 := iha _ _ h1 hT.1
    have i2 := ihb _ _ h2 hT.2
    dsimp only at m2 i2 ⊢
    rw [pm_cu_cat _ m1 m2]
    have e1 : pm_cz (pt_let v x a b) = pm_cz a + 1 + pm_cz b := rfl
    have e2 : pt_sz (pt_let v x a b) = pt_sz a + pt_sz b + 1 := rfl
    omega
  | op s a b ta tb iha ihb =>
    intro k k' h hT
    obtain ⟨k1, k2, h1, h2, rfl⟩ := h
    have m1 := (pn_mono a ta _ _ h1).1
    have m2 := (pn_mono b tb _ _ h2).1
    have i1 := iha _ _ h1 hT.1
    have i2 := ihb _ _ h2 hT.2
    dsimp only
    rw [pm_cu_cat _ m1 m2]
    have e1 : pm_cz (pt_op s a b) = pm_cz a + pm_cz b + 1 := rfl
    have e2 : pt_sz (pt_op s a b) = pt_sz a + pt_sz b + 1 := rfl
    omega
  | site s a b ta tb iha ihb =>
    intro k k' h hT
    obtain ⟨k1, k2, h1, _, h2, rfl⟩ := h
    have m1 := (pn_mono a ta _ _ h1).1
    have m2 := (pn_mono b tb _ _ h2).1
    have i1 := iha _ _ h1 hT.1
    have i2 := ihb _ _ h2 hT.2
    dsimp only at m2 i2 ⊢
    rw [pm_cu_cat _ m1 m2]
    have e1 : pm_cz (pt_site s a b) = pm_cz a + pm_cz b + 1 := rfl
    have e2 : pt_sz (pt_site s a b) = pt_sz a + pt_sz b + 1 := rfl
    omega
theorem pm_cu_G {B : Nat} {fb : Nat → pt_T} {t : pt_T} : ∀ (gs : ps_G) (gl : List Nat) (k k1 : pk_K) (g0 : Nat), pn_GW B gs gl k k1 → (∀ j, j < gs.length → fb (g0 + j) = pn_tr gs t j) → (∀ j, j < gs.length → pf_T fb (pn_tr gs t j)) → k.1 ≤ k1.1 ∧ pm_cu (fun f => pm_cz (fb f)) g0 gs.length + pm_cu (fun f => pm_cz (fb f)) (B + k.1) (k1.1 - k.1) + 2 * k.2.2.2 ≤ 2 * k1.2.2.2 := by
  intro gs
  induction gs with
  | nil =>
    intro gl k k1 g0 h _ _
    cases h
    rw [Nat.sub_self]
    exact ⟨Nat.le_refl _, by show 0 + 0 + 2 * k.2.2.2 ≤ 2 * k.2.2.2; omega⟩
  | cons e r ih =>
    intro gl k k1 g0 h hb hT
    obtain ⟨x, v, u⟩ := e
    obtain ⟨_, _, _, tu, _, k2, c1, c2⟩ := h
    have m1 := pn_mono u tu _ _ c1
    obtain ⟨m2, i2⟩ := ih _ _ _ (g0 + 1) c2 (fun j hj => by
      have := hb (j + 1) (Nat.succ_lt_succ hj)
      rw [show g0 + 1 + j = g0 + (j + 1) by omega]
      exact this) (fun j hj => hT (j + 1) (Nat.succ_lt_succ hj))
    have i1 := pm_cu_t u tu _ _ c1 (hT 0 (Nat.zero_lt_succ _))
    have e0 : fb g0 = u := hb 0 (Nat.zero_lt_succ _)
    refine ⟨Nat.le_trans m1.1 m2, ?_⟩
    rw [pm_cu_cat _ m1.1 m2, List.length_cons]
    show pm_cz (fb g0) + pm_cu _ (g0 + 1) r.length + _ + _ ≤ _
    rw [e0]
    omega
theorem pm_cu_all {gs : ps_G} {t : pt_T} {la li si nd : Nat} {fb : Nat → pt_T} {sb : pf_sT} (hV : pn_V gs t la li si nd) (hG : pf_G gs t la li si fb sb) : pm_cu (fun f => pm_cz (fb f)) 0 (gs.length + la) + pm_cz t ≤ 200 := by
  obtain ⟨v1, v2, v3, v4, v5, v6, v7, k1, v8, v9⟩ := hV
  obtain ⟨m, i⟩ := pm_cu_G (fb := fb) (t := t) gs [] _ _ 0 v8 (fun j hj => by rw [Nat.zero_add]; exact hG.1 j hj) (fun j hj => pf_GT hG j (by omega))
  have i2 := pm_cu_t t v6 _ _ v9 hG.2.2.2.1.2.1
  have m2 := pn_mono t v6 _ _ v9
  dsimp only at i m m2 i2
  have e1 := pm_cu_app (fun f => pm_cz (fb f)) la gs.length 0
  have e2 := pm_cu_cat (fun f => pm_cz (fb f)) (B := gs.length) (x := 0) (Nat.zero_le k1.1) m2.1
  simp only [Nat.add_zero, Nat.sub_zero] at e2 i
  rw [e1, Nat.zero_add, e2]
  omega
theorem pm_cu_le (g : Nat → Nat) : ∀ (d lo : Nat) {n : Nat}, d ≤ n → pm_cu g lo d ≤ pm_cu g lo n := by
  intro d lo n h
  have := pm_cu_app g (n - d) d lo
  rw [show d + (n - d) = n by omega] at this
  omega
theorem pn_lam_sz {B : Nat} {fb : Nat → pt_T} (t : pt_T) (tt : pt_tw t) : ∀ (k k' : pk_K), pn_can B t k k' → pf_T fb t → ∀ f, B + k.1 ≤ f → f < B + k'.1 → pt_sz (fb f) < pt_sz t := by
  induction t, tt using pt_indh with
  | num v => intro k k' h _ f h1 h2; cases h; dsimp only at h2; omega
  | var v x => intro k k' h _ f h1 h2; cases h; dsimp only at h2; omega
  | glo g x => intro k k' h _ f h1 h2; cases h; dsimp only at h2; omega
  | dead d => intro k k' h _ f h1 h2; cases h.2; dsimp only at h2; omega
  | lam g x b tb ih =>
    intro k k' h hT f h1 h2
    obtain ⟨ef, k1, h3, rfl⟩ := h
    dsimp only at h2
    show pt_sz (fb f) < pt_sz b + 1
    by_cases z : f = g
    · rw [z, hT.2]; omega
    · have := ih _ _ h3 hT.1 f (by dsimp only; omega) h2
      omega
  | ife a b c ta tb tc iha ihb ihc =>
    intro k k' h hT f p1 p2
    obtain ⟨k1, k2, k3, h1, h2, h3, rfl⟩ := h
    dsimp only at p2
    show pt_sz (fb f) < pt_sz a + pt_sz b + pt_sz c + 1
    by_cases z : f < B + k1.1
    · have := iha _ _ h1 hT.1 f p1 z; omega
    · by_cases z2 : f < B + k2.1
      · have := ihb _ _ h2 hT.2.1 f (by omega) z2; omega
      · have := ihc _ _ h3 hT.2.2 f (by omega) p2; omega
  | lt v x a b ta tb iha ihb =>
    intro k k' h hT f p1 p2
    obtain ⟨k1, k2, h1, _, h2, rfl⟩ := h
    dsimp only at p2
    show pt_sz (fb f) < pt_sz a + pt_sz b + 1
    by_cases z : f < B + k1.1
    · have := iha _ _ h1 hT.1 f p1 z; omega
    · have := ihb _ _ h2 hT.2 f (by dsimp only; omega) p2; omega
  | op s a b ta tb iha ihb =>
    intro k k' h hT f p1 p2
    obtain ⟨k1, k2, h1, h2, rfl⟩ := h
    dsimp only at p2
    show pt_sz (fb f) < pt_sz a + pt_sz b + 1
    by_cases z : f < B + k1.1
    · have := iha _ _ h1 hT.1 f p1 z; omega
    · have := ihb _ _ h2 hT.2 f (by omega) p2; omega
  | site s a b ta tb iha ihb =>
    intro k k' h hT f p1 p2
    obtain ⟨k1, k2, h1, _, h2, rfl⟩ := h
    dsimp only at p2
    show pt_sz (fb f) < pt_sz a + pt_sz b + 1
    by_cases z : f < B + k1.1
    · have := iha _ _ h1 hT.1 f p1 z; omega
    · have := ihb _ _ h2 hT.2 f (by dsimp only; omega) p2; omega
theorem pn_sz_G {B : Nat} {t : pt_T} : ∀ (gs : ps_G) (gl : List Nat) (k k1 : pk_K), pn_GW B gs gl k k1 → k.2.2.2 ≤ k1.2.2.2 ∧ ∀ g, g < gs.length → pt_sz (pn_tr gs t g) + k.2.2.2 ≤ k1.2.2.2 := by
  intro gs
  induction gs with
  | nil => intro gl k k1 h; cases h; exact ⟨Nat.le_refl _, fun g hg => by cases hg⟩
  | cons e r ih =>
    intro gl k k1 h
    obtain ⟨x, v, u⟩ := e
    obtain ⟨_, _, _, tu, _, k2, c1, c2⟩ := h
    have m1 := (pn_mono u tu _ _ c1).2.2.2
    obtain ⟨m2, i2⟩ := ih _ _ _ c2
    refine ⟨by omega, fun g hg => ?_⟩
    cases g with
    | zero =>
      show pt_sz u + k.2.2.2 ≤ k1.2.2.2
      omega
    | succ g =>
      have := i2 g (Nat.lt_of_succ_lt_succ hg)
      show pt_sz (pn_tr r t g) + k.2.2.2 ≤ k1.2.2.2
      omega
theorem pn_sz_all {gs : ps_G} {t : pt_T} {la li si nd : Nat} {fb : Nat → pt_T} {sb : pf_sT} (hV : pn_V gs t la li si nd) (hG : pf_G gs t la li si fb sb) : pt_sz t ≤ nd ∧ ∀ f, f < gs.length + la → pt_sz (fb f) < nd := by
  obtain ⟨v1, v2, v3, v4, v5, v6, v7, k1, v8, v9⟩ := hV
  have m2 := (pn_mono t v6 _ _ v9).2.2.2
  obtain ⟨g1, g2⟩ := pn_sz_G (t := t) gs [] _ _ v8
  have p := pt_sz_pos t
  dsimp only at m2 g1 g2
  refine ⟨by omega, fun f hf => ?_⟩
  by_cases c : f < gs.length
  · rw [hG.1 f c]
    have := g2 f c
    omega
  · obtain ⟨g, h1, ka, kb, h2, h3, h4⟩ := pn_lam_item gs [] _ _ _ v8 v9 f (by dsimp only; omega) (by dsimp only; exact hf)
    have tw := pn_tr_tw v6 gs [] _ _ v8 g
    have := pn_lam_sz _ tw _ _ h2 (pf_GT hG g h1) f h3 h4
    by_cases c2 : g < gs.length
    · have := g2 g c2
      omega
    · have e : g = gs.length := by omega
      rw [e, pn_tr_len] at this
      omega
