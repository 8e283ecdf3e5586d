/-! copying all: numbers as they are told -/
def pa_M (G la : Nat) : Nat → Bool := fun f => decide (f < G ∨ (6 ≤ f ∧ f < 6 + la))
def pa_1 : Nat → Bool := fun _ => true
def pa_S (si : Nat) : Nat → Bool := fun s => decide (s < si)
theorem pa_rk1 : ∀ n, pc_rk pa_1 n = n := by
  intro n
  induction n with
  | zero => rfl
  | succ n ih => rw [pc_rk_t (p := pa_1) rfl, ih]
theorem pa_rkS {si : Nat} : ∀ n, n ≤ si → pc_rk (pa_S si) n = n := by
  intro n
  induction n with
  | zero => intro _; rfl
  | succ n ih =>
    intro h
    rw [pc_rk_t (decide_eq_true (show n < si by omega)), ih (by omega)]
theorem pa_rkM1 {G la : Nat} : ∀ n, n ≤ G → pc_rk (pa_M G la) n = n := by
  intro n
  induction n with
  | zero => intro _; rfl
  | succ n ih =>
    intro h
    rw [pc_rk_t (decide_eq_true (Or.inl (show n < G by omega))), ih (by omega)]
theorem pa_rkM2 {G la : Nat} : ∀ d, G + d ≤ 6 → pc_rk (pa_M G la) (G + d) = G := by
  intro d
  induction d with
  | zero => intro _; exact pa_rkM1 G (Nat.le_refl _)
  | succ d ih =>
    intro h
    rw [show G + (d + 1) = G + d + 1 by omega, pc_rk_f (decide_eq_false (by omega)), ih (by omega)]
theorem pa_rkM3 {G la : Nat} (hG : G ≤ 6) : ∀ d, d ≤ la → pc_rk (pa_M G la) (6 + d) = G + d := by
  intro d
  induction d with
  | zero =>
    intro _
    have := pa_rkM2 (G := G) (la := la) (6 - G) (by omega)
    rw [show G + (6 - G) = 6 + 0 by omega] at this
    exact this
  | succ d ih =>
    intro h
    rw [show 6 + (d + 1) = 6 + d + 1 by omega, pc_rk_t (decide_eq_true (Or.inr ⟨by omega, by omega⟩)), ih (by omega)]
    omega
theorem pa_rkM4 {G la : Nat} (hG : G ≤ 6) : ∀ d, pc_rk (pa_M G la) (6 + la + d) = G + la := by
  intro d
  induction d with
  | zero => exact pa_rkM3 hG la (Nat.le_refl _)
  | succ d ih =>
    rw [show 6 + la + (d + 1) = 6 + la + d + 1 by omega, pc_rk_f (decide_eq_false (by omega)), ih]
def pa_v (G la v : Nat) : Prop := v < G ∨ (6 ≤ v ∧ v < 6 + la) ∨ 24 ≤ v
theorem pa_rf {G la f : Nat} (hG : G ≤ 6) (h : f < G ∨ (6 ≤ f ∧ f < 6 + la)) : pc_rk (pa_M G la) f = pk_rf G f := by
  unfold pk_rf
  rcases h with h | h
  · rw [if_pos (by omega), pa_rkM1 f (by omega)]
  · have q := pa_rkM3 (la := la) hG (f - 6) (by omega)
    rw [show 6 + (f - 6) = f by omega] at q
    rw [if_neg (by omega), q]
theorem pa_rb {G la v : Nat} (hG : G ≤ 6) (h : pa_v G la v) : pc_ρ (pa_M G la) pa_1 v = pk_rb G v := by
  unfold pc_ρ pk_rb
  by_cases e : v < 24
  · rw [if_pos e, if_pos e]
    exact pa_rf hG (by unfold pa_v at h; omega)
  · rw [if_neg e, if_neg e, pa_rk1]; omega
theorem pa_rb24 {G la v : Nat} (h : 24 ≤ v) : pc_ρ (pa_M G la) pa_1 v = v := by
  unfold pc_ρ
  rw [if_neg (by omega), pa_rk1]; omega
theorem pa_sz (t : pt_T) (tt : pt_tw t) : pc_sz pa_1 t = pt_sz t := by
  induction t, tt using pt_indh with
  | num v => rfl
  | var v x => rfl
  | glo g x => rfl
  | dead d => rfl
  | lam f x b tb ih =>
    show (if pa_1 f = true then pc_sz pa_1 b + 1 else 2) = pt_sz b + 1
    rw [if_pos (show pa_1 f = true from rfl), ih]
  | ife a b c ta tb tc ia ib ic =>
    show pc_sz pa_1 a + pc_sz pa_1 b + pc_sz pa_1 c + 1 = pt_sz a + pt_sz b + pt_sz c + 1
    rw [ia, ib, ic]
  | lt v x a b ta tb ia ib =>
    show pc_sz pa_1 a + pc_sz pa_1 b + 1 = pt_sz a + pt_sz b + 1
    rw [ia, ib]
  | op s a b ta tb ia ib =>
    show pc_sz pa_1 a + pc_sz pa_1 b + 1 = pt_sz a + pt_sz b + 1
    rw [ia, ib]
  | site s a b ta tb ia ib =>
    show pc_sz pa_1 a + pc_sz pa_1 b + 1 = pt_sz a + pt_sz b + 1
    rw [ia, ib]
theorem pa_tree {G la si : Nat} (hG : G ≤ 6) (h18 : la ≤ 18) (t : pt_T) (tt : pt_tw t) : ∀ (gl : List Nat) (sc : List (Nat × Nat)) (k k' : pk_K), pn_can 6 t k k' → pk_wfs t gl sc → gl.length ≤ G → k'.1 ≤ la → k'.2.2.1 ≤ si → (∀ b ∈ sc, pa_v G la b.1) → pc_ok (pa_M G la) pa_1 (pa_S si) pa_1 t true ∧ pc_t pa_1 (pc_ρ (pa_M G la) pa_1) (pc_rk (pa_S si)) t k.2.2.2 = pk_rn G t := by
  induction t, tt using pt_indh with
  | num v => intro gl sc k k' _ _ _ _ _ _; exact ⟨trivial, rfl⟩
  | var v x =>
    intro gl sc k k' _ wf _ _ _ hs
    refine ⟨trivial, ?_⟩
    show pt_var (pc_ρ (pa_M G la) pa_1 v) x = pt_var (pk_rb G v) x
    rw [pa_rb hG (hs _ (ps_lk_mem _ _ _ wf.1))]
  | glo g x =>
    intro gl sc k k' _ wf hl _ _ _
    have q := (ps_gx_mem _ _ _ _ wf.2.1).2.1
    refine ⟨fun _ => decide_eq_true (Or.inl (by omega)), ?_⟩
    show pt_glo (pc_ρ (pa_M G la) pa_1 g) x = pt_glo g x
    unfold pc_ρ
    rw [if_pos (by omega), pa_rkM1 g (by omega)]
  | dead d =>
    intro gl sc k k' hc _ _ _ _ _
    refine ⟨trivial, ?_⟩
    show pt_dead k.2.2.2 = pt_dead d
    rw [hc.1]
  | lam f x b tb ih =>
    intro gl sc k k' hc wf hl hla hsi hs
    obtain ⟨ef, k1, h1, rfl⟩ := hc
    have m := pn_mono b tb _ _ h1
    dsimp only at m hla hsi
    obtain ⟨i1, i2⟩ := ih gl _ _ _ h1 wf.2 hl hla hsi (fun y hy => by
      rcases List.mem_cons.mp hy with e | e
      · rw [e]; exact Or.inr (Or.inl ⟨by omega, by dsimp only; omega⟩)
      · exact hs y e)
    have mf : pa_M G la f = true := decide_eq_true (Or.inr ⟨by omega, by omega⟩)
    refine ⟨⟨mf, fun _ => mf, i1⟩, ?_⟩
    show (if pa_1 f = true then pt_lam (pc_ρ (pa_M G la) pa_1 f) x (pc_t pa_1 (pc_ρ (pa_M G la) pa_1) (pc_rk (pa_S si)) b k.2.2.2) else pt_lam (pc_ρ (pa_M G la) pa_1 f) x (pt_dead k.2.2.2)) = pt_lam (pk_rf G f) x (pk_rn G b)
    have i2' : pc_t pa_1 (pc_ρ (pa_M G la) pa_1) (pc_rk (pa_S si)) b k.2.2.2 = pk_rn G b := i2
    rw [if_pos (show pa_1 f = true from rfl), i2']
    have q : pc_ρ (pa_M G la) pa_1 f = pk_rf G f := by
      unfold pc_ρ
      rw [if_pos (by omega)]; exact pa_rf hG (Or.inr ⟨by omega, by omega⟩)
    rw [q]
  | ife a b c ta tb tc ia ib ic =>
    intro gl sc k k' hc wf hl hla hsi hs
    obtain ⟨k1, k2, k3, h1, h2, h3, rfl⟩ := hc
    have m1 := pn_mono a ta _ _ h1
    have m2 := pn_mono b tb _ _ h2
    have m3 := pn_mono c tc _ _ h3
    dsimp only at hla hsi
    obtain ⟨i1, i2⟩ := ia gl sc _ _ h1 wf.1 hl (by omega) (by omega) hs
    obtain ⟨j1, j2⟩ := ib gl sc _ _ h2 wf.2.1 hl (by omega) (by omega) hs
    obtain ⟨l1, l2⟩ := ic gl sc _ _ h3 wf.2.2 hl (by omega) (by omega) hs
    refine ⟨⟨i1, j1, l1⟩, ?_⟩
    rw [m1.2.2.2] at j2
    rw [m2.2.2.2, m1.2.2.2] at l2
    show pt_ife (pc_t pa_1 _ _ a k.2.2.2) (pc_t pa_1 _ _ b (k.2.2.2 + pc_sz pa_1 a)) (pc_t pa_1 _ _ c (k.2.2.2 + pc_sz pa_1 a + pc_sz pa_1 b)) = pt_ife (pk_rn G a) (pk_rn G b) (pk_rn G c)
    rw [pa_sz a ta, pa_sz b tb, i2, j2, l2]
  | lt v x a b ta tb ia ib =>
    intro gl sc k k' hc wf hl hla hsi hs
    obtain ⟨k1, k2, h1, ev, h2, rfl⟩ := hc
    have m1 := pn_mono a ta _ _ h1
    have m2 := pn_mono b tb _ _ h2
    dsimp only at hla hsi m2
    obtain ⟨i1, i2⟩ := ia gl sc _ _ h1 wf.2.1 hl (by omega) (by omega) hs
    obtain ⟨j1, j2⟩ := ib gl _ _ _ h2 wf.2.2 hl (by omega) (by omega) (fun y hy => by
      rcases List.mem_cons.mp hy with e | e
      · rw [e]; exact Or.inr (Or.inr (by dsimp only; omega))
      · exact hs y e)
    refine ⟨⟨rfl, i1, j1⟩, ?_⟩
    dsimp only at j2
    rw [m1.2.2.2] at j2
    show pt_let (pc_ρ (pa_M G la) pa_1 v) x (pc_t pa_1 _ _ a k.2.2.2) (pc_t pa_1 _ _ b (k.2.2.2 + pc_sz pa_1 a)) = pt_let v x (pk_rn G a) (pk_rn G b)
    rw [pa_sz a ta, i2, j2, pa_rb24 (by omega)]
  | op s a b ta tb ia ib =>
    intro gl sc k k' hc wf hl hla hsi hs
    obtain ⟨k1, k2, h1, h2, rfl⟩ := hc
    have m1 := pn_mono a ta _ _ h1
    have m2 := pn_mono b tb _ _ h2
    dsimp only at hla hsi
    obtain ⟨i1, i2⟩ := ia gl sc _ _ h1 wf.2.1 hl (by omega) (by omega) hs
    obtain ⟨j1, j2⟩ := ib gl sc _ _ h2 wf.2.2 hl (by omega) (by omega) hs
    refine ⟨⟨i1, j1⟩, ?_⟩
    rw [m1.2.2.2] at j2
    show pt_op s (pc_t pa_1 _ _ a k.2.2.2) (pc_t pa_1 _ _ b (k.2.2.2 + pc_sz pa_1 a)) = pt_op s (pk_rn G a) (pk_rn G b)
    rw [pa_sz a ta, i2, j2]
  | site s a b ta tb ia ib =>
    intro gl sc k k' hc wf hl hla hsi hs
    obtain ⟨k1, k2, h1, es, h2, rfl⟩ := hc
    have m1 := pn_mono a ta _ _ h1
    have m2 := pn_mono b tb _ _ h2
    dsimp only at hla hsi m2
    obtain ⟨i1, i2⟩ := ia gl sc _ _ h1 wf.1 hl (by omega) (by omega) hs
    obtain ⟨j1, j2⟩ := ib gl sc _ _ h2 wf.2 hl (by omega) (by omega) hs
    refine ⟨⟨decide_eq_true (show s < si by omega), i1, j1⟩, ?_⟩
    dsimp only at j2
    rw [m1.2.2.2] at j2
    show pt_site (pc_rk (pa_S si) s) (pc_t pa_1 _ _ a k.2.2.2) (pc_t pa_1 _ _ b (k.2.2.2 + pc_sz pa_1 a)) = pt_site s (pk_rn G a) (pk_rn G b)
    rw [pa_sz a ta, i2, j2, pa_rkS s (by omega)]
