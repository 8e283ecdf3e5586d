/-! copying: the list of what stands in the copy -/
theorem px_L_app {o : Nat} {ins : List Nat} {gs : ps_G} {t : pt_T} {w : fa_W} : ∀ (r s : List Nat) (a : Nat), px_L o ins gs t r a w → px_L o ins gs t s (a + pn_os gs t r) w → px_L o ins gs t (r ++ s) a w := by
  intro r
  induction r with
  | nil => intro s a _ h; exact h
  | cons g r ih =>
    intro s a h h2
    obtain ⟨h3, h4, h5⟩ := h
    refine ⟨h3, h4, ih s _ h5 ?_⟩
    rw [Nat.add_assoc]
    exact h2
def pe_ol (VI M : Nat → Bool) : List Nat → List Nat
  | [] => []
  | g :: r => if VI g = true then pc_rk M g :: pe_ol VI M r else pe_ol VI M r
def pe_dl (M CL : Nat → Bool) : Nat → List Nat
  | 0 => []
  | k + 1 => pe_dl M CL k ++ if M k = true ∧ CL k = false then [pc_rk M k] else []
theorem pe_ol_mem {VI M : Nat → Bool} {x : Nat} : ∀ (r : List Nat), x ∈ pe_ol VI M r ↔ ∃ g : Nat, g ∈ r ∧ VI g = true ∧ x = pc_rk M g := by
  intro r
  induction r with
  | nil => exact ⟨fun h => (by cases h), fun ⟨g, h, _⟩ => (by cases h)⟩
  | cons y r ih =>
    unfold pe_ol
    by_cases c : VI y = true
    · rw [if_pos c, List.mem_cons, ih]
      constructor
      · rintro (h | ⟨g, h1, h2⟩)
        · exact ⟨y, List.mem_cons_self .., c, h⟩
        · exact ⟨g, List.mem_cons_of_mem _ h1, h2⟩
      · rintro ⟨g, h1, h2, h3⟩
        rcases List.mem_cons.mp h1 with h | h
        · rw [h] at h3; exact Or.inl h3
        · exact Or.inr ⟨g, h, h2, h3⟩
    · rw [if_neg c, ih]
      constructor
      · rintro ⟨g, h1, h2⟩; exact ⟨g, List.mem_cons_of_mem _ h1, h2⟩
      · rintro ⟨g, h1, h2, h3⟩
        rcases List.mem_cons.mp h1 with h | h
        · rw [h] at h2; exact absurd h2 c
        · exact ⟨g, h, h2, h3⟩
theorem pe_dl_mem {M CL : Nat → Bool} {x : Nat} : ∀ k, x ∈ pe_dl M CL k ↔ ∃ g : Nat, g < k ∧ M g = true ∧ CL g = false ∧ x = pc_rk M g := by
  intro k
  induction k with
  | zero => exact ⟨fun h => (by cases h), fun ⟨g, h, _⟩ => (by omega)⟩
  | succ k ih =>
    unfold pe_dl
    rw [List.mem_append, ih]
    constructor
    · rintro (⟨g, h1, h2⟩ | h)
      · exact ⟨g, by omega, h2⟩
      · by_cases c : M k = true ∧ CL k = false
        · rw [if_pos c, List.mem_singleton] at h
          exact ⟨k, by omega, c.1, c.2, h⟩
        · rw [if_neg c] at h; cases h
    · rintro ⟨g, h1, h2, h3, h4⟩
      by_cases e : g = k
      · rw [e] at h2 h3 h4
        rw [if_pos ⟨h2, h3⟩, List.mem_singleton]
        exact Or.inr h4
      · exact Or.inl ⟨g, by omega, h2, h3, h4⟩
theorem pe_rk_sur {p : Nat → Bool} : ∀ (n y : Nat), y < pc_rk p n → ∃ g : Nat, g < n ∧ p g = true ∧ pc_rk p g = y := by
  intro n
  induction n with
  | zero => intro y h; exact absurd h (Nat.not_lt_zero y)
  | succ n ih =>
    intro y h
    by_cases c : y < pc_rk p n
    · obtain ⟨g, g1, g2⟩ := ih y c
      exact ⟨g, by omega, g2⟩
    · by_cases e : p n = true
      · have := pc_rk_t e
        exact ⟨n, by omega, e, by omega⟩
      · have := pc_rk_f (pc_bf e)
        omega
theorem pe_ol_nd {VI M : Nat → Bool} {G : Nat} (hVM : ∀ g, g < G → VI g = true → M g = true) : ∀ (r : List Nat), r.Nodup → (∀ g ∈ r, g ≤ G) → (pe_ol VI M r).Nodup := by
  intro r
  induction r with
  | nil => intro _ _; exact List.Pairwise.nil
  | cons y r ih =>
    intro hn hr
    rw [List.nodup_cons] at hn
    have i := ih hn.2 (fun g hg => hr g (List.mem_cons_of_mem _ hg))
    unfold pe_ol
    by_cases c : VI y = true
    · rw [if_pos c, List.nodup_cons]
      refine ⟨fun h => ?_, i⟩
      obtain ⟨g, g1, g2, g3⟩ := (pe_ol_mem r).mp h
      have ne : g ≠ y := fun z => hn.1 (z ▸ g1)
      have b1 := hr y (List.mem_cons_self ..)
      have b2 := hr g (List.mem_cons_of_mem _ g1)
      by_cases l : g < y
      · have := pc_rk_lt (hVM g (by omega) g2) l; omega
      · have := pc_rk_lt (hVM y (by omega) c) (show y < g by omega); omega
    · rw [if_neg c]; exact i
theorem pe_dl_nd {M CL : Nat → Bool} : ∀ k, (pe_dl M CL k).Nodup := by
  intro k
  induction k with
  | zero => exact List.Pairwise.nil
  | succ k ih =>
    unfold pe_dl
    by_cases c : M k = true ∧ CL k = false
    · rw [if_pos c, List.nodup_append]
      refine ⟨ih, pb_nodup1 _, fun x hx y hy e => ?_⟩
      rw [List.mem_singleton] at hy
      obtain ⟨g, g1, g2, g3, g4⟩ := (pe_dl_mem k).mp hx
      have := pc_rk_lt g2 g1
      omega
    · rw [if_neg c, List.append_nil]; exact ih
theorem pc_gl_nd {M : Nat → Bool} : ∀ (l : List Nat) (g : Nat), l.Nodup → (pc_gl M l g).Nodup := by
  intro l
  induction l with
  | nil => intro g _; exact List.Pairwise.nil
  | cons y r ih =>
    intro g hn
    rw [List.nodup_cons] at hn
    show (if M g = true then y :: pc_gl M r (g + 1) else pc_gl M r (g + 1)).Nodup
    by_cases c : M g = true
    · rw [if_pos c, List.nodup_cons]
      exact ⟨fun h => hn.1 (pc_gl_sub M r _ _ h), ih _ hn.2⟩
    · rw [if_neg c]; exact ih _ hn.2
/-- the EXPRS of the copied GLOBALS -/
theorem pc_G_tr {M CL : Nat → Bool} {ρ σ : Nat → Nat} {t t' : pt_T} : ∀ (gs : ps_G) (g n j : Nat), j < gs.length → M (g + j) = true → ∃ n', pn_tr (pc_G M CL ρ σ gs g n) t' (pc_rk M (g + j) - pc_rk M g) = if CL (g + j) = true then pc_t CL ρ σ (pn_tr gs t j) n' else pt_dead n' := by
  intro gs
  induction gs with
  | nil => intro g n j hj; rw [List.length_nil] at hj; omega
  | cons e r ih =>
    intro g n j hj hm
    obtain ⟨x, v, u⟩ := e
    rw [List.length_cons] at hj
    cases j with
    | zero =>
      have hm' : M g = true := hm
      refine ⟨n, ?_⟩
      rw [Nat.add_zero, Nat.sub_self]
      show pn_tr (if M g = true then (x, v, if CL g = true then pc_t CL ρ σ u n else pt_dead n) :: pc_G M CL ρ σ r (g + 1) (n + if CL g = true then pc_sz CL u else 1) else pc_G M CL ρ σ r (g + 1) n) t' 0 = _
      rw [if_pos hm']
      rfl
    | succ j =>
      have hm' : M (g + 1 + j) = true := by rw [show g + 1 + j = g + (j + 1) by omega]; exact hm
      have mono := pc_rk_mono M (show g + 1 ≤ g + 1 + j by omega)
      show ∃ n', pn_tr (if M g = true then (x, v, if CL g = true then pc_t CL ρ σ u n else pt_dead n) :: pc_G M CL ρ σ r (g + 1) (n + if CL g = true then pc_sz CL u else 1) else pc_G M CL ρ σ r (g + 1) n) t' _ = _
      rw [show g + (j + 1) = g + 1 + j by omega]
      by_cases c : M g = true
      · obtain ⟨n', q⟩ := ih (g + 1) (n + if CL g = true then pc_sz CL u else 1) j (by omega) hm'
        have s := pc_rk_t c
        refine ⟨n', ?_⟩
        rw [if_pos c, show pc_rk M (g + 1 + j) - pc_rk M g = (pc_rk M (g + 1 + j) - pc_rk M (g + 1)) + 1 by omega]
        exact q
      · obtain ⟨n', q⟩ := ih (g + 1) n j (by omega) hm'
        have s := pc_rk_f (pc_bf c)
        refine ⟨n', ?_⟩
        rw [if_neg c, ← s]
        exact q
theorem pe_gn {o : Nat} {M CL : Nat → Bool} {ρ σ : Nat → Nat} {W : fa_W} : ∀ (gs : ps_G) (g n : Nat), (∀ (j x v : Nat) (u : pt_T), gs[j]? = some (x, v, u) → M (g + j) = true → W (o + 18) (pc_rk M (g + j)) = (x : Int) ∧ W (o + 14) (pc_rk M (g + j)) = (v : Int) ∧ W (o + 16) (pc_rk M (g + j)) = -1) → px_gn o (pc_G M CL ρ σ gs g n) (pc_rk M g) W := by
  intro gs
  induction gs with
  | nil => intro g n _; trivial
  | cons e r ih =>
    intro g n h
    obtain ⟨x, v, u⟩ := e
    have hr : ∀ (j x v : Nat) (u : pt_T), r[j]? = some (x, v, u) → M (g + 1 + j) = true → W (o + 18) (pc_rk M (g + 1 + j)) = (x : Int) ∧ W (o + 14) (pc_rk M (g + 1 + j)) = (v : Int) ∧ W (o + 16) (pc_rk M (g + 1 + j)) = -1 := fun j x v u a b => by
      rw [show g + 1 + j = g + (j + 1) by omega] at b ⊢
      exact h (j + 1) x v u (by rw [List.getElem?_cons_succ]; exact a) b
    show px_gn o (if M g = true then (x, v, if CL g = true then pc_t CL ρ σ u n else pt_dead n) :: pc_G M CL ρ σ r (g + 1) (n + if CL g = true then pc_sz CL u else 1) else pc_G M CL ρ σ r (g + 1) n) (pc_rk M g) W
    by_cases c : M g = true
    · rw [if_pos c]
      obtain ⟨a1, a2, a3⟩ := h 0 x v u rfl c
      refine ⟨a1, a2, a3, ?_⟩
      rw [← pc_rk_t c]
      exact ih (g + 1) _ hr
    · rw [if_neg c, ← pc_rk_f (pc_bf c)]
      exact ih (g + 1) _ hr
/-- the GLOBALS whose EXPR is lost -/
theorem pe_deadL {o n0 G : Nat} {M CL : Nat → Bool} {ins : List Nat} {gs : ps_G} {t : pt_T} {W : fa_W} (hlen : gs.length = pc_rk M G) (htr : ∀ g, g < G → M g = true → CL g = false → ∃ n, pn_tr gs t (pc_rk M g) = pt_dead n) (hd : ∀ g, g < G → M g = true → CL g = false → W (o + 20) (pc_rk M g) = ((n0 + pe_dz M CL g : Nat) : Int) ∧ px_N o W (n0 + pe_dz M CL g) 4 0 ((pc_rk M g : Nat) : Int) (n0 + pe_dz M CL g) (-1) (-1) (-1)) : ∀ k, k ≤ G → px_L o ins gs t (pe_dl M CL k) n0 W ∧ pn_os gs t (pe_dl M CL k) = pe_dz M CL k := by
  intro k
  induction k with
  | zero => intro _; exact ⟨trivial, rfl⟩
  | succ k ih =>
    intro hk
    obtain ⟨i1, i2⟩ := ih (by omega)
    unfold pe_dl
    by_cases c : M k = true ∧ CL k = false
    · rw [if_pos c]
      obtain ⟨d1, d2⟩ := hd k (by omega) c.1 c.2
      obtain ⟨n, e⟩ := htr k (by omega) c.1 c.2
      have rl := pc_rk_lt c.1 (show k < G by omega)
      have ez : pe_dz M CL (k + 1) = pe_dz M CL k + 1 := by
        show pe_dz M CL k + (if M k = true ∧ CL k = false then 1 else 0) = _
        rw [if_pos c]
      have s1 : pt_sz (pn_tr gs t (pc_rk M k)) = 1 := by rw [e]; rfl
      refine ⟨px_L_app _ _ _ i1 ?_, ?_⟩
      · rw [i2]
        refine ⟨?_, ?_, trivial⟩
        · rw [e, show pn_ow gs.length (pc_rk M k) = ((pc_rk M k : Nat) : Int) from if_pos (by omega)]
          exact d2
        · rw [if_pos (by omega), s1]
          exact d1
      · rw [pn_os_app, i2, ez]
        show pe_dz M CL k + (pt_sz (pn_tr gs t (pc_rk M k)) + 0) = _
        rw [s1]
    · rw [if_neg c, List.append_nil]
      have ez : pe_dz M CL (k + 1) = pe_dz M CL k := by
        show pe_dz M CL k + (if M k = true ∧ CL k = false then 1 else 0) = _
        rw [if_neg c]; rfl
      rw [ez]; exact ⟨i1, i2⟩
