/-! PHASE B. TYPES as trees: INT, open ones by number, arrows; what a program asks of them -/
abbrev pv_T : Type := Lean.RArray Nat
abbrev pv_int : pv_T := .leaf 0
abbrev pv_v (n : Nat) : pv_T := .leaf (n + 1)
abbrev pv_ar (a b : pv_T) : pv_T := .branch 0 a b
theorem pv_ar_inj {a b c d : pv_T} (h : pv_ar a b = pv_ar c d) : a = c ∧ b = d := by
  injection h with _ h1 h2
  exact ⟨h1, h2⟩
theorem pv_ar_int {a b : pv_T} (h : pv_ar a b = pv_int) : False := by
  injection h
def pv_sz : pv_T → Nat
  | .leaf _ => 1
  | .branch _ a b => pv_sz a + pv_sz b + 1
theorem pv_sz_pos (a : pv_T) : 0 < pv_sz a := by
  cases a <;> simp [pv_sz]
/-- TYPES of VARS, FUNCTIONS, deads, SITES -/
abbrev pv_R : Type := (Nat → pv_T) × (Nat → pv_T) × (Nat → pv_T) × (Nat → pv_T)
def pv_t (r : pv_R) : pt_T → pv_T := pt_rec (fun _ => pv_int) (fun v _ => r.1 v) (fun g _ => r.2.1 g) (fun d => r.2.2.1 d) (fun f _ _ _ => r.2.1 f) (fun _ _ _ _ q _ => q) (fun _ _ _ _ _ q => q) (fun _ _ _ _ _ => pv_int) (fun s _ _ _ _ => r.2.2.2 s) pv_int
def pv_S (r : pv_R) : pt_T → Prop := pt_rec (fun _ => True) (fun _ _ => True) (fun _ _ => True) (fun _ => True) (fun f _ b q => q ∧ r.2.1 f = pv_ar (r.1 f) (pv_t r b)) (fun a b c p q s => p ∧ q ∧ s ∧ pv_t r a = pv_int ∧ pv_t r b = pv_t r c) (fun v _ a _ p q => p ∧ q ∧ r.1 v = pv_t r a) (fun _ a b p q => p ∧ q ∧ pv_t r a = pv_int ∧ pv_t r b = pv_int) (fun s a b p q => p ∧ q ∧ pv_t r a = pv_ar (pv_t r b) (r.2.2.2 s)) True
def pv_G (r : pv_R) : ps_G → Nat → Prop
  | [], _ => True
  | (_, _, t) :: q, g => pv_S r t ∧ r.2.1 g = pv_ar (r.1 g) (pv_t r t) ∧ pv_G r q (g + 1)
def pv_P (r : pv_R) (gs : ps_G) (t : pt_T) : Prop := pv_G r gs 0 ∧ pv_S r t
/-- what a tree asks lies in its own range -/
theorem pv_cong {B : Nat} (t : pt_T) (ht : pt_tw t) : ∀ (k k' : pk_K) (r r' : pv_R), pn_can B t k k' → r'.1 = r.1 → r'.2.1 = r.2.1 → (∀ d, k.2.2.2 ≤ d → d < k'.2.2.2 → r'.2.2.1 d = r.2.2.1 d) → (∀ s, k.2.2.1 ≤ s → s < k'.2.2.1 → r'.2.2.2 s = r.2.2.2 s) → pv_t r' t = pv_t r t ∧ (pv_S r t → pv_S r' t) := by
  induction t, ht using pt_indh with
  | num v => intro k k' r r' _ _ _ _ _; exact ⟨rfl, fun _ => trivial⟩
  | var v x => intro k k' r r' _ h1 _ _ _; exact ⟨congrFun h1 v, fun _ => trivial⟩
  | glo g x => intro k k' r r' _ _ h2 _ _; exact ⟨congrFun h2 g, fun _ => trivial⟩
  | dead d =>
    intro k k' r r' hc _ _ h3 _
    obtain ⟨e, rfl⟩ := hc
    exact ⟨h3 d (by omega) (by dsimp only; omega), fun _ => trivial⟩
  | lam f x b tb ih =>
    intro k k' r r' hc h1 h2 h3 h4
    obtain ⟨_, k1, hc1, rfl⟩ := hc
    have i := ih _ _ r r' hc1 h1 h2 (fun d p q => h3 d p (by dsimp only; omega)) h4
    refine ⟨congrFun h2 f, fun h => ⟨i.2 h.1, ?_⟩⟩
    rw [i.1, h1, h2]
    exact h.2
  | ife a b c ta tb tc iha ihb ihc =>
    intro k k' r r' hc h1 h2 h3 h4
    obtain ⟨k1, k2, k3, c1, c2, c3, rfl⟩ := hc
    have m1 := pn_mono a ta _ _ c1
    have m2 := pn_mono b tb _ _ c2
    have m3 := pn_mono c tc _ _ c3
    have i1 := iha _ _ r r' c1 h1 h2 (fun d p q => h3 d p (by dsimp only; omega)) (fun d p q => h4 d p (by dsimp only; omega))
    have i2 := ihb _ _ r r' c2 h1 h2 (fun d p q => h3 d (by omega) (by dsimp only; omega)) (fun d p q => h4 d (by omega) (by dsimp only; omega))
    have i3 := ihc _ _ r r' c3 h1 h2 (fun d p q => h3 d (by omega) (by dsimp only; omega)) (fun d p q => h4 d (by omega) (by dsimp only; omega))
    refine ⟨i2.1, fun h => ⟨i1.2 h.1, i2.2 h.2.1, i3.2 h.2.2.1, ?_, ?_⟩⟩
    · rw [i1.1]; exact h.2.2.2.1
    · rw [i2.1, i3.1]; exact h.2.2.2.2
  | lt v x a b ta tb iha ihb =>
    intro k k' r r' hc h1 h2 h3 h4
    obtain ⟨k1, k2, c1, _, c2, rfl⟩ := hc
    have m1 := pn_mono a ta _ _ c1
    have m2 := pn_mono b tb _ _ c2
    dsimp only at m2
    have i1 := iha _ _ r r' c1 h1 h2 (fun d p q => h3 d p (by dsimp only; omega)) (fun d p q => h4 d p (by dsimp only; omega))
    have i2 := ihb _ _ r r' c2 h1 h2 (fun d p q => h3 d (by dsimp only at p; omega) (by dsimp only; omega)) (fun d p q => h4 d (by dsimp only at p; omega) (by dsimp only; omega))
    refine ⟨i2.1, fun h => ⟨i1.2 h.1, i2.2 h.2.1, ?_⟩⟩
    rw [i1.1, h1]
    exact h.2.2
  | op s a b ta tb iha ihb =>
    intro k k' r r' hc h1 h2 h3 h4
    obtain ⟨k1, k2, c1, c2, rfl⟩ := hc
    have m1 := pn_mono a ta _ _ c1
    have m2 := pn_mono b tb _ _ c2
    have i1 := iha _ _ r r' c1 h1 h2 (fun d p q => h3 d p (by dsimp only; omega)) (fun d p q => h4 d p (by dsimp only; omega))
    have i2 := ihb _ _ r r' c2 h1 h2 (fun d p q => h3 d (by omega) (by dsimp only; omega)) (fun d p q => h4 d (by omega) (by dsimp only; omega))
    refine ⟨rfl, fun h => ⟨i1.2 h.1, i2.2 h.2.1, ?_, ?_⟩⟩
    · rw [i1.1]; exact h.2.2.1
    · rw [i2.1]; exact h.2.2.2
  | site s a b ta tb iha ihb =>
    intro k k' r r' hc h1 h2 h3 h4
    obtain ⟨k1, k2, c1, es, c2, rfl⟩ := hc
    have m1 := pn_mono a ta _ _ c1
    have m2 := pn_mono b tb _ _ c2
    dsimp only at m2
    have i1 := iha _ _ r r' c1 h1 h2 (fun d p q => h3 d p (by dsimp only; omega)) (fun d p q => h4 d p (by dsimp only; omega))
    have i2 := ihb _ _ r r' c2 h1 h2 (fun d p q => h3 d (by dsimp only at p; omega) (by dsimp only; omega)) (fun d p q => h4 d (by dsimp only at p; omega) (by dsimp only; omega))
    have e4 := h4 s (by omega) (by dsimp only; omega)
    refine ⟨e4, fun h => ⟨i1.2 h.1, i2.2 h.2.1, ?_⟩⟩
    rw [i1.1, i2.1, e4]
    exact h.2.2
