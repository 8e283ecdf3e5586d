/-! REACHED as it is told: the least that holds CALLS and goes on -/
def pf_re (cal : Nat → Nat) (f g : Nat) : Prop := ∀ P : Nat → Nat → Prop, (∀ a b, (cal a).testBit b = true → P a b) → (∀ a b c, P a b → P b c → P a c) → P f g
theorem pf_ws_s (cal : Nat → Nat) (k f g : Nat) : (pf_ws cal (k + 1) f).testBit g = true ↔ (pf_ws cal k f).testBit g = true ∨ ((pf_ws cal k f).testBit k = true ∧ (pf_ws cal k k).testBit g = true) := by
  have e : pf_ws cal (k + 1) f = if (pf_ws cal k f).testBit k = true then pf_ws cal k f ||| pf_ws cal k k else pf_ws cal k f := rfl
  rw [e]
  by_cases h : (pf_ws cal k f).testBit k = true
  · rw [if_pos h, Nat.testBit_or, Bool.or_eq_true]
    exact or_congr Iff.rfl ⟨fun y => ⟨h, y⟩, fun y => y.2⟩
  · rw [if_neg h]
    exact ⟨Or.inl, fun y => y.elim id (fun y => absurd y.1 h)⟩
theorem pf_ws_le (cal : Nat → Nat) : ∀ k f g, (cal f).testBit g = true → (pf_ws cal k f).testBit g = true := by
  intro k
  induction k with
  | zero => intro f g h; exact h
  | succ k ih => intro f g h; exact (pf_ws_s cal k f g).mpr (Or.inl (ih f g h))
theorem pf_ws_tr (cal : Nat → Nat) : ∀ k m f g, m < k → (pf_ws cal k f).testBit m = true → (pf_ws cal k m).testBit g = true → (pf_ws cal k f).testBit g = true := by
  intro k
  induction k with
  | zero => intro m f g h; omega
  | succ k ih =>
    intro m f g hm h1 h2
    rw [pf_ws_s] at h1 h2 ⊢
    by_cases em : m = k
    · rw [em] at h1 h2
      have a1 : (pf_ws cal k f).testBit k = true := h1.elim id (fun y => y.1)
      have a2 : (pf_ws cal k k).testBit g = true := h2.elim id (fun y => y.2)
      exact Or.inr ⟨a1, a2⟩
    · have lm : m < k := by omega
      rcases h1 with h1 | ⟨h1, h1'⟩
      · rcases h2 with h2 | ⟨h2, h2'⟩
        · exact Or.inl (ih m f g lm h1 h2)
        · exact Or.inr ⟨ih m f k lm h1 h2, h2'⟩
      · rcases h2 with h2 | ⟨h2, h2'⟩
        · exact Or.inr ⟨h1, ih m k g lm h1' h2⟩
        · exact Or.inr ⟨h1, h2'⟩
theorem pf_ws_P {cal : Nat → Nat} {P : Nat → Nat → Prop} (h1 : ∀ a b, (cal a).testBit b = true → P a b) (h2 : ∀ a b c, P a b → P b c → P a c) : ∀ k f g, (pf_ws cal k f).testBit g = true → P f g := by
  intro k
  induction k with
  | zero => intro f g h; exact h1 f g h
  | succ k ih =>
    intro f g h
    rw [pf_ws_s] at h
    rcases h with h | ⟨a, b⟩
    · exact ih f g h
    · exact h2 f k g (ih f k a) (ih k g b)
theorem pf_ws_re {nf : Nat} {cal : Nat → Nat} (hb : ∀ f, cal f < 2 ^ nf) (f g : Nat) : (pf_ws cal nf f).testBit g = true ↔ pf_re cal f g := by
  refine ⟨fun h P h1 h2 => pf_ws_P h1 h2 nf f g h, fun h => ?_⟩
  exact h (fun a b => (pf_ws cal nf a).testBit b = true) (fun a b q => pf_ws_le cal nf a b q) (fun a b c p q => pf_ws_tr cal nf b a c (pf_tb_lt (pf_ws_lt hb nf a) p) p q)
theorem pf_re_tr {cal : Nat → Nat} {f g h : Nat} (a : pf_re cal f g) (b : pf_re cal g h) : pf_re cal f h := fun P h1 h2 => h2 f g h (a P h1 h2) (b P h1 h2)
/-- a RING: FUNCTIONS that reach one another -/
theorem pf_ring_eq {cal : Nat → Nat} {f g : Nat} (a : pf_re cal f g) (b : pf_re cal g f) (h : Nat) : (pf_re cal f h ∧ pf_re cal h f) ↔ (pf_re cal g h ∧ pf_re cal h g) := ⟨fun ⟨p, q⟩ => ⟨pf_re_tr b p, pf_re_tr q a⟩, fun ⟨p, q⟩ => ⟨pf_re_tr a p, pf_re_tr q b⟩⟩
