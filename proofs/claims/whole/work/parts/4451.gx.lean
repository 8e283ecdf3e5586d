theorem ps_gx_no : ∀ (gl : List Nat) (x k : Nat), ps_gx gl x k = none ↔ x ∉ gl := by
  intro gl
  induction gl with
  | nil => intro x k; exact ⟨fun _ => List.not_mem_nil, fun _ => rfl⟩
  | cons y r ih =>
    intro x k
    unfold ps_gx
    by_cases h : y = x
    · rw [if_pos h]
      exact ⟨fun q => (nomatch q), fun q => absurd (List.mem_cons.mpr (Or.inl h.symm)) q⟩
    · rw [if_neg h, ih x (k + 1)]
      exact ⟨fun q z => by
        rcases List.mem_cons.mp z with z | z
        · exact h z.symm
        · exact q z, fun q z => q (List.mem_cons_of_mem _ z)⟩
/-- a name is among the FUNCTIONS' exactly where the row has it -/
theorem px_find_no {w : fa_W} {x : Nat} (hxn : pk_nm x) {gl : List Nat} (hl : gl.length ≤ 6) (hn : ∀ y ∈ gl, pk_nm y) (hg : px_gl gl w) : fa_wr (fr_find 25 (x : Int) w) = -1 ↔ x ∉ gl := by
  rw [px_find hxn hl hn hg, ← ps_gx_no gl x 0]
  cases h : ps_gx gl x 0 with
  | none => exact ⟨fun _ => rfl, fun _ => pb_wr1⟩
  | some g =>
    have gm := ps_gx_mem gl x 0 g h
    dsimp only
    rw [pb_wr (by omega)]
    exact ⟨fun q => absurd q (by omega), fun q => (nomatch q)⟩
