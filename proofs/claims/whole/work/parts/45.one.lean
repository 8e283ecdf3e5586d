/-- the law's model answers true for every script -/
theorem fm_Law_one (L : Nat) (xi : Nat → Int) (hL : L ≤ 3072) (hx : ∀ j, -2147483648 ≤ xi j ∧ xi j < 2147483648) : fm_Law L xi = some 1 := by
  obtain ⟨w2, w4, e2, e4, hI⟩ := ls_start
  have h := lw_loop hL hx 600 0 _ hI (by omega)
  rw [show ((0 : Nat) : Int) = 0 from rfl] at h
  unfold fm_Law
  rw [pf_let_eq, e2, Option.bind_some, pf_let_eq, e4, Option.bind_some, pf_let_eq]
  exact h
