/-- an EXPR, as the class reads it at its own depth -/
theorem ps_t_899 {c : Nat → Int} {n : Nat} (hx : ps_TX c n) {e : ps_E} {s : ps_S} (hs : ps_SI n e s) (he : e.2.2.2 ≤ 20) : ps_t c n false 130 0 e s ≠ none ∧ ps_t c n false 899 0 e s = ps_t c n false 130 0 e s := by
  have h := ps_t_ne hx 130 0 e s (by decide) he (by rw [if_pos rfl]; omega) (by omega) (by omega) (by omega) hs
  refine ⟨h, ?_⟩
  cases hq : ps_t c n false 130 0 e s with
  | none => exact absurd hq h
  | some r => exact pq_t (b := true) (Or.inl rfl) 130 899 0 e s (by decide) r hq (Or.inl rfl)
theorem px_e_R {c : Nat → Int} {n : Nat} (hx : ps_TX c n) (hn : n ≤ 400) {e : ps_E} {s : ps_S} {w : fa_W} (hs : ps_SI n e s) (he : e.2.2.2 ≤ 20) (hS : px_S c n e s w) : pb_ok (fm_Reader_expression 900 w) (px_R c n e s w (ps_t c n false 899 0 e s)) := by
  obtain ⟨h1, h2⟩ := ps_t_899 hx hs he
  rw [h2]
  exact px_t_R hx hn 130 900 0 e s w (by decide) (by omega) (by omega) (by omega) hs hS h1
theorem px_e_D {z : Nat} {w : fa_W} (h : px_D z w) : pb_ok (fm_Reader_expression 900 w) (fun q => px_D z q.2 ∧ px_fo w q.2) := px_0_D h 894
/-- what is read with the limit is read without it -/
theorem ps_t_free {c : Nat → Int} {n f m : Nat} {e : ps_E} {s : ps_S} {u : pt_T × ps_S} (h : ps_t c n false f m e s = some (.ok u)) : ps_t c n true f m e s = some (.ok u) := pq_t (b := false) (Or.inr ⟨rfl, rfl, rfl⟩) f f m e s (Nat.le_refl f) _ h (Or.inr ⟨u, rfl⟩)
