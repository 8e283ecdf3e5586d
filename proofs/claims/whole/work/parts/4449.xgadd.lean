/-- one more name of a FUNCTION -/
theorem px_S_gadd {c : Nat → Int} {n : Nat} {gl : List Nat} {sc : List (Nat × Nat)} {ow : Int} {ne p th la lt si nd : Nat} {ins : List Nat} {w : fa_W} (h : px_S c n (gl, sc, ow, ne) (p, th, la, ins, lt, si, nd) w) (hg : gl.length < 6) (x : Nat) : px_S c n (gl ++ [x], sc, ow, ne) (p, th, la, ins, lt, si, nd) (fa_st (fr_add 25 (x : Int) w) 8 13 ((gl.length + 1 : Nat) : Int)) ∧ fa_st (fr_add 25 (x : Int) w) 8 13 ((gl.length + 1 : Nat) : Int) 26 gl.length = (x : Int) ∧ ∀ o k, ¬ (o = 25 ∧ k = 1) → ¬ (o = 26 ∧ k = gl.length) → ¬ (o = 8 ∧ k = 13) → fa_st (fr_add 25 (x : Int) w) 8 13 ((gl.length + 1 : Nat) : Int) o k = w o k := by
  obtain ⟨e1, e2, e3, e4, e5, e6, e7, e8, e9, e10, e11, e12, e13, e14⟩ := h
  obtain ⟨z1, z2, z3, z4, z5, z6, z7, z8, z9⟩ := e10
  have sa := px_ad1 (r := 25) (v := (x : Int)) (w := w) rfl e11.2.1 (by show gl.length < 6; exact hg)
  have nn : ∀ o k, ¬ (o = 25 ∧ k = 1) → ¬ (o = 26 ∧ k = gl.length) → ¬ (o = 8 ∧ k = 13) → fa_st (fr_add 25 (x : Int) w) 8 13 ((gl.length + 1 : Nat) : Int) o k = w o k := fun o k a b d => (fa_st_ne d).trans (sa.2.2 o k a b)
  have n26 : fa_st (fr_add 25 (x : Int) w) 8 13 ((gl.length + 1 : Nat) : Int) 26 gl.length = (x : Int) := (fa_st_ne (by omega)).trans sa.2.1
  have n25 : fa_st (fr_add 25 (x : Int) w) 8 13 ((gl.length + 1 : Nat) : Int) 25 1 = ((gl.length + 1 : Nat) : Int) := (fa_st_ne (by omega)).trans sa.1
  have n13 : fa_st (fr_add 25 (x : Int) w) 8 13 ((gl.length + 1 : Nat) : Int) 8 13 = ((gl.length + 1 : Nat) : Int) := fa_st_eq _ _ _ _
  generalize fa_st (fr_add 25 (x : Int) w) 8 13 ((gl.length + 1 : Nat) : Int) = w' at nn n26 n25 n13 ⊢
  have n7 : ∀ k, w' 7 k = w 7 k := fun k => nn 7 k (by omega) (by omega) (by omega)
  have n1 : ∀ o, o ≠ 25 → o ≠ 26 → o ≠ 8 → ∀ k, w' o k = w o k := fun o a b d k => nn o k (by omega) (by omega) (by omega)
  refine ⟨⟨px_tx_of e1 (n1 1 (by decide) (by decide) (by decide) 1) (n1 2 (by decide) (by decide) (by decide)), ⟨(n7 3).trans e2.1, (n7 4).trans e2.2.1, (n7 5).trans e2.2.2.1, fun q => (n7 6).trans (e2.2.2.2 q)⟩, (n7 7).trans e3, (n7 8).trans e4, (n7 9).trans e5, (n7 10).trans e6, (n7 11).trans e7, (n7 12).trans e8, (nn 8 15 (by omega) (by omega) (by omega)).trans e9, ⟨?_, ?_, ?_, ?_, ?_, ?_, ?_, ?_, ?_⟩, ⟨?_, ?_, ?_⟩, (n1 35 (by decide) (by decide) (by decide) 1).trans e12, px_sc_of sc (fun k _ => n1 36 (by decide) (by decide) (by decide) k) (fun b _ => ⟨rfl, n1 22 (by decide) (by decide) (by decide) _⟩) e13, e14⟩, n26, nn⟩
  · exact (n1 9 (by decide) (by decide) (by decide) 1).trans z1
  · exact (n1 11 (by decide) (by decide) (by decide) 1).trans z2
  · exact (n1 13 (by decide) (by decide) (by decide) 1).trans z3
  · exact (n1 15 (by decide) (by decide) (by decide) 1).trans z4
  · exact (n1 17 (by decide) (by decide) (by decide) 1).trans z5
  · exact (n1 19 (by decide) (by decide) (by decide) 1).trans z6
  · exact (n1 21 (by decide) (by decide) (by decide) 1).trans z7
  · exact (n1 23 (by decide) (by decide) (by decide) 1).trans z8
  · exact (n1 27 (by decide) (by decide) (by decide) 1).trans z9
  · rw [n13, List.length_append]; rfl
  · rw [n25, List.length_append]; rfl
  · intro j y q
    by_cases hj : j = gl.length
    · subst hj
      rw [List.getElem?_append_right (Nat.le_refl _), Nat.sub_self] at q
      cases q
      exact n26
    · have hj2 : j < gl.length := by
        have := (List.getElem?_eq_some_iff.mp q).1
        rw [List.length_append, List.length_singleton] at this
        omega
      rw [List.getElem?_append_left hj2] at q
      rw [nn 26 j (by omega) (by omega) (by omega)]
      exact e11.2.2 j y q
/-- the state knows its place only by its word -/
theorem px_S_ow {c : Nat → Int} {n : Nat} {gl : List Nat} {sc : List (Nat × Nat)} {ow : Int} {ne p th la lt si nd : Nat} {ins : List Nat} {w : fa_W} (h : px_S c n (gl, sc, ow, ne) (p, th, la, ins, lt, si, nd) w) (ow' : Int) : px_S c n (gl, sc, ow', ne) (p, th, la, ins, lt, si, nd) (fa_st w 7 12 ow') := by
  obtain ⟨h1, h2, h3, h4, h5, h6, h7, h8, h9, h10, h11, h12, h13, h14⟩ := id h
  have nn : ∀ o k, ¬ (o = 7 ∧ k = 12) → fa_st w 7 12 ow' o k = w o k := fun o k q => fa_st_ne q
  refine px_S_7 h (fun o k a b => nn o k (by omega)) ⟨by rw [nn 7 3 (by omega)]; exact h2.1, by rw [nn 7 4 (by omega)]; exact h2.2.1, by rw [nn 7 5 (by omega)]; exact h2.2.2.1, by rw [nn 7 6 (by omega)]; exact h2.2.2.2⟩ ?_ ?_ ?_ ?_ ?_ (fa_st_eq _ _ _ _) ?_ h14
  · rw [nn 7 7 (by omega)]; exact h3
  · rw [nn 7 8 (by omega)]; exact h4
  · rw [nn 7 9 (by omega)]; exact h5
  · rw [nn 7 10 (by omega)]; exact h6
  · rw [nn 7 11 (by omega)]; exact h7
  · rw [nn 8 15 (by omega)]; exact h9
/-- nothing is in scope any more -/
theorem px_S_sc0 {c : Nat → Int} {n : Nat} {gl : List Nat} {sc : List (Nat × Nat)} {ow : Int} {ne p th la lt si nd : Nat} {ins : List Nat} {w : fa_W} (h : px_S c n (gl, sc, ow, ne) (p, th, la, ins, lt, si, nd) w) : px_S c n (gl, [], ow, ne) (p, th, la, ins, lt, si, nd) (fm_Row_clear 35 w) := by
  obtain ⟨e1, e2, e3, e4, e5, e6, e7, e8, e9, e10, e11, e12, e13, e14⟩ := h
  obtain ⟨z1, z2, z3, z4, z5, z6, z7, z8, z9⟩ := e10
  show px_S c n (gl, [], ow, ne) (p, th, la, ins, lt, si, nd) (fa_st w 35 1 0)
  have nn : ∀ o k, ¬ (o = 35 ∧ k = 1) → fa_st w 35 1 0 o k = w o k := fun o k q => fa_st_ne q
  refine ⟨px_tx_of e1 (nn 1 1 (by omega)) (fun j => nn 2 j (by omega)), ⟨by rw [nn 7 3 (by omega)]; exact e2.1, by rw [nn 7 4 (by omega)]; exact e2.2.1, by rw [nn 7 5 (by omega)]; exact e2.2.2.1, by rw [nn 7 6 (by omega)]; exact e2.2.2.2⟩, (nn 7 7 (by omega)).trans e3, (nn 7 8 (by omega)).trans e4, (nn 7 9 (by omega)).trans e5, (nn 7 10 (by omega)).trans e6, (nn 7 11 (by omega)).trans e7, (nn 7 12 (by omega)).trans e8, (nn 8 15 (by omega)).trans e9, ⟨?_, ?_, ?_, ?_, ?_, ?_, ?_, ?_, ?_⟩, px_gl_of e11 (nn 8 13 (by omega)) (nn 25 1 (by omega)) (fun j => nn 26 j (by omega)), fa_st_eq _ _ _ _, trivial, e14⟩
  all_goals (rw [nn _ 1 (by omega)]; assumption)
