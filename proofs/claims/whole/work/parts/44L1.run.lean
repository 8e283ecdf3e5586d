/-! reading what was written: from an atom up to an EXPR -/
def pr_rd (c : Nat → Int) (n G : Nat) (R : ps_S → ps_R) (q : Nat) (t : pt_T) (k k' : pk_K) (p' : Nat) : Prop := ∀ (p0 th : Nat) (ins : List Nat) (lt : Nat), ps_sk c n p0 = q → ins.length = k.2.1 → th + pt_sz t ≤ 100 → ∃ (ins' : List Nat) (lt' : Nat), ins'.length = k'.2.1 ∧ R (p0, th, k.1, ins, lt, k.2.2.1, k.2.2.2) = ps_re (pr_tr G t) (p', th + pt_sz t, k'.1, ins', lt', k'.2.2.1, k'.2.2.2)
theorem pr_bd (t : pt_T) (s : ps_S) (f : pt_T → ps_S → ps_R) : ps_bd (ps_re t s) f = f t s := rfl
def pr_st (c : Nat → Int) (n p : Nat) : Prop := ps_sa c n (ps_sk c n p) = false ∧ ps_tk c n (ps_sk c n p) ≠ 42 ∧ ps_tk c n (ps_sk c n p) ≠ 47 ∧ ps_tk c n (ps_sk c n p) ≠ 43 ∧ ps_tk c n (ps_sk c n p) ≠ 45 ∧ ps_tk c n (ps_sk c n p) ≠ 60
theorem pr_st_of {c : Nat → Int} {n p s : Nat} (h : ps_tk c n (ps_sk c n p) = s) (hs : s ≠ 1 ∧ s ≠ 2 ∧ s ≠ 1684365668 ∧ s ≠ 40 ∧ s ≠ 3 ∧ s ≠ 42 ∧ s ≠ 47 ∧ s ≠ 43 ∧ s ≠ 45 ∧ s ≠ 60) : pr_st c n p := by
  refine ⟨?_, by rw [h]; exact hs.2.2.2.2.2.1, by rw [h]; exact hs.2.2.2.2.2.2.1, by rw [h]; exact hs.2.2.2.2.2.2.2.1, by rw [h]; exact hs.2.2.2.2.2.2.2.2.1, by rw [h]; exact hs.2.2.2.2.2.2.2.2.2⟩
  unfold ps_sa
  refine decide_eq_false ?_
  rw [h]
  rintro (z | z | z | z | z)
  · exact hs.1 z
  · exact hs.2.1 z
  · exact hs.2.2.1 z
  · exact hs.2.2.2.1 z
  · exact hs.2.2.2.2.1 z.1
theorem pr_7 {c : Nat → Int} {n G F q p' : Nat} {e : ps_E} {t : pt_T} {k k' : pk_K} (h : pr_rd c n G (ps_t c n true F 8 e) q t k k' p') (hs : ps_sa c n (ps_sk c n p') = false) : pr_rd c n G (ps_t c n true (F + 1) 7 e) q t k k' p' := fun p0 th ins lt h1 h2 h3 => by
  obtain ⟨ins', lt', a1, a2⟩ := h p0 th ins lt h1 h2 h3
  refine ⟨ins', lt', a1, ?_⟩
  show ps_bd (ps_t c n true F 8 e _) _ = _
  rw [a2, pr_bd]
  show (if ps_sa c n (ps_sk c n p') = true then _ else _) = _
  rw [if_neg (by rw [hs]; decide)]
theorem pr_lp {c : Nat → Int} {n o1 o2 f : Nat} {rc : ps_E → ps_S → ps_R} {e : ps_E} {t : pt_T} {s : ps_S} (h1 : ps_tk c n (ps_sk c n s.1) ≠ o1) (h2 : ps_tk c n (ps_sk c n s.1) ≠ o2) : ps_lp c n o1 o2 rc e (f + 1) t s = ps_re t s := by
  show (if _ ∨ _ then _ else _) = _
  rw [if_neg (by rintro (z | z); exact h1 z; exact h2 z)]
theorem pr_6 {c : Nat → Int} {n G F q p' : Nat} {e : ps_E} {t : pt_T} {k k' : pk_K} (h : pr_rd c n G (ps_t c n true F 7 e) q t k k' p') (hs : ps_tk c n (ps_sk c n p') ≠ 42 ∧ ps_tk c n (ps_sk c n p') ≠ 47) : pr_rd c n G (ps_t c n true (F + 1) 6 e) q t k k' p' := fun p0 th ins lt h1 h2 h3 => by
  obtain ⟨ins', lt', a1, a2⟩ := h p0 th ins lt h1 h2 h3
  refine ⟨ins', lt', a1, ?_⟩
  show ps_bd (ps_t c n true F 7 e _) _ = _
  rw [a2]
  exact pr_lp (f := 199) hs.1 hs.2
theorem pr_5 {c : Nat → Int} {n G F q p' : Nat} {e : ps_E} {t : pt_T} {k k' : pk_K} (h : pr_rd c n G (ps_t c n true F 6 e) q t k k' p') (hs : ps_tk c n (ps_sk c n p') ≠ 43 ∧ ps_tk c n (ps_sk c n p') ≠ 45) : pr_rd c n G (ps_t c n true (F + 1) 5 e) q t k k' p' := fun p0 th ins lt h1 h2 h3 => by
  obtain ⟨ins', lt', a1, a2⟩ := h p0 th ins lt h1 h2 h3
  refine ⟨ins', lt', a1, ?_⟩
  show ps_bd (ps_t c n true F 6 e _) _ = _
  rw [a2]
  exact pr_lp (f := 199) hs.1 hs.2
theorem pr_4 {c : Nat → Int} {n G F q p' : Nat} {e : ps_E} {t : pt_T} {k k' : pk_K} (h : pr_rd c n G (ps_t c n true F 5 e) q t k k' p') (hs : ps_tk c n (ps_sk c n p') ≠ 60) : pr_rd c n G (ps_t c n true (F + 1) 4 e) q t k k' p' := fun p0 th ins lt h1 h2 h3 => by
  obtain ⟨ins', lt', a1, a2⟩ := h p0 th ins lt h1 h2 h3
  refine ⟨ins', lt', a1, ?_⟩
  show ps_bd (ps_t c n true F 5 e _) _ = _
  rw [a2]
  show (if ps_tk c n (ps_sk c n p') = 60 then _ else _) = _
  rw [if_neg hs]
/-- how what is written begins -/
def pr_at (c : Nat → Int) (n q : Nat) : Prop := ps_sk c n q = q ∧ q < n ∧ (ps_tk c n q = 40 ∨ ps_tk c n q = 1 ∨ ps_tk c n q = 2 ∨ ps_tk c n q = 1684365668)
theorem pr_0 {c : Nat → Int} {n G F q p' : Nat} {e : ps_E} {t : pt_T} {k k' : pk_K} (ha : pr_at c n q) (h : pr_rd c n G (ps_t c n true F 4 e) q t k k' p') : pr_rd c n G (ps_t c n true (F + 1) 0 e) q t k k' p' := fun p0 th ins lt h1 h2 h3 => by
  obtain ⟨ins', lt', a1, a2⟩ := h p0 th ins lt h1 h2 h3
  refine ⟨ins', lt', a1, ?_⟩
  obtain ⟨_, _, b⟩ := ha
  show ps_expr c n _ _ _ _ e _ = _
  unfold ps_expr
  dsimp only
  rw [h1, if_neg (by omega), if_neg (by omega), if_neg (by omega)]
  exact a2
theorem pr_x {c : Nat → Int} {n G F q p' : Nat} {e : ps_E} {t : pt_T} {k k' : pk_K} (ha : pr_at c n q) (h : pr_rd c n G (ps_t c n true F 8 e) q t k k' p') (hs : pr_st c n p') : pr_rd c n G (ps_t c n true (F + 5) 0 e) q t k k' p' := pr_0 ha (pr_4 (pr_5 (pr_6 (pr_7 h hs.1) ⟨hs.2.1, hs.2.2.1⟩) ⟨hs.2.2.2.1, hs.2.2.2.2.1⟩) hs.2.2.2.2.2)
/-- in parentheses -/
theorem pr_par {c : Nat → Int} {n G F q p1 : Nat} {gl : List Nat} {sc : List (Nat × Nat)} {ow : Int} {ne : Nat} {t : pt_T} {k k' : pk_K} (h40 : c q = ((40 : Nat) : Int)) (h41 : c p1 = ((41 : Nat) : Int)) (h : ∀ (th : Nat) (ins : List Nat) (lt : Nat), ins.length = k.2.1 → th + pt_sz t ≤ 100 → ∃ (ins' : List Nat) (lt' : Nat), ins'.length = k'.2.1 ∧ ps_t c n true F 0 (gl, sc, ow, ne + 1) (q + 1, th, k.1, ins, lt, k.2.2.1, k.2.2.2) = ps_re (pr_tr G t) (p1, th + pt_sz t, k'.1, ins', lt', k'.2.2.1, k'.2.2.2)) : pr_rd c n G (ps_t c n true (F + 1) 8 (gl, sc, ow, ne)) q t k k' (p1 + 1) := fun p0 th ins lt h1 h2 h3 => by
  obtain ⟨ins', lt', a1, a2⟩ := h th ins lt h2 h3
  refine ⟨ins', lt', a1, ?_⟩
  obtain ⟨s1, s2, s3⟩ := pr_sg (n := n) (s := 40) (Or.inl rfl) h40
  obtain ⟨u1, u2, u3⟩ := pr_sg (n := n) (s := 41) (Or.inr (Or.inl rfl)) h41
  show ps_atom c n true (ps_t c n true F 0) (gl, sc, ow, ne) (p0, th, k.1, ins, lt, k.2.2.1, k.2.2.2) = _
  unfold ps_atom
  dsimp only
  rw [h1, s2, if_pos rfl, if_neg (by rintro ⟨_, z⟩; cases z), a2, pr_bd]
  unfold ps_ex
  dsimp only
  rw [u1, u2, if_pos rfl, u3]
