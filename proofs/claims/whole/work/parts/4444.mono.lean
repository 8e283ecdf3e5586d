/-! the spec's reader with more fuel, and without the limit of depth: what it answers it answers still -/
def pq (b : Bool) (x y : ps_R) : Prop := ∀ r, x = some r → (b = true ∨ ∃ u, r = .ok u) → y = some r
theorem pq_refl (b : Bool) (x : ps_R) : pq b x x := fun _ h _ => h
theorem pq_none (b : Bool) (y : ps_R) : pq b none y := fun _ h _ => by cases h
theorem pq_bd {b : Bool} {x y : ps_R} {f g : pt_T → ps_S → ps_R} (h : pq b x y) (hf : ∀ t s, pq b (f t s) (g t s)) : pq b (ps_bd x f) (ps_bd y g) := by
  intro r hr hb
  cases x with
  | none => cases hr
  | some x =>
    cases x with
    | error z =>
      cases hr
      rcases hb with hb | ⟨u, hb⟩
      · rw [h _ rfl (Or.inl hb)]; rfl
      · cases hb
    | ok u =>
      obtain ⟨t, s⟩ := u
      rw [h _ rfl (Or.inr ⟨_, rfl⟩)]
      exact hf t s r hr hb
theorem pq_if {b : Bool} {P : Prop} [Decidable P] {x y x' y' : ps_R} (h1 : P → pq b x x') (h2 : ¬ P → pq b y y') : pq b (if P then x else y) (if P then x' else y') := by
  by_cases h : P
  · rw [if_pos h, if_pos h]; exact h1 h
  · rw [if_neg h, if_neg h]; exact h2 h
theorem pq_gd {b : Bool} {P Q : Prop} [Decidable P] [Decidable Q] {z : Nat} {x y : ps_R} (h1 : Q → P) (h2 : P → Q ∨ b = false) (h : pq b x y) : pq b (if P then ps_er z else x) (if Q then ps_er z else y) := by
  by_cases hP : P
  · by_cases hQ : Q
    · rw [if_pos hP, if_pos hQ]; exact pq_refl _ _
    · rw [if_pos hP]
      intro r hr hb
      cases hr
      rcases h2 hP with q | q
      · exact absurd q hQ
      · rcases hb with hb | ⟨u, hb⟩
        · rw [q] at hb; cases hb
        · cases hb
  · rw [if_neg hP, if_neg (fun q => hP (h1 q))]; exact h
theorem pq_ex {b : Bool} {c : Nat → Int} {n k p : Nat} {f g : Nat → ps_R} (h : ∀ q, pq b (f q) (g q)) : pq b (ps_ex c n k p f) (ps_ex c n k p g) := by
  unfold ps_ex
  exact pq_if (fun _ => h _) (fun _ => pq_refl _ _)
theorem pq_nm {b : Bool} {c : Nat → Int} {n p : Nat} {f g : Nat → Nat → ps_R} (h : ∀ x q, pq b (f x q) (g x q)) : pq b (ps_nm c n p f) (ps_nm c n p g) := by
  unfold ps_nm
  exact pq_if (fun _ => h _ _) (fun _ => pq_refl _ _)
def pq_fr (b fr fr' : Bool) : Prop := fr = fr' ∨ (b = false ∧ fr = false ∧ fr' = true)
theorem pq_c {b fr fr' : Bool} (h : pq_fr b fr fr') {P Q : Prop} [Decidable P] [Decidable Q] {z : Nat} {x y : ps_R} (hxy : pq b x y) (e : P ↔ P) : pq b (if P ∨ (Q ∧ fr = false) then ps_er z else x) (if P ∨ (Q ∧ fr' = false) then ps_er z else y) := by
  rcases h with rfl | ⟨rfl, rfl, rfl⟩
  · exact pq_gd id Or.inl hxy
  · exact pq_gd (fun q => q.elim Or.inl (fun z => by cases z.2)) (fun _ => Or.inr rfl) hxy
theorem pq_lp {b : Bool} {c : Nat → Int} {n o1 o2 : Nat} {r r' : ps_E → ps_S → ps_R} (h : ∀ e s, pq b (r e s) (r' e s)) (e : ps_E) : ∀ (f : Nat) (a : pt_T) (s : ps_S), pq b (ps_lp c n o1 o2 r e f a s) (ps_lp c n o1 o2 r' e f a s) := by
  intro f
  induction f with
  | zero => intro a s; exact pq_none _ _
  | succ f ih =>
    intro a s
    unfold ps_lp
    exact pq_if (fun _ => pq_if (fun _ => pq_refl _ _) (fun _ => pq_bd (pq_bd (h _ _) (fun _ _ => pq_refl _ _)) (fun t s => ih t s))) (fun _ => pq_refl _ _)
theorem pq_ch {b : Bool} {c : Nat → Int} {n : Nat} {r r' : ps_E → ps_S → ps_R} (h : ∀ e s, pq b (r e s) (r' e s)) (e : ps_E) : ∀ (f : Nat) (a : pt_T) (s : ps_S), pq b (ps_ch c n r e f a s) (ps_ch c n r' e f a s) := by
  intro f
  induction f with
  | zero => intro a s; exact pq_none _ _
  | succ f ih =>
    intro a s
    obtain ⟨p, th, la, ins, lt, si, nd⟩ := s
    unfold ps_ch
    exact pq_if (fun _ => pq_if (fun _ => pq_refl _ _) (fun _ => pq_bd (pq_bd (h _ _) (fun _ _ => pq_refl _ _)) (fun t s => ih t s))) (fun _ => pq_refl _ _)
theorem pq_t {b fr fr' : Bool} (hf : pq_fr b fr fr') {c : Nat → Int} {n : Nat} : ∀ (f f' m : Nat) (e : ps_E) (s : ps_S), f ≤ f' → pq b (ps_t c n fr f m e s) (ps_t c n fr' f' m e s) := by
  intro f
  induction f with
  | zero => intro f' m e s _; exact pq_none _ _
  | succ f ih =>
    intro f' m e s hff
    obtain ⟨f', rfl⟩ : ∃ z, f' = z + 1 := ⟨f' - 1, by omega⟩
    have i : ∀ m e s, pq b (ps_t c n fr f m e s) (ps_t c n fr' f' m e s) := fun m e s => ih f' m e s (by omega)
    obtain ⟨gl, sc, ow, ne⟩ := e
    obtain ⟨p, th, la, ins, lt, si, nd⟩ := s
    match m with
    | 0 =>
      show pq b (ps_expr _ _ _ _ _ _ _ _) (ps_expr _ _ _ _ _ _ _ _)
      unfold ps_expr
      exact pq_if (fun _ => i _ _ _) (fun _ => pq_if (fun _ => i _ _ _) (fun _ => pq_if (fun _ => i _ _ _) (fun _ => i _ _ _)))
    | 1 =>
      show pq b (ps_lam c n fr (ps_t c n fr f 0) (gl, sc, ow, ne) (p, th, la, ins, lt, si, nd)) (ps_lam c n fr' (ps_t c n fr' f' 0) (gl, sc, ow, ne) (p, th, la, ins, lt, si, nd))
      dsimp only [ps_lam]
      rcases hf with rfl | ⟨rfl, rfl, rfl⟩
      · exact pq_gd id Or.inl (pq_nm (fun _ _ => pq_ex (fun _ => pq_bd (i _ _ _) (fun _ _ => pq_refl _ _))))
      · exact pq_gd (fun q => q.elim Or.inl (fun q => q.elim (fun q => Or.inr (Or.inl q)) (fun z => by cases z.2))) (fun _ => Or.inr rfl) (pq_nm (fun _ _ => pq_ex (fun _ => pq_bd (i _ _ _) (fun _ _ => pq_refl _ _))))
    | 2 =>
      show pq b (ps_cho c n fr (ps_t c n fr f 0) (gl, sc, ow, ne) (p, th, la, ins, lt, si, nd)) (ps_cho c n fr' (ps_t c n fr' f' 0) (gl, sc, ow, ne) (p, th, la, ins, lt, si, nd))
      dsimp only [ps_cho]
      exact pq_c hf (pq_bd (i _ _ _) (fun _ _ => pq_ex (fun _ => pq_bd (i _ _ _) (fun _ _ => pq_ex (fun _ => pq_bd (i _ _ _) (fun _ _ => pq_refl _ _)))))) Iff.rfl
    | 3 =>
      show pq b (ps_let c n fr (ps_t c n fr f 0) (gl, sc, ow, ne) (p, th, la, ins, lt, si, nd)) (ps_let c n fr' (ps_t c n fr' f' 0) (gl, sc, ow, ne) (p, th, la, ins, lt, si, nd))
      dsimp only [ps_let]
      exact pq_c hf (pq_nm (fun _ _ => pq_ex (fun _ => pq_bd (i _ _ _) (fun _ s1 => pq_ex (fun _ => by
        obtain ⟨p1, th1, la1, ins1, lt1, si1, nd1⟩ := s1
        exact pq_bd (i _ _ _) (fun _ _ => pq_refl _ _)))))) Iff.rfl
    | 4 =>
      show pq b (ps_tst _ _ _ _ _) (ps_tst _ _ _ _ _)
      unfold ps_tst
      exact pq_bd (i _ _ _) (fun _ _ => pq_if (fun _ => pq_if (fun _ => pq_refl _ _) (fun _ => pq_bd (i _ _ _) (fun _ _ => pq_refl _ _))) (fun _ => pq_refl _ _))
    | 5 => exact pq_bd (i _ _ _) (fun _ _ => pq_lp (fun e s => i _ e s) _ _ _ _)
    | 6 => exact pq_bd (i _ _ _) (fun _ _ => pq_lp (fun e s => i _ e s) _ _ _ _)
    | 7 => exact pq_bd (i _ _ _) (fun _ _ => pq_ch (fun e s => i _ e s) _ _ _ _)
    | 8 =>
      show pq b (ps_atom c n fr (ps_t c n fr f 0) (gl, sc, ow, ne) (p, th, la, ins, lt, si, nd)) (ps_atom c n fr' (ps_t c n fr' f' 0) (gl, sc, ow, ne) (p, th, la, ins, lt, si, nd))
      dsimp only [ps_atom]
      refine pq_if (fun _ => ?_) (fun _ => pq_refl _ _)
      rcases hf with rfl | ⟨rfl, rfl, rfl⟩
      · exact pq_gd id Or.inl (pq_bd (i _ _ _) (fun _ _ => pq_refl _ _))
      · exact pq_gd (fun q => by cases q.2) (fun _ => Or.inr rfl) (pq_bd (i _ _ _) (fun _ _ => pq_refl _ _))
    | m + 9 => exact pq_none _ _
