/-! shapes: equal TYPES get one number, parts ahead of wholes -/
def px_hI (T : Nat) (up : Nat → Nat) (ar : pu_A) (R : Nat → Nat) (sh : Nat → Option Nat) : Prop :=
  (∀ k c, sh k = some c → k < T ∧ up k = k ∧ c < T ∧ up c = c ∧ sh c = some c) ∧
  (∀ k c, sh k = some c → ar k = none → c = k) ∧
  (∀ k c a b, sh k = some c → ar k = some (a, b) → ∃ a' b' x y, ar c = some (a', b') ∧ sh (R a) = some x ∧ sh (R b) = some y ∧ sh (R a') = some x ∧ sh (R b') = some y) ∧
  (∀ c c' a b a' b', sh c = some c → sh c' = some c' → ar c = some (a, b) → ar c' = some (a', b') → sh (R a) = sh (R a') → sh (R b) = sh (R b') → c = c') ∧
  ∃ rk : Nat → Nat, ∀ k c a b, sh k = some c → ar k = some (a, b) → rk (R a) < rk k ∧ rk (R b) < rk k
theorem px_hI_0 (T : Nat) (up : Nat → Nat) (ar : pu_A) (R : Nat → Nat) : px_hI T up ar R (fun _ => none) :=
  ⟨fun _ _ h => (nomatch h), fun _ _ h => (nomatch h), fun _ _ _ _ h => (nomatch h), fun _ _ _ _ _ _ h => (nomatch h), fun _ => 0, fun _ _ _ _ h => (nomatch h)⟩
/-- one more gets its shape -/
theorem px_hI_set {T : Nat} {up : Nat → Nat} {ar : pu_A} {R : Nat → Nat} {l : List Nat} {N : Nat} (hI : pu_I T up ar R l N) {sh : Nat → Option Nat} (h : px_hI T up ar R sh) {k c : Nat} (hk : k < T) (hu : up k = k) (hn : sh k = none) (hc : (ar k = none ∧ c = k) ∨ ∃ a b x y, ar k = some (a, b) ∧ sh (R a) = some x ∧ sh (R b) = some y ∧ ((c = k ∧ ∀ j a' b', sh j = some j → ar j = some (a', b') → ¬ (sh (R a') = some x ∧ sh (R b') = some y)) ∨ (sh c = some c ∧ ∃ a' b', ar c = some (a', b') ∧ sh (R a') = some x ∧ sh (R b') = some y))) : px_hI T up ar R (pu_set sh k (some c)) := by
  obtain ⟨h1, h2, h3, h4, rk, h5⟩ := h
  have keep : ∀ j x, sh j = some x → pu_set sh k (some c) j = some x := fun j x e => by
    rw [pu_set_ne _ _ (fun z => by rw [z, hn] at e; cases e)]; exact e
  have back : ∀ j x, pu_set sh k (some c) j = some x → j ≠ k → sh j = some x := fun j x e z => by
    rw [pu_set_ne _ _ z] at e; exact e
  refine ⟨fun j x e => ?_, fun j x e ea => ?_, fun j x a b e ea => ?_, fun i j a b a' b' ei ej ai aj e1 e2 => ?_, ?_⟩
  · by_cases z : j = k
    · rw [z, pu_set_eq] at e
      cases e
      rcases hc with ⟨_, e⟩ | ⟨a, b, x, y, _, _, _, ⟨e, _⟩ | ⟨e, _⟩⟩
      · rw [z, e]; exact ⟨hk, hu, hk, hu, pu_set_eq _ _ _⟩
      · rw [z, e]; exact ⟨hk, hu, hk, hu, pu_set_eq _ _ _⟩
      · obtain ⟨u1, u2, u3, u4, u5⟩ := h1 _ _ e
        rw [z]
        exact ⟨hk, hu, u1, u2, keep _ _ e⟩
    · obtain ⟨u1, u2, u3, u4, u5⟩ := h1 _ _ (back _ _ e z)
      exact ⟨u1, u2, u3, u4, keep _ _ u5⟩
  · by_cases z : j = k
    · rw [z, pu_set_eq] at e
      cases e
      rw [z] at ea ⊢
      rcases hc with ⟨_, e⟩ | ⟨a, b, x, y, e, _⟩
      · exact e
      · rw [ea] at e; cases e
    · exact h2 _ _ (back _ _ e z) ea
  · by_cases z : j = k
    · rw [z, pu_set_eq] at e
      cases e
      rw [z] at ea
      rcases hc with ⟨e, _⟩ | ⟨a0, b0, x, y, e, s1, s2, hh⟩
      · rw [ea] at e; cases e
      · rw [ea] at e
        cases e
        rcases hh with ⟨e, _⟩ | ⟨e, a', b', g1, g2, g3⟩
        · exact ⟨a, b, x, y, by rw [e]; exact ea, keep _ _ s1, keep _ _ s2, keep _ _ s1, keep _ _ s2⟩
        · exact ⟨a', b', x, y, g1, keep _ _ s1, keep _ _ s2, keep _ _ g2, keep _ _ g3⟩
    · obtain ⟨a', b', x', y', g1, g2, g3, g4, g5⟩ := h3 _ _ a b (back _ _ e z) ea
      exact ⟨a', b', x', y', g1, keep _ _ g2, keep _ _ g3, keep _ _ g4, keep _ _ g5⟩
  · -- two that stand for themselves
    have kid : ∀ j a b, sh j = some j → ar j = some (a, b) → ∃ x y, sh (R a) = some x ∧ sh (R b) = some y := fun j a b e ea => by
      obtain ⟨_, _, x, y, _, g2, g3, _⟩ := h3 j j a b e ea
      exact ⟨x, y, g2, g3⟩
    have one : ∀ j a b, j ≠ k → pu_set sh k (some c) j = some j → ar j = some (a, b) → ∀ a0 b0, ar k = some (a0, b0) → pu_set sh k (some c) k = some k → pu_set sh k (some c) (R a0) = pu_set sh k (some c) (R a) → pu_set sh k (some c) (R b0) = pu_set sh k (some c) (R b) → False := by
      intro j a b z ej aj a0 b0 ak ek e1 e2
      rw [pu_set_eq] at ek
      cases ek
      have ej := back _ _ ej z
      obtain ⟨x', y', g1, g2⟩ := kid j a b ej aj
      rcases hc with ⟨e, _⟩ | ⟨a1, b1, x, y, e, s1, s2, hh⟩
      · rw [ak] at e; cases e
      · rw [ak] at e
        cases e
        rw [keep _ _ s1, keep _ _ g1] at e1
        rw [keep _ _ s2, keep _ _ g2] at e2
        cases e1
        cases e2
        rcases hh with ⟨_, hh⟩ | ⟨e, _⟩
        · exact hh j a b ej aj ⟨g1, g2⟩
        · rw [hn] at e; cases e
    by_cases z : i = k
    · by_cases y : j = k
      · rw [z, y]
      · subst z
        exact (one j a' b' y ej aj a b ai ei e1 e2).elim
    · by_cases y : j = k
      · subst y
        exact (one i a b z ei ai a' b' aj ej e1.symm e2.symm).elim
      · have ei := back _ _ ei z
        have ej := back _ _ ej y
        obtain ⟨x1, y1, g1, g2⟩ := kid i a b ei ai
        obtain ⟨x2, y2, g3, g4⟩ := kid j a' b' ej aj
        rw [keep _ _ g1, keep _ _ g3] at e1
        rw [keep _ _ g2, keep _ _ g4] at e2
        exact h4 i j a b a' b' ei ej ai aj (by rw [g1, g3, e1]) (by rw [g2, g4, e2])
  · refine ⟨pu_set rk k (rk (match ar k with | some (a, _) => R a | none => 0) + rk (match ar k with | some (_, b) => R b | none => 0) + 1), fun j x a b e ea => ?_⟩
    by_cases z : j = k
    · rw [z] at ea
      rcases hc with ⟨e, _⟩ | ⟨a1, b1, x, y, e, s1, s2, hh⟩
      · rw [ea] at e; cases e
      · rw [ea] at e
        cases e
        rw [z, pu_set_eq, ea, pu_set_ne _ _ (fun w => by rw [w, hn] at s1; cases s1), pu_set_ne _ _ (fun w => by rw [w, hn] at s2; cases s2)]
        dsimp only
        omega
    · have e := back _ _ e z
      obtain ⟨_, _, x, y, _, g2, g3, _⟩ := h3 j _ a b e ea
      rw [pu_set_ne _ _ z, pu_set_ne _ _ (fun w => by rw [w, hn] at g2; cases g2), pu_set_ne _ _ (fun w => by rw [w, hn] at g3; cases g3)]
      exact h5 _ _ a b e ea
/-- where all have shapes: equal shapes are equal TYPES -/
theorem px_sh_ev {T : Nat} {up : Nat → Nat} {ar : pu_A} {R : Nat → Nat} {l : List Nat} {N : Nat} (hI : pu_I T up ar R l N) {sh : Nat → Option Nat} (h : px_hI T up ar R sh) (hall : ∀ k, k < T → up k = k → sh k ≠ none) {rk : Nat → Nat} (hc : pu_ac T up ar R rk) : ∀ (n k j : Nat), k < T → j < T → rk (R k) < n → rk (R j) < n → (sh (R k) = sh (R j) ↔ pu_ev R ar n k = pu_ev R ar n j) := by
  obtain ⟨h1, h2, h3, h4, _⟩ := h
  intro n
  induction n with
  | zero => intro k j _ _ h; omega
  | succ n ih =>
    intro k j hk hj rkk rkj
    have rk' := pu_root hI hk
    have rj' := pu_root hI hj
    have a0 : ar 0 = none := hI.2.2.2.2.2.1
    have hab := hI.2.2.2.2.2.2.1
    obtain ⟨x, hx⟩ := Option.ne_none_iff_exists'.mp (hall _ rk'.2.1 rk'.2.2)
    obtain ⟨y, hy⟩ := Option.ne_none_iff_exists'.mp (hall _ rj'.2.1 rj'.2.2)
    have ek : pu_ev R ar (n + 1) k = if R k = 0 then pv_int else match ar (R k) with | none => pv_v (R k) | some (a, b) => pv_ar (pu_ev R ar n a) (pu_ev R ar n b) := rfl
    have ej : pu_ev R ar (n + 1) j = if R j = 0 then pv_int else match ar (R j) with | none => pv_v (R j) | some (a, b) => pv_ar (pu_ev R ar n a) (pu_ev R ar n b) := rfl
    rw [ek, ej]
    cases ea : ar (R k) with
    | none =>
      have ex := h2 _ _ hx ea
      cases eb : ar (R j) with
      | none =>
        have ey := h2 _ _ hy eb
        dsimp only
        rw [hx, hy, ex, ey]
        by_cases z : R k = 0
        · by_cases z2 : R j = 0
          · rw [if_pos z, if_pos z2, z, z2]; exact ⟨fun _ => rfl, fun _ => rfl⟩
          · rw [if_pos z, if_neg z2]
            exact ⟨fun e => absurd (by injection e with e; rw [← e]; exact z) z2, fun e => by cases e⟩
        · by_cases z2 : R j = 0
          · rw [if_neg z, if_pos z2]
            exact ⟨fun e => absurd z2 (by injection e with e; rw [← e]; exact z), fun e => by cases e⟩
          · rw [if_neg z, if_neg z2]
            exact ⟨fun e => by injection e with e; rw [e], fun e => by injection e with e; rw [show R k = R j by omega]⟩
      | some q =>
        obtain ⟨a, b⟩ := q
        have zj : R j ≠ 0 := fun z => by rw [z, a0] at eb; cases eb
        rw [if_neg zj]
        dsimp only
        constructor
        · intro e
          rw [hx, hy, ex] at e
          obtain ⟨a', b', _, _, g1, _⟩ := h3 _ _ a b hy eb
          injection e with e
          rw [← e, ea] at g1
          cases g1
        · intro e
          split at e <;> cases e
    | some q =>
      obtain ⟨a, b⟩ := q
      have zk : R k ≠ 0 := fun z => by rw [z, a0] at ea; cases ea
      rw [if_neg zk]
      dsimp only
      obtain ⟨a1, b1, x1, y1, f1, f2, f3, f4, f5⟩ := h3 _ _ a b hx ea
      cases eb : ar (R j) with
      | none =>
        have ey := h2 _ _ hy eb
        dsimp only
        constructor
        · intro e
          rw [hx, hy, ey] at e
          injection e with e
          rw [e, eb] at f1
          cases f1
        · intro e
          split at e <;> cases e
      | some q2 =>
        obtain ⟨a', b'⟩ := q2
        have zj : R j ≠ 0 := fun z => by rw [z, a0] at eb; cases eb
        rw [if_neg zj]
        dsimp only
        obtain ⟨a2, b2, x2, y2, g1, g2, g3, g4, g5⟩ := h3 _ _ a' b' hy eb
        have ba := hab _ rk'.2.1 a b ea
        have bb := hab _ rj'.2.1 a' b' eb
        have ca := hc _ rk'.2.1 rk'.2.2 a b ea
        have cb := hc _ rj'.2.1 rj'.2.2 a' b' eb
        have i1 := ih a a' ba.1 bb.1 (by omega) (by omega)
        have i2 := ih b b' ba.2 bb.2 (by omega) (by omega)
        have sx := (h1 _ _ hx).2.2.2.2
        have sy := (h1 _ _ hy).2.2.2.2
        constructor
        · intro e
          rw [hx, hy] at e
          injection e with e
          subst e
          rw [f1] at g1
          cases g1
          rw [f4] at g4
          rw [f5] at g5
          cases g4
          cases g5
          rw [i1.mp (by rw [f2, g2]), i2.mp (by rw [f3, g3])]
        · intro e
          obtain ⟨e1, e2⟩ := pv_ar_inj e
          have s1 := i1.mpr e1
          have s2 := i2.mpr e2
          rw [f2, g2] at s1
          rw [f3, g3] at s2
          cases s1
          cases s2
          rw [hx, hy, h4 x y a1 b1 a2 b2 sx sy f1 g1 (by rw [f4, g4]) (by rw [f5, g5])]
