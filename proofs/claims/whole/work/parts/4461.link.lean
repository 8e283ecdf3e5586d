/-! linked TYPES: T of them, up: the link, ar: arrows; R the root, l the roots, N how many links were made -/
abbrev pu_A : Type := Nat → Option (Nat × Nat)
def pu_I (T : Nat) (up : Nat → Nat) (ar : pu_A) (R : Nat → Nat) (l : List Nat) (N : Nat) : Prop :=
  l.Nodup ∧ (∀ k, k ∈ l ↔ (k < T ∧ up k = k)) ∧ l.length + N = T ∧ 0 < T ∧ up 0 = 0 ∧ ar 0 = none ∧ (∀ k, k < T → ∀ a b, ar k = some (a, b) → a < T ∧ b < T) ∧ ∃ d : Nat → Nat, ∀ k, k < T → R k < T ∧ up (R k) = R k ∧ d k ≤ N ∧ up k < T ∧ (up k = k → R k = k ∧ d k = 0) ∧ (up k ≠ k → R (up k) = R k ∧ d (up k) < d k)
def pu_set {A : Type} (f : Nat → A) (k : Nat) (x : A) : Nat → A := fun j => if j = k then x else f j
theorem pu_set_eq {A : Type} (f : Nat → A) (k : Nat) (x : A) : pu_set f k x k = x := if_pos rfl
theorem pu_set_ne {A : Type} (f : Nat → A) {k j : Nat} (x : A) (h : j ≠ k) : pu_set f k x j = f j := if_neg h
/-- one more -/
theorem pu_alloc {T : Nat} {up : Nat → Nat} {ar : pu_A} {R : Nat → Nat} {l : List Nat} {N : Nat} (h : pu_I T up ar R l N) (x : Option (Nat × Nat)) (hx : ∀ a b, x = some (a, b) → a < T ∧ b < T) : pu_I (T + 1) (pu_set up T T) (pu_set ar T x) (pu_set R T T) (T :: l) N := by
  obtain ⟨h1, h2, h3, h4, h5, h6, h7, d, h8⟩ := h
  refine ⟨List.nodup_cons.mpr ⟨fun q => by have := (h2 T).mp q; omega, h1⟩, fun k => ?_, by rw [List.length_cons]; omega, by omega, by rw [pu_set_ne _ _ (by omega)]; exact h5, by rw [pu_set_ne _ _ (by omega)]; exact h6, fun k hk a b e => ?_, pu_set d T 0, fun k hk => ?_⟩
  · rw [List.mem_cons, h2]
    by_cases e : k = T
    · subst e
      rw [pu_set_eq]
      exact ⟨fun _ => ⟨by omega, rfl⟩, fun _ => Or.inl rfl⟩
    · rw [pu_set_ne _ _ e]
      exact ⟨fun q => by rcases q with q | q; exact absurd q e; exact ⟨by omega, q.2⟩, fun q => Or.inr ⟨by omega, q.2⟩⟩
  · by_cases q : k = T
    · subst q
      rw [pu_set_eq] at e
      have := hx a b e
      omega
    · rw [pu_set_ne _ _ q] at e
      have := h7 k (by omega) a b e
      omega
  · by_cases q : k = T
    · subst q
      rw [pu_set_eq, pu_set_eq, pu_set_eq, pu_set_eq]
      exact ⟨by omega, rfl, by omega, by omega, fun _ => ⟨rfl, rfl⟩, fun z => absurd rfl z⟩
    · obtain ⟨a1, a2, a3, a4, a5, a6⟩ := h8 k (by omega)
      rw [pu_set_ne _ _ q, pu_set_ne _ _ q, pu_set_ne (j := R k) _ _ (by omega), pu_set_ne _ _ q, pu_set_ne (j := up k) _ _ (by omega), pu_set_ne (j := up k) _ _ (by omega)]
      exact ⟨by omega, a2, a3, by omega, a5, a6⟩
/-- a root is linked to another one -/
theorem pu_link {T : Nat} {up : Nat → Nat} {ar : pu_A} {R : Nat → Nat} {l : List Nat} {N : Nat} (h : pu_I T up ar R l N) {r s : Nat} (hr : r ∈ l) (hs : s ∈ l) (hrs : r ≠ s) (h0 : r ≠ 0) : pu_I T (pu_set up r s) ar (fun k => if R k = r then s else R k) (l.erase r) (N + 1) := by
  obtain ⟨h1, h2, h3, h4, h5, h6, h7, d, h8⟩ := h
  have r1 := (h2 r).mp hr
  have s1 := (h2 s).mp hs
  have sR : R s = s := ((h8 s s1.1).2.2.2.2.1 s1.2).1
  have s0 : d s = 0 := ((h8 s s1.1).2.2.2.2.1 s1.2).2
  have rR : R r = r := ((h8 r r1.1).2.2.2.2.1 r1.2).1
  refine ⟨h1.erase r, fun k => ?_, ?_, h4, by rw [pu_set_ne _ _ (Ne.symm h0)]; exact h5, h6, h7, fun k => if R k = r then d k + 1 else d k, fun k hk => ?_⟩
  · rw [h1.mem_erase_iff, h2]
    by_cases e : k = r
    · subst e
      rw [pu_set_eq]
      exact ⟨fun q => absurd rfl q.1, fun q => absurd q.2.symm hrs⟩
    · rw [pu_set_ne _ _ e]
      exact ⟨fun q => q.2, fun q => ⟨e, q⟩⟩
  · rw [List.length_erase_of_mem hr]
    have := List.length_pos_of_mem hr
    omega
  · obtain ⟨a1, a2, a3, a4, a5, a6⟩ := h8 k hk
    dsimp only
    by_cases q : k = r
    · subst q
      rw [rR, if_pos rfl, pu_set_eq, pu_set_ne _ _ (Ne.symm hrs), sR, if_neg (Ne.symm hrs), if_pos rfl, if_neg (Ne.symm hrs)]
      have dk : d k ≤ N := a3
      refine ⟨s1.1, s1.2, by omega, s1.1, fun z => absurd z.symm hrs, fun _ => ⟨rfl, ?_⟩⟩
      omega
    · rw [pu_set_ne _ _ q]
      have e1 : pu_set up r s (if R k = r then s else R k) = if R k = r then s else R k := by
        by_cases z : R k = r
        · rw [if_pos z, pu_set_ne _ _ (Ne.symm hrs)]; exact s1.2
        · rw [if_neg z, pu_set_ne _ _ z]; exact a2
      refine ⟨?_, e1, ?_, a4, fun z => ?_, fun z => ?_⟩
      · by_cases z : R k = r
        · rw [if_pos z]; exact s1.1
        · rw [if_neg z]; exact a1
      · by_cases z : R k = r
        · rw [if_pos z]; omega
        · rw [if_neg z]; omega
      · obtain ⟨z1, z2⟩ := a5 z
        rw [z1, if_neg q, if_neg q]
        exact ⟨rfl, z2⟩
      · obtain ⟨b1, b2⟩ := a6 z
        rw [b1]
        refine ⟨rfl, ?_⟩
        by_cases z : R k = r
        · rw [if_pos z, if_pos z]; omega
        · rw [if_neg z, if_neg z]; exact b2
/-- the loop that looks for a root: every number's links end -/
theorem pu_walk {T : Nat} {up : Nat → Nat} {ar : pu_A} {R : Nat → Nat} {l : List Nat} {N : Nat} (h : pu_I T up ar R l N) : ∃ d : Nat → Nat, ∀ k, k < T → R k < T ∧ up (R k) = R k ∧ d k < T ∧ up k < T ∧ (up k = k → R k = k) ∧ (up k ≠ k → R (up k) = R k ∧ d (up k) < d k) := by
  obtain ⟨h1, h2, h3, h4, h5, h6, h7, d, h8⟩ := h
  refine ⟨d, fun k hk => ?_⟩
  obtain ⟨a1, a2, a3, a4, a5, a6⟩ := h8 k hk
  have z : 0 < l.length := List.length_pos_of_mem ((h2 0).mpr ⟨h4, h5⟩)
  exact ⟨a1, a2, by omega, a4, fun z => (a5 z).1, a6⟩
theorem pu_root {T : Nat} {up : Nat → Nat} {ar : pu_A} {R : Nat → Nat} {l : List Nat} {N : Nat} (h : pu_I T up ar R l N) {k : Nat} (hk : k < T) : R k ∈ l ∧ R k < T ∧ up (R k) = R k := by
  obtain ⟨h1, h2, h3, h4, h5, h6, h7, d, h8⟩ := h
  obtain ⟨a1, a2, _⟩ := h8 k hk
  exact ⟨(h2 _).mpr ⟨a1, a2⟩, a1, a2⟩
/-! what a valuation of the numbers keeps: links, roots that are arrows, other arrows -/
def pu_0 (T : Nat) (up : Nat → Nat) (ar : pu_A) (val : Nat → pv_T) : Prop := val 0 = pv_int ∧ (∀ k, k < T → val (up k) = val k) ∧ ∀ k, k < T → up k = k → ∀ a b, ar k = some (a, b) → val k = pv_ar (val a) (val b)
def pu_E (T : Nat) (up : Nat → Nat) (ar : pu_A) (val : Nat → pv_T) : Prop := ∀ k, k < T → up k ≠ k → ∀ a b, ar k = some (a, b) → val k = pv_ar (val a) (val b)
theorem pu_0_R {T : Nat} {up : Nat → Nat} {ar : pu_A} {R : Nat → Nat} {l : List Nat} {N : Nat} {val : Nat → pv_T} (h : pu_I T up ar R l N) (h0 : pu_0 T up ar val) {k : Nat} (hk : k < T) : val (R k) = val k := by
  obtain ⟨d, hd⟩ := pu_walk h
  have key : ∀ n k, k < T → d k ≤ n → val (R k) = val k := by
    intro n
    induction n with
    | zero =>
      intro k hk hn
      obtain ⟨a1, a2, a3, a4, a5, a6⟩ := hd k hk
      by_cases e : up k = k
      · rw [a5 e]
      · have := (a6 e).2; omega
    | succ n ih =>
      intro k hk hn
      obtain ⟨a1, a2, a3, a4, a5, a6⟩ := hd k hk
      by_cases e : up k = k
      · rw [a5 e]
      · have := a6 e
        rw [← this.1, ih (up k) a4 (by omega)]
        exact h0.2.1 k hk
  exact key (d k) k hk (Nat.le_refl _)
/-- what making pairs one does: up, cl before; up', cl' behind -/
def pu_P (T : Nat) (ar : pu_A) (ps : List (Nat × Nat)) (up : Nat → Nat) (cl : Bool) (up' : Nat → Nat) (cl' : Bool) : Prop :=
  (∀ val, pu_0 T up ar val → pu_E T up ar val → (∀ p ∈ ps, val p.1 = val p.2) → pu_0 T up' ar val ∧ pu_E T up' ar val ∧ cl' = cl) ∧ (cl' = false → cl = false ∧ ∀ val, pu_0 T up' ar val → pu_0 T up ar val ∧ (∀ p ∈ ps, val p.1 = val p.2) ∧ (pu_E T up ar val → pu_E T up' ar val))
theorem pu_P_nil (T : Nat) (ar : pu_A) (up : Nat → Nat) (cl : Bool) : pu_P T ar [] up cl up cl := ⟨fun val h1 h2 _ => ⟨h1, h2, rfl⟩, fun h => ⟨h, fun val h1 => ⟨h1, (fun p hp => by cases hp), fun q => q⟩⟩⟩
theorem pu_P_tr {T : Nat} {ar : pu_A} {ps qs : List (Nat × Nat)} {up up1 up2 : Nat → Nat} {cl cl1 cl2 : Bool} (h1 : pu_P T ar ps up cl up1 cl1) (h2 : pu_P T ar qs up1 cl1 up2 cl2) : pu_P T ar (ps ++ qs) up cl up2 cl2 := by
  refine ⟨fun val a b hp => ?_, fun h => ?_⟩
  · have p1 := h1.1 val a b (fun p q => hp p (List.mem_append_left _ q))
    have p2 := h2.1 val p1.1 p1.2.1 (fun p q => hp p (List.mem_append_right _ q))
    exact ⟨p2.1, p2.2.1, p2.2.2.trans p1.2.2⟩
  · obtain ⟨c1, q2⟩ := h2.2 h
    obtain ⟨c0, q1⟩ := h1.2 c1
    refine ⟨c0, fun val a => ?_⟩
    obtain ⟨z1, z2, z3⟩ := q2 val a
    obtain ⟨y1, y2, y3⟩ := q1 val z1
    refine ⟨y1, fun p hp => ?_, fun e => z3 (y3 e)⟩
    rcases List.mem_append.mp hp with q | q
    · exact y2 p q
    · exact z2 p q
theorem pu_P_eq {T : Nat} {ar : pu_A} {ps : List (Nat × Nat)} {up up' : Nat → Nat} {cl cl' : Bool} {R : Nat → Nat} {l : List Nat} {N a b : Nat} (hI : pu_I T up ar R l N) (ha : a < T) (hb : b < T) (e : R a = R b) (h : pu_P T ar ps up cl up' cl') : pu_P T ar ((a, b) :: ps) up cl up' cl' := by
  refine ⟨fun val h1 h2 hp => h.1 val h1 h2 (fun p q => hp p (List.mem_cons_of_mem _ q)), fun c => ?_⟩
  obtain ⟨c0, q⟩ := h.2 c
  refine ⟨c0, fun val g => ?_⟩
  obtain ⟨z1, z2, z3⟩ := q val g
  refine ⟨z1, fun p hp => ?_, z3⟩
  rcases List.mem_cons.mp hp with rfl | hp
  · dsimp only
    rw [← pu_0_R hI z1 ha, ← pu_0_R hI z1 hb, e]
  · exact z2 p hp
/-- the link itself: r, s roots; ds what is still to be made one -/
theorem pu_P_lk {T : Nat} {ar : pu_A} {ps ds : List (Nat × Nat)} {up up' : Nat → Nat} {cl cl' : Bool} {R : Nat → Nat} {l : List Nat} {N a b r s : Nat} (hI : pu_I T up ar R l N) (ha : a < T) (hb : b < T) (hrs : (r = R a ∧ s = R b) ∨ (r = R b ∧ s = R a)) (hne : r ≠ s) (h0 : r ≠ 0) (har : (ar r = none ∧ ds = []) ∨ ∃ a1 b1 a2 b2, ar r = some (a1, b1) ∧ ar s = some (a2, b2) ∧ ∀ val : Nat → pv_T, (∀ p ∈ ds, val p.1 = val p.2) ↔ (val a1 = val a2 ∧ val b1 = val b2)) (h : pu_P T ar (ds ++ ps) (pu_set up r s) cl up' cl') : pu_P T ar ((a, b) :: ps) up cl up' cl' := by
  have ra := pu_root hI ha
  have rb := pu_root hI hb
  have hr : r < T ∧ up r = r ∧ s < T ∧ up s = s := by
    rcases hrs with ⟨e1, e2⟩ | ⟨e1, e2⟩ <;> rw [e1, e2]
    · exact ⟨ra.2.1, ra.2.2, rb.2.1, rb.2.2⟩
    · exact ⟨rb.2.1, rb.2.2, ra.2.1, ra.2.2⟩
  obtain ⟨r1, r2, s1, s2⟩ := hr
  have us : pu_set up r s s = s := by rw [pu_set_ne _ _ (Ne.symm hne)]; exact s2
  -- a valuation of the linked numbers, and of those before
  have fw : ∀ val, pu_0 T up ar val → pu_E T up ar val → val r = val s → pu_0 T (pu_set up r s) ar val ∧ pu_E T (pu_set up r s) ar val := by
    intro val h1 h2 e
    refine ⟨⟨h1.1, fun k hk => ?_, fun k hk z a b q => ?_⟩, fun k hk z a b q => ?_⟩
    · by_cases q : k = r
      · rw [q, pu_set_eq]; exact e.symm
      · rw [pu_set_ne _ _ q]; exact h1.2.1 k hk
    · by_cases q2 : k = r
      · rw [q2, pu_set_eq] at z; exact absurd z.symm hne
      · rw [pu_set_ne _ _ q2] at z; exact h1.2.2 k hk z a b q
    · by_cases q2 : up k = k
      · exact h1.2.2 k hk q2 a b q
      · exact h2 k hk q2 a b q
  refine ⟨fun val h1 h2 hp => ?_, fun c => ?_⟩
  · have eab := hp (a, b) (List.mem_cons_self ..)
    dsimp only at eab
    have ers : val r = val s := by
      rcases hrs with ⟨e1, e2⟩ | ⟨e1, e2⟩ <;> rw [e1, e2, pu_0_R hI h1 ha, pu_0_R hI h1 hb, eab]
    have f := fw val h1 h2 ers
    refine h.1 val f.1 f.2 (fun p q => ?_)
    rcases List.mem_append.mp q with q | q
    · rcases har with ⟨_, e⟩ | ⟨a1, b1, a2, b2, g1, g2, g3⟩
      · rw [e] at q; cases q
      · refine (g3 val).mpr ?_ p q
        have e1 := h1.2.2 r r1 r2 a1 b1 g1
        have e2 := h1.2.2 s s1 s2 a2 b2 g2
        exact pv_ar_inj (by rw [← e1, ← e2, ers])
    · exact hp p (List.mem_cons_of_mem _ q)
  · obtain ⟨c0, q⟩ := h.2 c
    refine ⟨c0, fun val g => ?_⟩
    obtain ⟨z1, z2, z3⟩ := q val g
    have ers : val r = val s := by
      have := z1.2.1 r r1
      rw [pu_set_eq] at this
      exact this.symm
    have rr : ∀ a b, ar r = some (a, b) → val r = pv_ar (val a) (val b) := by
      intro a' b' e
      rcases har with ⟨g1, _⟩ | ⟨a1, b1, a2, b2, g1, g2, g3⟩
      · rw [g1] at e; cases e
      · have e2 := z1.2.2 s s1 us a2 b2 g2
        have e3 := (g3 val).mp (fun p hp => z2 p (List.mem_append_left _ hp))
        rw [g1] at e
        cases e
        rw [ers, e2, e3.1, e3.2]
    have y1 : pu_0 T up ar val := by
      refine ⟨z1.1, fun k hk => ?_, fun k hk z a b q => ?_⟩
      · by_cases q : k = r
        · rw [q, r2]
        · have := z1.2.1 k hk
          rw [pu_set_ne _ _ q] at this
          exact this
      · by_cases q2 : k = r
        · rw [q2] at q ⊢; exact rr a b q
        · exact z1.2.2 k hk (by rw [pu_set_ne _ _ q2]; exact z) a b q
    refine ⟨y1, fun p hp => ?_, fun e => z3 (fun k hk z a b q => ?_)⟩
    · rcases List.mem_cons.mp hp with rfl | hp
      · dsimp only
        rw [← pu_0_R hI y1 ha, ← pu_0_R hI y1 hb]
        rcases hrs with ⟨e1, e2⟩ | ⟨e1, e2⟩ <;> rw [← e1, ← e2, ers]
      · exact z2 p (List.mem_append_right _ hp)
    · by_cases q2 : up k = k
      · exact y1.2.2 k hk q2 a b q
      · exact e k hk q2 a b q
/-- INT and an arrow -/
theorem pu_P_cl {T : Nat} {ar : pu_A} {ps : List (Nat × Nat)} {up up' : Nat → Nat} {cl cl' : Bool} {R : Nat → Nat} {l : List Nat} {N a b : Nat} (hI : pu_I T up ar R l N) (ha : a < T) (hb : b < T) (hrs : (R a = 0 ∧ ∃ x y, ar (R b) = some (x, y)) ∨ (R b = 0 ∧ ∃ x y, ar (R a) = some (x, y))) (h : pu_P T ar ps up true up' cl') : pu_P T ar ((a, b) :: ps) up cl up' cl' := by
  have ra := pu_root hI ha
  have rb := pu_root hI hb
  refine ⟨fun val h1 h2 hp => ?_, fun c => ?_⟩
  · exfalso
    have eab := hp (a, b) (List.mem_cons_self ..)
    dsimp only at eab
    rw [← pu_0_R hI h1 ha, ← pu_0_R hI h1 hb] at eab
    rcases hrs with ⟨e, x, y, g⟩ | ⟨e, x, y, g⟩
    · rw [e, h1.1, h1.2.2 _ rb.2.1 rb.2.2 x y g] at eab
      exact pv_ar_int eab.symm
    · rw [e, h1.1, h1.2.2 _ ra.2.1 ra.2.2 x y g] at eab
      exact pv_ar_int eab
  · have := (h.2 c).1
    cases this
