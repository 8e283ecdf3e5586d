/-! the most general valuation of linked TYPES, where none lies in itself -/
def pu_ac (T : Nat) (up : Nat → Nat) (ar : pu_A) (R rk : Nat → Nat) : Prop := ∀ k, k < T → up k = k → ∀ a b, ar k = some (a, b) → rk (R a) < rk k ∧ rk (R b) < rk k
def pu_ev (R : Nat → Nat) (ar : pu_A) : Nat → Nat → pv_T
  | 0, k => pv_v (R k)
  | n + 1, k => if R k = 0 then pv_int else match ar (R k) with
    | none => pv_v (R k)
    | some (a, b) => pv_ar (pu_ev R ar n a) (pu_ev R ar n b)
theorem pu_ac_0 {T : Nat} {up : Nat → Nat} {ar : pu_A} {R : Nat → Nat} {l : List Nat} {N : Nat} (hI : pu_I T up ar R l N) {val : Nat → pv_T} (h : pu_0 T up ar val) : pu_ac T up ar R (fun k => pv_sz (val k)) := by
  intro k hk hu a b e
  have hab := hI.2.2.2.2.2.2.1 k hk a b e
  dsimp only
  rw [pu_0_R hI h hab.1, pu_0_R hI h hab.2, h.2.2 k hk hu a b e]
  show pv_sz (val a) < pv_sz (val a) + pv_sz (val b) + 1 ∧ pv_sz (val b) < pv_sz (val a) + pv_sz (val b) + 1
  omega
theorem pu_ev_st {T : Nat} {up : Nat → Nat} {ar : pu_A} {R : Nat → Nat} {l : List Nat} {N : Nat} (hI : pu_I T up ar R l N) {rk : Nat → Nat} (hc : pu_ac T up ar R rk) : ∀ (n k : Nat), k < T → rk (R k) < n → pu_ev R ar (n + 1) k = pu_ev R ar n k := by
  intro n
  induction n with
  | zero => intro k _ h; omega
  | succ n ih =>
    intro k hk h
    have r := pu_root hI hk
    show (if R k = 0 then pv_int else _) = (if R k = 0 then pv_int else _)
    by_cases z : R k = 0
    · rw [if_pos z, if_pos z]
    · rw [if_neg z, if_neg z]
      cases e : ar (R k) with
      | none => rfl
      | some q =>
        obtain ⟨a, b⟩ := q
        have hab := hI.2.2.2.2.2.2.1 _ r.2.1 a b e
        have c := hc _ r.2.1 r.2.2 a b e
        show pv_ar (pu_ev R ar (n + 1) a) (pu_ev R ar (n + 1) b) = pv_ar (pu_ev R ar n a) (pu_ev R ar n b)
        rw [ih a hab.1 (by omega), ih b hab.2 (by omega)]
theorem pu_ev_0 {T : Nat} {up : Nat → Nat} {ar : pu_A} {R : Nat → Nat} {l : List Nat} {N : Nat} (hI : pu_I T up ar R l N) {rk : Nat → Nat} (hc : pu_ac T up ar R rk) {M : Nat} (hM : ∀ k, k < T → rk k < M) : pu_0 T up ar (pu_ev R ar (M + 1)) := by
  obtain ⟨d, hd⟩ := pu_walk hI
  have R0 : R 0 = 0 := ((hd 0 hI.2.2.2.1).2.2.2.2.1) hI.2.2.2.2.1
  refine ⟨?_, fun k hk => ?_, fun k hk hu a b e => ?_⟩
  · show (if R 0 = 0 then pv_int else _) = _
    rw [if_pos R0]
  · have e : R (up k) = R k := by
      by_cases z : up k = k
      · rw [z]
      · exact ((hd k hk).2.2.2.2.2 z).1
    show (if R (up k) = 0 then pv_int else _) = (if R k = 0 then pv_int else _)
    rw [e]
  · have r : R k = k := (hd k hk).2.2.2.2.1 hu
    have hab := hI.2.2.2.2.2.2.1 k hk a b e
    have c := hc k hk hu a b e
    have m := hM k hk
    have k0 : k ≠ 0 := by
      intro z
      rw [z, hI.2.2.2.2.2.1] at e
      cases e
    show (if R k = 0 then pv_int else _) = _
    rw [r, if_neg k0, e]
    show pv_ar (pu_ev R ar M a) (pu_ev R ar M b) = _
    rw [pu_ev_st hI hc M a hab.1 (by omega), pu_ev_st hI hc M b hab.2 (by omega)]
def pv_sub (g : Nat → pv_T) : pv_T → pv_T
  | .leaf 0 => pv_int
  | .leaf (n + 1) => g n
  | .branch _ a b => pv_ar (pv_sub g a) (pv_sub g b)
/-- every valuation comes from it -/
theorem pu_prin {T : Nat} {up : Nat → Nat} {ar : pu_A} {R : Nat → Nat} {l : List Nat} {N : Nat} (hI : pu_I T up ar R l N) {val : Nat → pv_T} (h : pu_0 T up ar val) : ∀ (n k : Nat), k < T → pv_sub val (pu_ev R ar n k) = val k := by
  intro n
  induction n with
  | zero => intro k hk; exact pu_0_R hI h hk
  | succ n ih =>
    intro k hk
    have r := pu_root hI hk
    show pv_sub val (if R k = 0 then pv_int else _) = val k
    by_cases z : R k = 0
    · rw [if_pos z]
      have := pu_0_R hI h hk
      rw [z, h.1] at this
      exact this
    · rw [if_neg z]
      cases e : ar (R k) with
      | none => exact pu_0_R hI h hk
      | some q =>
        obtain ⟨a, b⟩ := q
        have hab := hI.2.2.2.2.2.2.1 _ r.2.1 a b e
        show pv_ar (pv_sub val (pu_ev R ar n a)) (pv_sub val (pu_ev R ar n b)) = val k
        rw [ih a hab.1, ih b hab.2, ← h.2.2 _ r.2.1 r.2.2 a b e]
        exact pu_0_R hI h hk
/-! a TYPE as it is written: open ones by their turn -/
def pv_ix : List Nat → Nat → Nat
  | [], _ => 0
  | y :: r, x => if y = x then 0 else pv_ix r x + 1
def pv_pr : pv_T → List Nat → List Nat × List Nat
  | .leaf 0, s => ([105], s)
  | .leaf (n + 1), s => ([97 + min (pv_ix s n) 25], if n ∈ s then s else s ++ [n])
  | .branch _ a b, s => (40 :: (pv_pr a s).1 ++ 62 :: (pv_pr b (pv_pr a s).2).1 ++ [41], (pv_pr b (pv_pr a s).2).2)
theorem pv_ix_map (f : Nat → Nat) : ∀ (s : List Nat) (n : Nat), (∀ x ∈ s, f x = f n → x = n) → pv_ix (s.map f) (f n) = pv_ix s n := by
  intro s
  induction s with
  | nil => intro n _; rfl
  | cons y r ih =>
    intro n h
    show (if f y = f n then 0 else pv_ix (r.map f) (f n) + 1) = if y = n then 0 else pv_ix r n + 1
    by_cases e : y = n
    · rw [if_pos e, if_pos (by rw [e])]
    · rw [if_neg e, if_neg (fun q => e (h y (List.mem_cons_self ..) q)), ih n (fun x hx => h x (List.mem_cons_of_mem _ hx))]
/-- two TYPES that come one from the other are written alike -/
theorem pv_pr_rn {g g' : Nat → pv_T} {f : Nat → Nat} (hf : ∀ n, (∃ m, g n = pv_v m ∧ g' m = pv_v n) → g n = pv_v (f n)) : ∀ (a : pv_T) (s : List Nat), pv_sub g' (pv_sub g a) = a → (∀ n ∈ s, g n = pv_v (f n) ∧ g' (f n) = pv_v n) → (pv_pr (pv_sub g a) (s.map f)).1 = (pv_pr a s).1 ∧ (pv_pr (pv_sub g a) (s.map f)).2 = (pv_pr a s).2.map f ∧ ∀ n ∈ (pv_pr a s).2, g n = pv_v (f n) ∧ g' (f n) = pv_v n := by
  intro a
  induction a with
  | leaf n =>
    intro s h hs
    cases n with
    | zero => exact ⟨rfl, rfl, hs⟩
    | succ n =>
      have hg : ∃ m, g n = pv_v m ∧ g' m = pv_v n := by
        change pv_sub g' (g n) = pv_v n at h
        cases e : g n with
        | leaf m =>
          cases m with
          | zero => rw [e] at h; cases h
          | succ m => rw [e] at h; exact ⟨m, rfl, h⟩
        | branch k x y => rw [e] at h; cases h
      have e1 := hf n hg
      obtain ⟨m, m1, m2⟩ := hg
      have em : m = f n := by
        rw [e1] at m1
        injection m1 with z
        omega
      rw [em] at m2
      have inj : ∀ x ∈ s, f x = f n → x = n := by
        intro x hx q
        have := (hs x hx).2
        rw [q, m2] at this
        injection this with z
        omega
      have mm : f n ∈ s.map f ↔ n ∈ s := by
        rw [List.mem_map]
        exact ⟨fun ⟨x, hx, q⟩ => inj x hx q ▸ hx, fun q => ⟨n, q, rfl⟩⟩
      have e2 : pv_sub g (.leaf (n + 1)) = pv_v (f n) := e1
      rw [e2]
      refine ⟨?_, ?_, ?_⟩
      · show [97 + min (pv_ix (s.map f) (f n)) 25] = [97 + min (pv_ix s n) 25]
        rw [pv_ix_map f s n inj]
      · show (if f n ∈ s.map f then s.map f else s.map f ++ [f n]) = (if n ∈ s then s else s ++ [n]).map f
        by_cases q : n ∈ s
        · rw [if_pos q, if_pos (mm.mpr q)]
        · rw [if_neg q, if_neg (fun z => q (mm.mp z)), List.map_append]; rfl
      · intro x hx
        change x ∈ (if n ∈ s then s else s ++ [n]) at hx
        by_cases q : n ∈ s
        · rw [if_pos q] at hx; exact hs x hx
        · rw [if_neg q] at hx
          rcases List.mem_append.mp hx with z | z
          · exact hs x z
          · rw [List.mem_singleton] at z
            rw [z]
            exact ⟨e1, m2⟩
  | branch k a b iha ihb =>
    intro s h hs
    change pv_ar (pv_sub g' (pv_sub g a)) (pv_sub g' (pv_sub g b)) = .branch k a b at h
    injection h with hk ha hb
    obtain ⟨a1, a2, a3⟩ := iha s ha hs
    obtain ⟨b1, b2, b3⟩ := ihb _ hb a3
    rw [← a2] at b1 b2
    refine ⟨?_, ?_, b3⟩
    · show 40 :: (pv_pr (pv_sub g a) (s.map f)).1 ++ 62 :: (pv_pr (pv_sub g b) (pv_pr (pv_sub g a) (s.map f)).2).1 ++ [41] = 40 :: (pv_pr a s).1 ++ 62 :: (pv_pr b (pv_pr a s).2).1 ++ [41]
      rw [a1, b1]
    · exact b2
theorem pv_pr_eq {a b : pv_T} {g g' : Nat → pv_T} (h1 : pv_sub g a = b) (h2 : pv_sub g' b = a) : (pv_pr b []).1 = (pv_pr a []).1 := by
  classical
  obtain ⟨f, hf⟩ : ∃ f : Nat → Nat, ∀ n, (∃ m, g n = pv_v m ∧ g' m = pv_v n) → g n = pv_v (f n) := by
    refine ⟨fun n => if h : ∃ m, g n = pv_v m ∧ g' m = pv_v n then h.choose else 0, fun n h => ?_⟩
    dsimp only
    rw [dif_pos h]
    exact h.choose_spec.1
  have := pv_pr_rn hf a [] (by rw [h1, h2]) (fun n hn => by cases hn)
  rw [h1] at this
  exact this.1
