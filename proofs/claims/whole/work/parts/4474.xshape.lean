/-! the class's shapes -/
def px_shr (x : Option Nat) : Int := match x with | some c => (c : Int) | none => -1
def px_SH (o T : Nat) (sh : Nat → Option Nat) (w : fa_W) : Prop := w (o + 7) 1 = (T : Int) ∧ ∀ k, k < T → w (o + 8) k = px_shr (sh k)
theorem px_sh_at {o T : Nat} (ho : px_to o) {sh : Nat → Option Nat} {w : fa_W} (h : px_SH o T sh w) (hT : T ≤ 400) {k : Nat} (hk : k < T) : fr_at (o + 7) (k : Int) w = px_shr (sh k) := by
  rw [pb_at h.1 hk (by rw [ho.2.2.2.2.2.1]; exact hT), ho.2.1.2.2.2.1]
  exact h.2 k hk
theorem px_shr_wr {T : Nat} {sh : Nat → Option Nat} (hT : T ≤ 400) (h : ∀ k c, sh k = some c → c < T) (k : Nat) : fa_wr (px_shr (sh k)) = px_shr (sh k) := by
  cases e : sh k with
  | none => exact pb_wr1
  | some c => have := h k c e; exact pb_wr (by omega)
theorem px_shr_eq {x : Option Nat} {c : Nat} : px_shr x = (c : Int) ↔ x = some c := by
  cases x with
  | none => exact ⟨fun h => by change (-1 : Int) = (c : Int) at h; omega, fun h => (nomatch h)⟩
  | some d => exact ⟨fun h => by change (d : Int) = (c : Int) at h; congr 1; omega, fun h => by cases h; rfl⟩
theorem px_shr_m {x : Option Nat} : px_shr x = -1 ↔ x = none := by
  cases x with
  | none => exact ⟨fun _ => rfl, fun _ => rfl⟩
  | some d => exact ⟨fun h => by change (d : Int) = -1 at h; omega, fun h => (nomatch h)⟩
/-- one is looked for that has these parts -/
theorem px_shapeOf_l {o T : Nat} (ho : px_to o) {up : Nat → Nat} {ar : pu_A} {cl : Bool} {R : Nat → Nat} {l : List Nat} {N : Nat} {w : fa_W} (hI : pu_I T up ar R l N) (hU : px_U o T up ar cl w) {sh : Nat → Option Nat} (hS : px_SH o T sh w) (hc : ∀ k c, sh k = some c → c < T) (k x y : Nat) (hx : x < T) (hy : y < T) : ∀ (d j F : Nat), j + d = T → d < F → (∀ i a b, i < j → sh i = some i → ar i = some (a, b) → ¬ (sh (R a) = some x ∧ sh (R b) = some y)) → ∃ r, fm_Typing_shapeOf_l65 o (k : Int) w F (x : Int) (y : Int) (j : Int) = some ((r : Nat) : Int) ∧ ((r = k ∧ ∀ i a b, i < T → sh i = some i → ar i = some (a, b) → ¬ (sh (R a) = some x ∧ sh (R b) = some y)) ∨ (sh r = some r ∧ ∃ a b, ar r = some (a, b) ∧ sh (R a) = some x ∧ sh (R b) = some y)) := by
  have hT : T ≤ 400 := hU.2.2.2.2.2.2.2
  have hab := hI.2.2.2.2.2.2.1
  intro d
  induction d with
  | zero =>
    intro j F hj hF hno
    obtain ⟨F, rfl⟩ : ∃ z, F = z + 1 := ⟨F - 1, by omega⟩
    unfold fm_Typing_shapeOf_l65 fm_Row_size
    rw [ho.1.2.2.2.1, hS.1, pb_wr (by omega), pb_wr (by omega), if_pos (by omega)]
    exact ⟨k, rfl, Or.inl ⟨rfl, fun i a b hi => hno i a b (by omega)⟩⟩
  | succ d ih =>
    intro j F hj hF hno
    obtain ⟨F, rfl⟩ : ∃ z, F = z + 1 := ⟨F - 1, by omega⟩
    have hjT : j < T := by omega
    have step : (∀ a b, sh j = some j → ar j = some (a, b) → ¬ (sh (R a) = some x ∧ sh (R b) = some y)) → ∃ r, fm_Typing_shapeOf_l65 o (k : Int) w F (x : Int) (y : Int) ((j : Int) + 1) = some ((r : Nat) : Int) ∧ ((r = k ∧ ∀ i a b, i < T → sh i = some i → ar i = some (a, b) → ¬ (sh (R a) = some x ∧ sh (R b) = some y)) ∨ (sh r = some r ∧ ∃ a b, ar r = some (a, b) ∧ sh (R a) = some x ∧ sh (R b) = some y)) := by
      intro hj2
      exact ih (j + 1) F (by omega) (by omega) (fun i a b hi => by
        by_cases z : i = j
        · rw [z]; exact hj2 a b
        · exact hno i a b (by omega))
    unfold fm_Typing_shapeOf_l65 fm_Row_size
    rw [ho.1.2.2.2.1, hS.1, pb_wr (by omega), pb_wr (n := j) (by omega), if_neg (by omega), px_sh_at ho hS hT hjT, px_shr_wr hT hc]
    dsimp only [fa_let]
    by_cases e1 : sh j = some j
    · rw [if_pos (px_shr_eq.mpr e1)]
      have io := px_isOpen ho hU hab hjT
      cases ea : ar j with
      | none =>
        rw [if_neg (by rw [io.2.2.1 ea]; decide)]
        exact step (fun a b _ q => by rw [ea] at q; cases q)
      | some q =>
        obtain ⟨a, b⟩ := q
        have bb := hab j hjT a b ea
        have ta := hU.2.2.2.2.2.1 j hjT a b ea
        rw [if_pos (io.2.2.2 (by rw [ea]; simp)), ho.1.2.1, pb_at hU.2.1 hjT (by rw [ho.2.2.2.1]; exact hT), ho.2.1.2.1, ta.1, px_root ho hI hU bb.1]
        dsimp only [Option.bind_some]
        rw [px_sh_at ho hS hT (pu_root hI bb.1).2.1, px_shr_wr hT hc, pb_wr (n := x) (by omega)]
        by_cases e2 : sh (R a) = some x
        · rw [if_pos (px_shr_eq.mpr e2), ho.1.2.2.1, pb_at hU.2.2.1 hjT (by rw [ho.2.2.2.2.1]; exact hT), ho.2.1.2.2.1, ta.2, px_root ho hI hU bb.2]
          dsimp only [Option.bind_some]
          rw [px_sh_at ho hS hT (pu_root hI bb.2).2.1, px_shr_wr hT hc, pb_wr (n := y) (by omega)]
          by_cases e3 : sh (R b) = some y
          · rw [if_pos (px_shr_eq.mpr e3)]
            exact ⟨j, rfl, Or.inr ⟨e1, a, b, ea, e2, e3⟩⟩
          · rw [if_neg (fun q => e3 (px_shr_eq.mp q))]
            exact step (fun a' b' _ q z => by rw [ea] at q; cases q; exact e3 z.2)
        · rw [if_neg (fun q => e2 (px_shr_eq.mp q))]
          exact step (fun a' b' _ q z => by rw [ea] at q; cases q; exact e2 z.1)
    · rw [if_neg (fun q => e1 (px_shr_eq.mp q))]
      exact step (fun a b q => absurd q e1)
theorem px_shapeOf {o T : Nat} (ho : px_to o) {up : Nat → Nat} {ar : pu_A} {cl : Bool} {R : Nat → Nat} {l : List Nat} {N : Nat} {w : fa_W} (hI : pu_I T up ar R l N) (hU : px_U o T up ar cl w) {sh : Nat → Option Nat} (hS : px_SH o T sh w) (hh : px_hI T up ar R sh) {k : Nat} (hk : k < T) (hu : up k = k) (hn : sh k = none) : ∃ v : Option Nat, fm_Typing_shapeOf o (k : Int) w = some (px_shr v) ∧ ((v = none ∧ ∃ a b, ar k = some (a, b) ∧ (sh (R a) = none ∨ sh (R b) = none)) ∨ ∃ c, v = some c ∧ px_hI T up ar R (pu_set sh k (some c))) := by
  have hT : T ≤ 400 := hU.2.2.2.2.2.2.2
  have hab := hI.2.2.2.2.2.2.1
  have hc : ∀ k c, sh k = some c → c < T := fun k c e => (hh.1 k c e).2.2.1
  have io := px_isOpen ho hU hab hk
  unfold fm_Typing_shapeOf
  cases ea : ar k with
  | none =>
    rw [if_neg (by rw [io.2.2.1 ea]; decide)]
    exact ⟨some k, rfl, Or.inr ⟨k, rfl, px_hI_set hI hh hk hu hn (Or.inl ⟨ea, rfl⟩)⟩⟩
  | some q =>
    obtain ⟨a, b⟩ := q
    have bb := hab k hk a b ea
    have ta := hU.2.2.2.2.2.1 k hk a b ea
    rw [if_pos (io.2.2.2 (by rw [ea]; simp)), ho.1.2.1, pb_at hU.2.1 hk (by rw [ho.2.2.2.1]; exact hT), ho.2.1.2.1, ta.1, px_root ho hI hU bb.1]
    dsimp only [Option.bind_some, fa_let]
    rw [ho.1.2.2.2.1, px_sh_at ho hS hT (pu_root hI bb.1).2.1, ho.1.2.2.1, pb_at hU.2.2.1 hk (by rw [ho.2.2.2.2.1]; exact hT), ho.2.1.2.2.1, ta.2, px_root ho hI hU bb.2]
    dsimp only [Option.bind_some, fa_let]
    rw [px_sh_at ho hS hT (pu_root hI bb.2).2.1, px_shr_wr hT hc, px_shr_wr hT hc]
    cases e1 : sh (R a) with
    | none =>
      rw [if_pos (px_shr_m.mpr rfl)]
      exact ⟨none, rfl, Or.inl ⟨rfl, a, b, rfl, Or.inl e1⟩⟩
    | some x =>
      rw [if_neg (fun q => by have := px_shr_m.mp q; cases this)]
      cases e2 : sh (R b) with
      | none =>
        rw [if_pos (px_shr_m.mpr rfl)]
        exact ⟨none, rfl, Or.inl ⟨rfl, a, b, rfl, Or.inr e2⟩⟩
      | some y =>
        rw [if_neg (fun q => by have := px_shr_m.mp q; cases this)]
        obtain ⟨FU, hFU⟩ : ∃ F, F = fa_FU := ⟨_, rfl⟩
        have hF2 : 1000 < FU := by rw [hFU]; unfold fa_FU; omega
        rw [← hFU]
        obtain ⟨r, r1, r2⟩ := px_shapeOf_l ho hI hU hS hc k x y (hc _ _ e1) (hc _ _ e2) T 0 FU (by omega) (by omega) (fun i a b hi => by omega)
        refine ⟨some r, r1, Or.inr ⟨r, rfl, px_hI_set hI hh hk hu hn (Or.inr ⟨a, b, x, y, ea, e1, e2, ?_⟩)⟩⟩
        rcases r2 with ⟨z1, z2⟩ | z
        · exact Or.inl ⟨z1, fun j a' b' q1 q2 => z2 j a' b' (hc _ _ q1) q1 q2⟩
        · exact Or.inr z
