/-! PHASE B. What the reader as it is told makes: places, counters, numbers in their order, scope -/
theorem ps_run_ge (q : Int → Bool) (c : Nat → Int) : ∀ f p, p ≤ ps_run q c f p ∧ ps_run q c f p ≤ p + f := by
  intro f
  induction f with
  | zero => intro p; exact ⟨Nat.le_refl _, Nat.le_refl _⟩
  | succ f ih =>
    intro p
    unfold ps_run
    split
    · have := ih (p + 1); omega
    · omega
theorem ps_run_in (q : Int → Bool) (c : Nat → Int) : ∀ f p k, p ≤ k → k < ps_run q c f p → q (c k) = true := by
  intro f
  induction f with
  | zero => intro p k h1 h2; have : k < p := h2; omega
  | succ f ih =>
    intro p k h1 h2
    unfold ps_run at h2
    split at h2
    · rename_i h
      by_cases hk : k = p
      · subst hk; exact h
      · exact ih (p + 1) k (by omega) h2
    · omega
theorem ps_run_out (q : Int → Bool) (c : Nat → Int) : ∀ f p, ps_run q c f p < p + f → q (c (ps_run q c f p)) = false := by
  intro f
  induction f with
  | zero => intro p h; have : p < p := h; omega
  | succ f ih =>
    intro p h
    unfold ps_run at h ⊢
    split
    · rename_i hq
      rw [if_pos hq] at h
      exact ih (p + 1) (by omega)
    · rename_i hq
      exact Bool.eq_false_iff.mpr hq
/-- the text: -1 behind its end, else bytes -/
def ps_TX (c : Nat → Int) (n : Nat) : Prop := (∀ k, n ≤ k → c k = -1) ∧ ∀ k, k < n → 0 ≤ c k ∧ c k < 256
theorem ps_end {c : Nat → Int} {n : Nat} (hx : ps_TX c n) (q : Int → Bool) (hq : q (-1) = false) (p : Nat) (hp : p ≤ n) : p ≤ ps_run q c (n - p) p ∧ ps_run q c (n - p) p ≤ n ∧ q (c (ps_run q c (n - p) p)) = false ∧ ∀ k, p ≤ k → k < ps_run q c (n - p) p → q (c k) = true := by
  have h1 := ps_run_ge q c (n - p) p
  refine ⟨h1.1, by omega, ?_, ps_run_in q c (n - p) p⟩
  by_cases h : ps_run q c (n - p) p < p + (n - p)
  · exact ps_run_out q c (n - p) p h
  · rw [hx.1 _ (by omega)]; exact hq
theorem ps_sk_p {c : Nat → Int} {n : Nat} (hx : ps_TX c n) (p : Nat) (hp : p ≤ n) : p ≤ ps_sk c n p ∧ ps_sk c n p ≤ n ∧ ps_bl (c (ps_sk c n p)) = false ∧ ∀ k, p ≤ k → k < ps_sk c n p → ps_bl (c k) = true := ps_end hx ps_bl (by decide) p hp
theorem ps_we_p {c : Nat → Int} {n : Nat} (hx : ps_TX c n) (p : Nat) (hp : p ≤ n) : p ≤ ps_we c n p ∧ ps_we c n p ≤ n ∧ ps_le (c (ps_we c n p)) = false ∧ ∀ k, p ≤ k → k < ps_we c n p → ps_le (c k) = true := ps_end hx ps_le (by decide) p hp
theorem ps_de_p {c : Nat → Int} {n : Nat} (hx : ps_TX c n) (p : Nat) (hp : p ≤ n) : p ≤ ps_de c n p ∧ ps_de c n p ≤ n ∧ ps_di (c (ps_de c n p)) = false ∧ ∀ k, p ≤ k → k < ps_de c n p → ps_di (c k) = true := ps_end hx ps_di (by decide) p hp
theorem ps_tk_end {c : Nat → Int} {n s : Nat} (hx : ps_TX c n) (h : n ≤ s) : ps_tk c n s = 0 := by
  unfold ps_tk
  rw [hx.1 s h]
  rfl
theorem ps_lt {c : Nat → Int} {n s : Nat} (hx : ps_TX c n) (h : ps_tk c n s ≠ 0) : s < n := by
  by_cases q : n ≤ s
  · exact absurd (ps_tk_end hx q) h
  · omega
theorem ps_te_p {c : Nat → Int} {n s : Nat} (hx : ps_TX c n) (hs : s < n) : s < ps_te c n s ∧ ps_te c n s ≤ n := by
  unfold ps_te
  split
  · rename_i h
    have q := ps_we_p hx s (by omega)
    refine ⟨?_, q.2.1⟩
    by_cases e : ps_we c n s = s
    · rw [e, h] at q; exact absurd q.2.2.1 (by decide)
    · omega
  · split
    · rename_i h
      have q := ps_de_p hx s (by omega)
      refine ⟨?_, q.2.1⟩
      by_cases e : ps_de c n s = s
      · rw [e, h] at q; exact absurd q.2.2.1 (by decide)
      · omega
    · omega
theorem ps_sg_lt (x : Int) : ps_sg x < 93 := by
  unfold ps_sg
  split
  · omega
  · split <;> omega
/-- a token of more than 92 is a word of its own -/
theorem ps_tk_word {c : Nat → Int} {n s : Nat} (h : 93 ≤ ps_tk c n s) : ps_le (c s) = true ∧ ps_we c n s - s ≤ 4 ∧ ps_kw (ps_wv c s (ps_we c n s - s)) = true ∧ ps_tk c n s = ps_wv c s (ps_we c n s - s) ∧ ps_te c n s = ps_we c n s := by
  unfold ps_tk at h ⊢
  split at h
  · rename_i hl
    rw [if_pos hl]
    split at h
    · omega
    · rename_i h4
      rw [if_neg h4]
      split at h
      · rename_i hk
        rw [if_pos hk]
        exact ⟨hl, by omega, hk, rfl, by unfold ps_te; rw [if_pos hl]⟩
      · omega
  · split at h
    · split at h <;> omega
    · have := ps_sg_lt (c s); omega
theorem ps_le_in {x : Int} (h : ps_le x = true) : 97 ≤ x ∧ x ≤ 122 := by unfold ps_le at h; exact of_decide_eq_true h
theorem ps_kw_tk2 {c : Nat → Int} {n s : Nat} (h : ps_tk c n s = 2) : ps_le (c s) = true ∧ ps_we c n s - s ≤ 4 ∧ ps_kw (ps_wv c s (ps_we c n s - s)) = false ∧ ps_tv c n s = ps_wv c s (ps_we c n s - s) ∧ ps_te c n s = ps_we c n s := by
  unfold ps_tk at h
  split at h
  · rename_i hl
    split at h
    · omega
    · rename_i h4
      split at h
      · rename_i hk
        rw [h] at hk
        exact absurd hk (by decide)
      · rename_i hk
        exact ⟨hl, by omega, Bool.eq_false_iff.mpr hk, by unfold ps_tv; rw [if_pos hl], by unfold ps_te; rw [if_pos hl]⟩
  · split at h
    · split at h <;> omega
    · exfalso
      revert h
      unfold ps_sg
      split
      · intro h; omega
      · split <;> intro h <;> omega
/-- words of at most four letters: which they are says how long they are -/
theorem ps_wv_len {c : Nat → Int} {s k : Nat} (hk : k ≤ 4) (hl : ∀ j, s ≤ j → j < s + k → 97 ≤ c j ∧ c j ≤ 122) : (k = 0 ∧ ps_wv c s k = 0) ∨ (k = 1 ∧ 97 ≤ ps_wv c s k ∧ ps_wv c s k ≤ 122) ∨ (k = 2 ∧ 24000 ≤ ps_wv c s k ∧ ps_wv c s k < 32000) ∨ (k = 3 ∧ 6000000 ≤ ps_wv c s k ∧ ps_wv c s k < 9000000) ∨ (k = 4 ∧ 1600000000 ≤ ps_wv c s k ∧ ps_wv c s k < 2147483648) := by
  have c0 := hl s
  have c1 := hl (s + 1)
  have c2 := hl (s + 2)
  have c3 := hl (s + 3)
  match k, hk with
  | 0, _ => left; exact ⟨rfl, rfl⟩
  | 1, _ =>
    right; left
    have e : ps_wv c s 1 = 256 * 0 + (c (s + 0)).toNat := rfl
    rw [Nat.add_zero] at e
    omega
  | 2, _ =>
    right; right; left
    have e : ps_wv c s 2 = 256 * (256 * 0 + (c (s + 0)).toNat) + (c (s + 1)).toNat := rfl
    rw [Nat.add_zero] at e
    omega
  | 3, _ =>
    right; right; right; left
    have e : ps_wv c s 3 = 256 * (256 * (256 * 0 + (c (s + 0)).toNat) + (c (s + 1)).toNat) + (c (s + 2)).toNat := rfl
    rw [Nat.add_zero] at e
    omega
  | 4, _ =>
    right; right; right; right
    have e : ps_wv c s 4 = 256 * (256 * (256 * (256 * 0 + (c (s + 0)).toNat) + (c (s + 1)).toNat) + (c (s + 2)).toNat) + (c (s + 3)).toNat := rfl
    rw [Nat.add_zero] at e
    omega
theorem ps_word_len {c : Nat → Int} {n s : Nat} (hx : ps_TX c n) (h : 93 ≤ ps_tk c n s) : ps_te c n s ≤ n ∧ s < ps_te c n s ∧ (ps_tk c n s < 32000 → ps_te c n s = s + 2) ∧ (32000 ≤ ps_tk c n s → ps_tk c n s < 9000000 → ps_te c n s = s + 3) ∧ (9000000 ≤ ps_tk c n s → ps_te c n s = s + 4) ∧ ps_le (c (ps_te c n s)) = false := by
  have hs := ps_lt hx (s := s) (by omega)
  have q := ps_tk_word h
  have w := ps_we_p hx s (by omega)
  have t := ps_te_p hx hs
  have l := ps_wv_len (c := c) (s := s) (k := ps_we c n s - s) q.2.1 (fun j h1 h2 => ps_le_in (w.2.2.2 j h1 (by omega)))
  rw [q.2.2.2.2] at t ⊢
  rw [q.2.2.2.1] at h ⊢
  have kw := q.2.2.1
  have hne : ps_wv c s (ps_we c n s - s) < 93 ∨ 122 < ps_wv c s (ps_we c n s - s) := by
    unfold ps_kw at kw
    have := of_decide_eq_true kw
    omega
  refine ⟨t.2, t.1, ?_, ?_, ?_, w.2.2.1⟩ <;> intros <;> omega
/-! names -/
def pk_vw : Nat → Nat → Prop
  | 0, x => x = 0
  | f + 1, x => x = 0 ∨ (97 ≤ x % 256 ∧ x % 256 ≤ 122 ∧ pk_vw f (x / 256))
def pk_nm (x : Nat) : Prop := pk_vw 4 x ∧ x ≠ 0 ∧ ps_kw x = false
theorem pk_vw_wv {c : Nat → Int} {s : Nat} : ∀ k f, k ≤ f → (∀ j, s ≤ j → j < s + k → 97 ≤ c j ∧ c j ≤ 122) → pk_vw f (ps_wv c s k) := by
  intro k
  induction k with
  | zero =>
    intro f _ _
    cases f with
    | zero => rfl
    | succ f => exact Or.inl rfl
  | succ k ih =>
    intro f hf hl
    obtain ⟨g, rfl⟩ : ∃ g, f = g + 1 := ⟨f - 1, by omega⟩
    have h0 := hl (s + k) (by omega) (by omega)
    have i := ih g (by omega) (fun j h1 h2 => hl j h1 (by omega))
    right
    show 97 ≤ (256 * ps_wv c s k + (c (s + k)).toNat) % 256 ∧ (256 * ps_wv c s k + (c (s + k)).toNat) % 256 ≤ 122 ∧ pk_vw g ((256 * ps_wv c s k + (c (s + k)).toNat) / 256)
    have e : (256 * ps_wv c s k + (c (s + k)).toNat) / 256 = ps_wv c s k := by omega
    rw [e]
    exact ⟨by omega, by omega, i⟩
theorem ps_name {c : Nat → Int} {n s : Nat} (hx : ps_TX c n) (h : ps_tk c n s = 2) : pk_nm (ps_tv c n s) ∧ s < n ∧ s < ps_te c n s ∧ ps_te c n s ≤ n := by
  have hs := ps_lt hx (s := s) (by omega)
  have q := ps_kw_tk2 h
  have w := ps_we_p hx s (by omega)
  have t := ps_te_p hx hs
  have l := ps_wv_len (c := c) (s := s) (k := ps_we c n s - s) q.2.1 (fun j h1 h2 => ps_le_in (w.2.2.2 j h1 (by omega)))
  rw [q.2.2.2.2] at t ⊢
  rw [q.2.2.2.1]
  refine ⟨⟨pk_vw_wv _ 4 q.2.1 (fun j h1 h2 => ps_le_in (w.2.2.2 j h1 (by omega))), ?_, q.2.2.1⟩, hs, t⟩
  omega
/-! what a tree has: its numbers as they come (LAMBDAS, lets behind in, SITES, nodes), names in scope -/
abbrev pk_K : Type := Nat × Nat × Nat × Nat
def pk_can : pt_T → pk_K → pk_K → Prop := pt_rec
  (fun _ k k' => k' = (k.1, k.2.1, k.2.2.1, k.2.2.2 + 1))
  (fun _ _ k k' => k' = (k.1, k.2.1, k.2.2.1, k.2.2.2 + 1))
  (fun _ _ k k' => k' = (k.1, k.2.1, k.2.2.1, k.2.2.2 + 1))
  (fun d k k' => d = k.2.2.2 ∧ k' = (k.1, k.2.1, k.2.2.1, k.2.2.2 + 1))
  (fun f _ _ r k k' => f = 6 + k.1 ∧ ∃ k1, r (k.1 + 1, k.2) k1 ∧ k' = (k1.1, k1.2.1, k1.2.2.1, k1.2.2.2 + 1))
  (fun _ _ _ ra rb rc k k' => ∃ k1 k2 k3, ra k k1 ∧ rb k1 k2 ∧ rc k2 k3 ∧ k' = (k3.1, k3.2.1, k3.2.2.1, k3.2.2.2 + 1))
  (fun v _ _ _ ra rb k k' => ∃ k1 k2, ra k k1 ∧ v = 24 + k1.2.1 ∧ rb (k1.1, k1.2.1 + 1, k1.2.2) k2 ∧ k' = (k2.1, k2.2.1, k2.2.2.1, k2.2.2.2 + 1))
  (fun _ _ _ ra rb k k' => ∃ k1 k2, ra k k1 ∧ rb k1 k2 ∧ k' = (k2.1, k2.2.1, k2.2.2.1, k2.2.2.2 + 1))
  (fun s _ _ ra rb k k' => ∃ k1 k2, ra k k1 ∧ s = k1.2.2.1 ∧ rb (k1.1, k1.2.1, k1.2.2.1 + 1, k1.2.2.2) k2 ∧ k' = (k2.1, k2.2.1, k2.2.2.1, k2.2.2.2 + 1))
  (fun _ _ => False)
def pk_wfs : pt_T → List Nat → List (Nat × Nat) → Prop := pt_rec
  (fun v _ _ => v ≤ 9999)
  (fun v x _ sc => ps_lk sc x = some v ∧ pk_nm x)
  (fun g x gl sc => ps_lk sc x = none ∧ ps_gx gl x 0 = some g ∧ pk_nm x)
  (fun _ _ _ => True)
  (fun f x _ r gl sc => pk_nm x ∧ r gl ((f, x) :: sc))
  (fun _ _ _ ra rb rc gl sc => ra gl sc ∧ rb gl sc ∧ rc gl sc)
  (fun v x _ _ ra rb gl sc => pk_nm x ∧ ra gl sc ∧ rb gl ((v, x) :: sc))
  (fun s _ _ ra rb gl sc => (s = 42 ∨ s = 43 ∨ s = 45 ∨ s = 47 ∨ s = 60) ∧ ra gl sc ∧ rb gl sc)
  (fun _ _ _ ra rb gl sc => ra gl sc ∧ rb gl sc)
  (fun _ _ => False)
