/-! PHASE B. The programs as pure functions: what is said of them is said by pb_ok (it answers, and the answer is so) -/
def pb_ok {A : Type} (x : Option A) (Q : A → Prop) : Prop := ∃ a, x = some a ∧ Q a
theorem pb_some {A : Type} {a : A} {Q : A → Prop} (h : Q a) : pb_ok (some a) Q := ⟨a, rfl, h⟩
theorem pb_bind {A B : Type} {x : Option A} {f : A → Option B} {Q : B → Prop} (h : pb_ok x (fun a => pb_ok (f a) Q)) : pb_ok (x.bind f) Q := by
  obtain ⟨a, rfl, b, hb, hq⟩ := h
  exact ⟨b, hb, hq⟩
theorem pb_bd {A B C : Type} {x : Option (A × B)} {f : A → B → Option C} {Q : C → Prop} (h : pb_ok x (fun q => pb_ok (f q.1 q.2) Q)) : pb_ok (fa_bd x f) Q := pb_bind h
theorem pb_if {A : Type} {c : Prop} [Decidable c] {x y : Option A} {Q : A → Prop} (h1 : c → pb_ok x Q) (h2 : ¬ c → pb_ok y Q) : pb_ok (if c then x else y) Q := by
  by_cases h : c
  · rw [if_pos h]; exact h1 h
  · rw [if_neg h]; exact h2 h
theorem pb_mono {A : Type} {x : Option A} {P Q : A → Prop} (h : pb_ok x P) (hq : ∀ a, P a → Q a) : pb_ok x Q := by
  obtain ⟨a, e, ha⟩ := h
  exact ⟨a, e, hq a ha⟩
theorem pb_bindm {A B : Type} {x : Option A} {f : A → Option B} {P : A → Prop} {Q : B → Prop} (h : pb_ok x P) (hf : ∀ a, P a → pb_ok (f a) Q) : pb_ok (x.bind f) Q := pb_bind (pb_mono h hf)
theorem pb_bdm {A B C : Type} {x : Option (A × B)} {f : A → B → Option C} {P : A × B → Prop} {Q : C → Prop} (h : pb_ok x P) (hf : ∀ a b, P (a, b) → pb_ok (f a b) Q) : pb_ok (fa_bd x f) Q := pb_bd (pb_mono h (fun q hq => hf q.1 q.2 hq))
theorem pb_eq {A : Type} {x y : Option A} {Q : A → Prop} (e : x = y) (h : pb_ok y Q) : pb_ok x Q := e ▸ h
/-! numbers -/
theorem pb_wr {n : Nat} (h : n < 2147483648) : fa_wr (n : Int) = n := fa_wr_id (by omega) (by omega)
theorem pb_wr1 : fa_wr (-1) = -1 := fa_wr_id (by omega) (by omega)
theorem pb_ix {k n : Nat} (h : k < n) (hn : n ≤ 55000) : fa_ix (k : Int) n = some k := by
  have e := pb_wr (n := k) (by omega)
  rw [fa_ix_some (by rw [e]; omega), e]
  rfl
theorem pb_ixz {x : Int} {n : Nat} (h0 : 0 ≤ x) (h : x < n) (hn : n ≤ 55000) : fa_ix x n = some x.toNat := by
  have e := fa_wr_id (x := x) (by omega) (by omega)
  rw [fa_ix_some (by rw [e]; omega), e]
/-! rows and cells -/
theorem pb_at {r n k : Nat} {w : fa_W} (hn : w r 1 = (n : Int)) (hk : k < n) (hc : n ≤ fa_cp r) : fr_at r (k : Int) w = w (fa_rf r 0) k := by
  have h := fa_cp_hi r
  have e1 := pb_wr (n := k) (by omega)
  have e2 := pb_wr (n := n) (by omega)
  unfold fr_at
  rw [hn, e1, e2, if_pos (by omega)]
  rfl
theorem pb_bits {r n k : Nat} {w : fa_W} (hn : w r 1 = (n : Int)) (hk : k < n) (hc : n ≤ fa_cp r) : fr_bits r (k : Int) w = w (fa_rf r 0) k := by
  have h := fa_cp_hi r
  have e1 := pb_wr (n := k) (by omega)
  have e2 := pb_wr (n := n) (by omega)
  unfold fr_bits
  rw [hn, e1, e2, if_pos (by omega)]
  rfl
theorem pb_at_out {r n k : Nat} {w : fa_W} (hn : w r 1 = (n : Int)) (hk : n ≤ k) (hk2 : k < 2147483648) : fr_at r (k : Int) w = -1 := by
  have e1 := pb_wr (n := k) (by omega)
  have e2 := pb_wr (n := n) (by omega)
  unfold fr_at
  rw [hn, e1, e2, if_neg (by omega)]
theorem pb_bits_out {r n k : Nat} {w : fa_W} (hn : w r 1 = (n : Int)) (hk : n ≤ k) (hk2 : k < 2147483648) : fr_bits r (k : Int) w = 0 := by
  have e1 := pb_wr (n := k) (by omega)
  have e2 := pb_wr (n := n) (by omega)
  unfold fr_bits
  rw [hn, e1, e2, if_neg (by omega)]
theorem pb_at_neg (r : Nat) (w : fa_W) : fr_at r (-1) w = -1 := by
  unfold fr_at
  rw [pb_wr1, if_neg (by omega)]
theorem pb_bits_neg (r : Nat) (w : fa_W) : fr_bits r (-1) w = 0 := by
  unfold fr_bits
  rw [pb_wr1, if_neg (by omega)]
theorem pb_set {r n k : Nat} {v : Int} {w : fa_W} (hn : w r 1 = (n : Int)) (hk : k < n) (hc : n ≤ fa_cp r) : fr_set r (k : Int) v w = fa_st w (fa_rf r 0) k v := by
  have h := fa_cp_hi r
  have e1 := pb_wr (n := k) (by omega)
  have e2 := pb_wr (n := n) (by omega)
  unfold fr_set
  rw [hn, e1, e2, if_pos (by omega)]
  rfl
theorem pb_set_out {r n k : Nat} {v : Int} {w : fa_W} (hn : w r 1 = (n : Int)) (hk : n ≤ k) (hk2 : k < 2147483648) : fr_set r (k : Int) v w = w := by
  have e1 := pb_wr (n := k) (by omega)
  have e2 := pb_wr (n := n) (by omega)
  unfold fr_set
  rw [hn, e1, e2, if_neg (by omega)]
theorem pb_set_neg (r : Nat) (v : Int) (w : fa_W) : fr_set r (-1) v w = w := by
  unfold fr_set
  rw [pb_wr1, if_neg (by omega)]
/-- what stands behind an add: the new size, the new cell, the rest as it was -/
def pb_ad (w : fa_W) (r n : Nat) (v : Int) : fa_W := fa_st (fa_st w (fa_rf r 0) n v) r 1 ((n + 1 : Nat) : Int)
theorem pb_add {r n : Nat} {v : Int} {w : fa_W} (hn : w r 1 = (n : Int)) (hc : n < fa_cp r) (hr : fa_rf r 0 ≠ r) : fr_add r v w = pb_ad w r n v := by
  have h := fa_cp_hi r
  have e2 := pb_wr (n := n) (by omega)
  unfold fr_add pb_ad
  rw [hn, e2, if_pos (by omega), Int.toNat_natCast, fa_st_ne (fun q => hr q.1.symm), hn]
  rfl
theorem pb_cut {r n m : Nat} {w : fa_W} (hn : w r 1 = (n : Int)) (hm : m < n) (hc : n ≤ fa_cp r) : fm_Row_cut r (m : Int) w = fa_st w r 1 (m : Int) := by
  have h := fa_cp_hi r
  have e1 := pb_wr (n := m) (by omega)
  have e2 := pb_wr (n := n) (by omega)
  unfold fm_Row_cut
  rw [hn, e1, e2, if_neg (by omega), if_neg (by omega)]
  rfl
theorem pb_drop {r n : Nat} {w : fa_W} (hn : w r 1 = ((n + 1 : Nat) : Int)) (hc : n + 1 ≤ fa_cp r) : fr_drop r w = (w (fa_rf r 0) n, fa_st w r 1 (n : Int)) := by
  have e : w r 1 - 1 = (n : Int) := by rw [hn]; omega
  unfold fr_drop
  rw [e, pb_at hn (by omega) hc, pb_cut hn (by omega) hc]
theorem pb_last {r n : Nat} {w : fa_W} (hn : w r 1 = ((n + 1 : Nat) : Int)) (hc : n + 1 ≤ fa_cp r) : fr_last r w = w (fa_rf r 0) n := by
  have e : w r 1 - 1 = (n : Int) := by rw [hn]; omega
  unfold fr_last
  rw [e, pb_at hn (by omega) hc]
/-- a row is filled anew -/
theorem pb_fill {r : Nat} {v : Int} (hr : fa_rf r 0 ≠ r) : ∀ (m n : Nat) (w : fa_W), w r 1 = (n : Int) → n + m ≤ fa_cp r → (fr_fill r v m w) r 1 = ((n + m : Nat) : Int) ∧ (∀ k, n ≤ k → k < n + m → (fr_fill r v m w) (fa_rf r 0) k = v) ∧ (∀ k, (k < n ∨ n + m ≤ k) → (fr_fill r v m w) (fa_rf r 0) k = w (fa_rf r 0) k) ∧ (∀ k, k ≠ 1 → (fr_fill r v m w) r k = w r k) ∧ ∀ o, o ≠ r → o ≠ fa_rf r 0 → (fr_fill r v m w) o = w o := by
  intro m
  induction m with
  | zero =>
    intro n w hn _
    exact ⟨hn, fun k h1 h2 => by omega, fun k _ => rfl, fun k _ => rfl, fun o _ _ => rfl⟩
  | succ m ih =>
    intro n w hn hc
    have e := pb_add (v := v) hn (by omega) hr
    have hs : (fr_add r v w) r 1 = ((n + 1 : Nat) : Int) := by rw [e]; unfold pb_ad; rw [fa_st_eq]
    have q := ih (n + 1) (fr_add r v w) hs (by omega)
    show (fr_fill r v m (fr_add r v w)) r 1 = _ ∧ _
    have eq : fr_fill r v (m + 1) w = fr_fill r v m (fr_add r v w) := rfl
    rw [eq]
    refine ⟨?_, ?_, ?_, ?_, ?_⟩
    · rw [q.1]; congr 1; omega
    · intro k h1 h2
      by_cases hk : k = n
      · subst hk
        rw [q.2.2.1 k (by omega), e]
        unfold pb_ad
        rw [fa_st_ne (fun z => hr z.1), fa_st_eq]
      · exact q.2.1 k (by omega) (by omega)
    · intro k hk
      rw [q.2.2.1 k (by omega), e]
      unfold pb_ad
      rw [fa_st_ne (fun z => hr z.1), fa_st_ne (by omega)]
    · intro k hk
      rw [q.2.2.2.1 k hk, e]
      unfold pb_ad
      rw [fa_st_ne (fun z => hk z.2), fa_st_ne (fun z => hr z.1.symm)]
    · intro o h1 h2
      rw [q.2.2.2.2 o h1 h2, e]
      unfold pb_ad
      rw [fa_st_row h1, fa_st_row h2]
theorem pb_refill {r m : Nat} {v : Int} (hr : fa_rf r 0 ≠ r) (hm : m ≤ fa_cp r) (w : fa_W) : (fr_refill r (m : Int) v w) r 1 = (m : Int) ∧ (∀ k, k < m → (fr_refill r (m : Int) v w) (fa_rf r 0) k = v) ∧ ∀ o, o ≠ r → o ≠ fa_rf r 0 → (fr_refill r (m : Int) v w) o = w o := by
  have h := fa_cp_hi r
  unfold fr_refill fm_Row_clear
  rw [pb_wr (n := m) (by omega), Int.toNat_natCast]
  have q := pb_fill (v := v) hr m 0 (fa_st w r 1 0) (by rw [fa_st_eq]; rfl) (by omega)
  show (fr_fill r v m (fa_st w r 1 0)) r 1 = _ ∧ (∀ k, k < m → (fr_fill r v m (fa_st w r 1 0)) (fa_rf r 0) k = v) ∧ ∀ o, o ≠ r → o ≠ fa_rf r 0 → (fr_fill r v m (fa_st w r 1 0)) o = w o
  refine ⟨by rw [q.1]; congr 1; omega, fun k hk => q.2.1 k (by omega) (by omega), fun o h1 h2 => ?_⟩
  rw [q.2.2.2.2 o h1 h2, fa_st_row h1]
/-- the loops' fuel is more than any number here -/
theorem pb_fu {n : Nat} (h : n ≤ 4000000000) : ∃ z, fa_FU = z + n := ⟨fa_FU - n, by unfold fa_FU; omega⟩
