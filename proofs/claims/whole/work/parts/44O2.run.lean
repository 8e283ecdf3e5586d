/-! what is written is ASCII -/
def pw_as (l : List Nat) : Prop := ∀ x ∈ l, x < 128
theorem pw_as_app {a b : List Nat} (ha : pw_as a) (hb : pw_as b) : pw_as (a ++ b) := fun x h => by
  rcases List.mem_append.mp h with q | q
  · exact ha x q
  · exact hb x q
theorem pw_as_tx (i : Fin 35) : pw_as (pw_tx i) := by
  have : ∀ i : Fin 35, (pw_tx i).all (fun x => decide (x < 128)) = true := by decide +kernel
  intro x hx
  exact of_decide_eq_true (List.all_eq_true.mp (this i) x hx)
theorem pw_as_nm : ∀ (f v : Nat), pk_vw f v → pw_as (pw_nmr f v) := by
  intro f
  induction f with
  | zero => intro v _ x hx; cases hx
  | succ f ih =>
    intro v h x hx
    unfold pw_nmr at hx
    rcases h with h | ⟨h1, h2, h3⟩
    · rw [h, if_pos rfl] at hx
      cases hx
    · by_cases z : v = 0
      · rw [if_pos z] at hx; cases hx
      · rw [if_neg z] at hx
        rcases List.mem_append.mp hx with q | q
        · exact ih _ h3 x q
        · have : x = v % 256 := by simpa using q
          omega
theorem pw_as_nu {v : Nat} (h : v ≤ 9999) : pw_as (pw_nu v) := by
  intro x hx
  unfold pw_nu at hx
  by_cases a : v < 10
  · rw [if_pos a] at hx
    have : x = 48 + v := by simpa using hx
    omega
  · rw [if_neg a] at hx
    by_cases b : v < 100
    · rw [if_pos b] at hx
      have : x = 48 + v / 10 ∨ x = 48 + v % 10 := by simpa using hx
      omega
    · rw [if_neg b] at hx
      by_cases c : v < 1000
      · rw [if_pos c] at hx
        have : x = 48 + v / 100 ∨ x = 48 + v / 10 % 10 ∨ x = 48 + v % 10 := by simpa using hx
        omega
      · rw [if_neg c] at hx
        have : x = 48 + v / 1000 ∨ x = 48 + v / 100 % 10 ∨ x = 48 + v / 10 % 10 ∨ x = 48 + v % 10 := by simpa using hx
        omega
theorem pw_as_e (C : Nat → Bool) (t : pt_T) (tt : pt_tw t) : ∀ (gl : List Nat) (sc : List (Nat × Nat)), pk_wfs t gl sc → pw_as (pw_e C t) := by
  induction t, tt using pt_indh with
  | num v => intro gl sc h; exact pw_as_nu h
  | var v x => intro gl sc h; exact pw_as_nm 4 x h.2.1
  | glo g x => intro gl sc h; exact pw_as_nm 4 x h.2.2.1
  | dead d => intro gl sc h; exact pw_as_tx 10
  | lam f x b tb ih =>
    intro gl sc h
    have i := ih gl _ h.2
    show pw_as (pw_tx 11 ++ (pw_nmr 4 x ++ (pw_tx 9 ++ ((if C f = true then pw_e C b else pw_tx 10) ++ pw_tx 12))))
    refine pw_as_app (pw_as_tx _) (pw_as_app (pw_as_nm 4 x h.1.1) (pw_as_app (pw_as_tx _) (pw_as_app ?_ (pw_as_tx _))))
    by_cases z : C f = true
    · rw [if_pos z]; exact i
    · rw [if_neg z]; exact pw_as_tx _
  | ife a b c ta tb tc iha ihb ihc =>
    intro gl sc h
    show pw_as (pw_tx 16 ++ (pw_e C a ++ (pw_tx 17 ++ (pw_e C b ++ (pw_tx 18 ++ (pw_e C c ++ pw_tx 12))))))
    exact pw_as_app (pw_as_tx _) (pw_as_app (iha _ _ h.1) (pw_as_app (pw_as_tx _) (pw_as_app (ihb _ _ h.2.1) (pw_as_app (pw_as_tx _) (pw_as_app (ihc _ _ h.2.2) (pw_as_tx _))))))
  | lt v x a b ta tb iha ihb =>
    intro gl sc h
    show pw_as (pw_tx 19 ++ (pw_nmr 4 x ++ (pw_tx 2 ++ (pw_e C a ++ (pw_tx 20 ++ (pw_e C b ++ pw_tx 12))))))
    exact pw_as_app (pw_as_tx _) (pw_as_app (pw_as_nm 4 x h.1.1) (pw_as_app (pw_as_tx _) (pw_as_app (iha _ _ h.2.1) (pw_as_app (pw_as_tx _) (pw_as_app (ihb _ _ h.2.2) (pw_as_tx _))))))
  | op s a b ta tb iha ihb =>
    intro gl sc h
    show pw_as (pw_tx 14 ++ (pw_e C a ++ ([s] ++ (pw_e C b ++ pw_tx 12))))
    refine pw_as_app (pw_as_tx _) (pw_as_app (iha _ _ h.2.1) (pw_as_app (fun x hx => ?_) (pw_as_app (ihb _ _ h.2.2) (pw_as_tx _))))
    have e : x = s := by simpa using hx
    have := h.1
    omega
  | site s a b ta tb iha ihb =>
    intro gl sc h
    show pw_as (pw_tx 14 ++ (pw_e C a ++ (pw_tx 1 ++ (pw_e C b ++ pw_tx 12))))
    exact pw_as_app (pw_as_tx _) (pw_as_app (iha _ _ h.1) (pw_as_app (pw_as_tx _) (pw_as_app (ihb _ _ h.2) (pw_as_tx _))))
theorem pw_as_g {B : Nat} (M C : Nat → Bool) : ∀ (gs : ps_G) (gl : List Nat) (k k1 : pk_K) (g : Nat), pn_GW B gs gl k k1 → pw_as (pw_g M C gs g) := by
  intro gs
  induction gs with
  | nil => intro gl k k1 g _ x hx; cases hx
  | cons e r ih =>
    intro gl k k1 g h
    obtain ⟨x, v, u⟩ := e
    obtain ⟨nx, _, nv, tu, hw, k2, c1, c2⟩ := h
    show pw_as ((if M g = true then pw_tx 0 ++ (pw_nmr 4 x ++ (pw_tx 1 ++ (pw_nmr 4 v ++ (pw_tx 2 ++ ((if C g = true then pw_e C u else pw_tx 10) ++ pw_tx 3))))) else []) ++ pw_g M C r (g + 1))
    refine pw_as_app ?_ (ih _ _ _ _ c2)
    by_cases z : M g = true
    · rw [if_pos z]
      refine pw_as_app (pw_as_tx _) (pw_as_app (pw_as_nm 4 x nx.1) (pw_as_app (pw_as_tx _) (pw_as_app (pw_as_nm 4 v nv.1) (pw_as_app (pw_as_tx _) (pw_as_app ?_ (pw_as_tx _))))))
      by_cases z2 : C g = true
      · rw [if_pos z2]; exact pw_as_e C u tu _ _ hw
      · rw [if_neg z2]; exact pw_as_tx _
    · rw [if_neg z]; intro x hx; cases hx
theorem pw_as_pr {gs : ps_G} {t : pt_T} {la li si nd : Nat} (M C : Nat → Bool) (hV : pn_V gs t la li si nd) : pw_as (pw_pr M C gs t) := by
  obtain ⟨v1, v2, v3, v4, v5, v6, v7, k1, v8, v9⟩ := hV
  exact pw_as_app (pw_as_g M C gs [] _ _ 0 v8) (pw_as_e C t v6 _ _ v7)
