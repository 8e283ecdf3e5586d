/-! whole programs, as they are written -/
def pw_0 : Nat → List Nat := fun _ => []
def pw_e (C : Nat → Bool) (t : pt_T) : List Nat := pw_t false pw_0 pw_0 C t
def pw_g (M C : Nat → Bool) : ps_G → Nat → List Nat
  | [], _ => []
  | (x, v, e) :: r, g => (if M g = true then pw_tx 0 ++ (pw_nm x ++ (pw_tx 1 ++ (pw_nm v ++ (pw_tx 2 ++ ((if C g = true then pw_e C e else pw_tx 10) ++ pw_tx 3))))) else []) ++ pw_g M C r (g + 1)
def pw_pr (M C : Nat → Bool) (gs : ps_G) (t : pt_T) : List Nat := pw_g M C gs 0 ++ pw_e C t
def pw_al : Nat → Bool := fun _ => true
theorem pw_txl : (pw_tx 0).length = 4 ∧ (pw_tx 1).length = 1 ∧ (pw_tx 2).length = 1 ∧ (pw_tx 3).length = 1 ∧ (pw_tx 9).length = 1 ∧ (pw_tx 10).length = 4 ∧ (pw_tx 11).length = 2 ∧ (pw_tx 12).length = 1 ∧ (pw_tx 14).length = 1 ∧ (pw_tx 16).length = 4 ∧ (pw_tx 17).length = 6 ∧ (pw_tx 18).length = 6 ∧ (pw_tx 19).length = 5 ∧ (pw_tx 20).length = 4 := by decide +kernel
theorem pw_len (C : Nat → Bool) (t : pt_T) (tt : pt_tw t) : (pw_e C t).length ≤ 17 * pt_sz t := by
  obtain ⟨t0, t1, t2, t3, t9, t10, t11, t12, t14, t16, t17, t18, t19, t20⟩ := pw_txl
  unfold pw_e
  induction t, tt using pt_indh with
  | num v => have := (pw_nu_len v).2; have e : pt_sz (pt_num v) = 1 := rfl; show (pw_nu v).length ≤ _; omega
  | var v x => have := pw_nmr_len 4 x; have e : pt_sz (pt_var v x) = 1 := rfl; show (pw_nmr 4 x).length ≤ _; omega
  | glo g x => have := pw_nmr_len 4 x; have e : pt_sz (pt_glo g x) = 1 := rfl; show (pw_nmr 4 x).length ≤ _; omega
  | dead d => have e : pt_sz (pt_dead d) = 1 := rfl; show (pw_tx 10).length ≤ _; omega
  | lam f x b tb ih =>
    have := pw_nmr_len 4 x
    have e : pt_sz (pt_lam f x b) = pt_sz b + 1 := rfl
    have p := pt_sz_pos b
    show (pw_tx 11 ++ (pw_nmr 4 x ++ (pw_tx 9 ++ ((if C f = true then pw_t false pw_0 pw_0 C b else pw_tx 10) ++ pw_tx 12)))).length ≤ _
    simp only [List.length_append]
    by_cases z : C f = true
    · rw [if_pos z]; omega
    · rw [if_neg z]; omega
  | ife a b c ta tb tc iha ihb ihc =>
    have e : pt_sz (pt_ife a b c) = pt_sz a + pt_sz b + pt_sz c + 1 := rfl
    show (pw_tx 16 ++ (pw_t false pw_0 pw_0 C a ++ (pw_tx 17 ++ (pw_t false pw_0 pw_0 C b ++ (pw_tx 18 ++ (pw_t false pw_0 pw_0 C c ++ pw_tx 12)))))).length ≤ _
    simp only [List.length_append]
    omega
  | lt v x a b ta tb iha ihb =>
    have := pw_nmr_len 4 x
    have e : pt_sz (pt_let v x a b) = pt_sz a + pt_sz b + 1 := rfl
    show (pw_tx 19 ++ (pw_nmr 4 x ++ (pw_tx 2 ++ (pw_t false pw_0 pw_0 C a ++ (pw_tx 20 ++ (pw_t false pw_0 pw_0 C b ++ pw_tx 12)))))).length ≤ _
    simp only [List.length_append]
    omega
  | op s a b ta tb iha ihb =>
    have e : pt_sz (pt_op s a b) = pt_sz a + pt_sz b + 1 := rfl
    show (pw_tx 14 ++ (pw_t false pw_0 pw_0 C a ++ ([s] ++ (pw_t false pw_0 pw_0 C b ++ pw_tx 12)))).length ≤ _
    simp only [List.length_append, List.length_singleton]
    omega
  | site s a b ta tb iha ihb =>
    have e : pt_sz (pt_site s a b) = pt_sz a + pt_sz b + 1 := rfl
    show (pw_tx 14 ++ (pw_t false pw_0 pw_0 C a ++ (pw_tx 1 ++ (pw_t false pw_0 pw_0 C b ++ pw_tx 12)))).length ≤ _
    simp only [List.length_append]
    omega
theorem pw_g_len {B : Nat} (M C : Nat → Bool) : ∀ (gs : ps_G) (gl : List Nat) (k k1 : pk_K) (g : Nat), pn_GW B gs gl k k1 → (pw_g M C gs g).length + 17 * k.2.2.2 ≤ 17 * k1.2.2.2 + 16 * gs.length := by
  obtain ⟨t0, t1, t2, t3, t9, t10, t11, t12, t14, t16, t17, t18, t19, t20⟩ := pw_txl
  intro gs
  induction gs with
  | nil => intro gl k k1 g h; cases h; show 0 + _ ≤ _; omega
  | cons e r ih =>
    intro gl k k1 g h
    obtain ⟨x, v, u⟩ := e
    obtain ⟨_, _, _, tu, _, k2, c1, c2⟩ := h
    have m1 := (pn_mono u tu _ _ c1).2.2.2
    have i := ih _ _ _ (g + 1) c2
    have l := pw_len C u tu
    have l1 := pw_nmr_len 4 x
    have l2 := pw_nmr_len 4 v
    have p := pt_sz_pos u
    show ((if M g = true then pw_tx 0 ++ (pw_nmr 4 x ++ (pw_tx 1 ++ (pw_nmr 4 v ++ (pw_tx 2 ++ ((if C g = true then pw_e C u else pw_tx 10) ++ pw_tx 3))))) else []) ++ pw_g M C r (g + 1)).length + _ ≤ _
    rw [List.length_append, List.length_cons]
    by_cases z : M g = true
    · rw [if_pos z]
      simp only [List.length_append]
      by_cases z2 : C g = true
      · rw [if_pos z2]; omega
      · rw [if_neg z2]; omega
    · rw [if_neg z, List.length_nil]; omega
theorem pw_pr_len {gs : ps_G} {t : pt_T} {la li si nd : Nat} (M C : Nat → Bool) (hV : pn_V gs t la li si nd) : (pw_g M C gs 0).length + (pw_e C t).length ≤ 1900 := by
  obtain ⟨v1, v2, v3, v4, v5, v6, v7, k1, v8, v9⟩ := hV
  have a := pw_g_len M C gs [] _ _ 0 v8
  have b := pw_len C t v6
  have m := (pn_mono t v6 _ _ v9).2.2.2
  dsimp only at a m
  omega
/-- an EXPR, by the class -/
theorem px_putExpr {sc o nd nf nv ns G : Nat} {ins : List Nat} {fm : Bool} {D A : Nat → List Nat} {w0 : fa_W} (hX : px_wP sc o nd nf ns G ins fm D A w0) (h24 : nf ≤ 24) (t : pt_T) (tt : pt_tw t) {hh : Int} {p : Nat} {gl : List Nat} {sco : List (Nat × Nat)} {l : List Nat} {w : fa_W} (H : px_P o ins t hh p w0) (hnd : p + pt_sz t ≤ nd) (hW : pf_W nf nv ns t) (hwf : pk_wfs t gl sco) (hgl : gl.length ≤ G) (hf : pw_fw w0 w) (hR : px_RL 3 l w) (hl : l.length + (pw_t fm D A (fun _ => true) t).length ≤ 6990) : ∃ w', fm_Writer_putExpression sc ((p + pt_sz t - 1 : Nat) : Int) w = some w' ∧ pw_fw w0 w' ∧ px_RL 3 (l ++ pw_t fm D A (fun _ => true) t) w' := by
  have nd100 : nd ≤ 100 := hX.2.2.2.1.2.2.2.2.2
  have hs := pt_sz_pos t
  obtain ⟨p1, p2, p3⟩ := px_push (r := 38) (m := 1200) (n := 0) (v := ((p + pt_sz t - 1 : Nat) : Int) * 4) (w := fa_st w 38 1 0) (by decide +kernel) (by decide +kernel) (fa_st_eq _ _ _ _) (by omega)
  have e0 : fm_Writer_putExpression sc ((p + pt_sz t - 1 : Nat) : Int) w = fm_Writer_putExpression_l19 sc ((p + pt_sz t - 1 : Nat) : Int) fa_FU ((0 : Nat) : Int) (fr_add 38 (((p + pt_sz t - 1 : Nat) : Int) * 4) (fa_st w 38 1 0)) := by
    unfold fm_Writer_putExpression fm_Row_clear
    rw [pf_let_eq, pf_let_eq]
    rfl
  generalize fr_add 38 (((p + pt_sz t - 1 : Nat) : Int) * 4) (fa_st w 38 1 0) = w1 at *
  have o1 : ∀ i j, i ≠ 38 → i ≠ 39 → w1 i j = w i j := fun i j q1 q2 => (p3 i j (by omega) (by omega)).trans (fa_st_ne (by omega))
  obtain ⟨k, w', k1, k2, k3, k4, k5, k6⟩ := px_we (a2 := ((p + pt_sz t - 1 : Nat) : Int)) hX h24 t tt hh p gl sco l 0 w1 H hnd hW hwf hgl ⟨fun i j q1 q2 q3 q4 q5 q6 => (o1 i j q3 q4).trans (hf i j q1 q2 q3 q4 q5 q6), px_RL_of hR (fun i j q => o1 i j (by omega) (by omega)), p1, by rw [p2]; omega⟩ (by omega) hl
  refine ⟨w', ?_, k3, k4⟩
  obtain ⟨F, hF⟩ : ∃ F, fa_FU = F + 1 + k := ⟨fa_FU - 1 - k, by unfold fa_FU; omega⟩
  rw [e0, hF, k2 (F + 1) 0 (by omega)]
  conv => lhs; unfold fm_Writer_putExpression_l19
  unfold fm_Row_size
  rw [pb_wr (by omega), if_neg (by omega), k5, if_pos (by decide)]
theorem px_L_in {o : Nat} {ins : List Nat} {gs : ps_G} {t : pt_T} {w : fa_W} : ∀ (os : List Nat) (a : Nat), px_L o ins gs t os a w → ∀ g ∈ os, ∃ c, c + pt_sz (pn_tr gs t g) ≤ a + pn_os gs t os ∧ px_P o ins (pn_tr gs t g) (pn_ow gs.length g) c w ∧ (if g < gs.length then w (o + 20) g else w o 16) = ((c + pt_sz (pn_tr gs t g) - 1 : Nat) : Int) := by
  intro os
  induction os with
  | nil => intro a _ g hg; cases hg
  | cons x r ih =>
    intro a h g hg
    obtain ⟨h1, h2, h3⟩ := h
    have e : pn_os gs t (x :: r) = pt_sz (pn_tr gs t x) + pn_os gs t r := rfl
    rcases List.mem_cons.mp hg with z | z
    · subst z
      exact ⟨a, by omega, h1, h2⟩
    · obtain ⟨c, c1, c2, c3⟩ := ih _ h3 g z
      exact ⟨c, by omega, c2, c3⟩
