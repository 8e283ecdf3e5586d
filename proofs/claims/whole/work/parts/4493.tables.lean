/-! the tables of a whole program: EXPRS of FUNCTIONS, places of SITES -/
theorem pn_GWge {B : Nat} : ∀ (gs : ps_G) (gl : List Nat) (k k' : pk_K), pn_GW B gs gl k k' → k.1 ≤ k'.1 ∧ k.2.2.1 ≤ k'.2.2.1 := by
  intro gs
  induction gs with
  | nil => intro gl k k' h; cases h; exact ⟨Nat.le_refl _, Nat.le_refl _⟩
  | cons e r ih =>
    intro gl k k' h
    obtain ⟨x, v, t'⟩ := e
    obtain ⟨_, _, _, tt, _, k3, h6, h7⟩ := h
    have a := pn_mono t' tt _ _ h6
    have b := ih _ _ _ h7
    omega
theorem pf_GW_T {B : Nat} {t : pt_T} (tt : pt_tw t) : ∀ (gs : ps_G) (gl : List Nat) (k k1 k2 : pk_K), pn_GW B gs gl k k1 → pn_can B t k1 k2 → ∀ fb0 : Nat → pt_T, ∃ fb, (∀ f, ¬ (B + k.1 ≤ f ∧ f < B + k2.1) → fb f = fb0 f) ∧ (∀ g, g ≤ gs.length → pf_T fb (pn_tr gs t g)) := by
  intro gs
  induction gs with
  | nil =>
    intro gl k k1 k2 h hc fb0
    cases h
    obtain ⟨fb, x1, x2, _⟩ := pf_T_ex t tt _ _ hc fb0
    exact ⟨fb, x1, fun g _ => x2⟩
  | cons e r ih =>
    intro gl k k1 k2 h hc fb0
    obtain ⟨x, v, t'⟩ := e
    obtain ⟨_, _, _, tt', _, k3, h6, h7⟩ := h
    have a := pn_mono t' tt' _ _ h6
    have b := pn_GWge r _ _ _ h7
    have c := pn_mono t tt _ _ hc
    obtain ⟨fb1, x1, x2, _⟩ := pf_T_ex t' tt' _ _ h6 fb0
    obtain ⟨fb, y1, y2⟩ := ih _ _ _ _ h7 hc fb1
    refine ⟨fb, fun f q => (y1 f (by omega)).trans (x1 f (by omega)), fun g hg => ?_⟩
    cases g with
    | zero => exact pf_T_cong t' tt' _ _ h6 (fun f p q => y1 f (by omega)) x2
    | succ g => exact y2 g (by rw [List.length_cons] at hg; omega)
theorem pf_GW_S {B : Nat} {t : pt_T} (tt : pt_tw t) {fb : Nat → pt_T} : ∀ (gs : ps_G) (gl : List Nat) (k k1 k2 : pk_K), pn_GW B gs gl k k1 → pn_can B t k1 k2 → (∀ g, g ≤ gs.length → pf_T fb (pn_tr gs t g)) → ∀ (ow : Nat → Int) (sb0 : pf_sT), ∃ sb, (∀ s, ¬ (k.2.2.1 ≤ s ∧ s < k2.2.2.1) → sb s = sb0 s) ∧ (∀ g, g ≤ gs.length → pf_S sb (ow g) (pn_tr gs t g)) ∧ (∀ f, B + k.1 ≤ f → f < B + k2.1 → pf_S sb (f : Int) (fb f)) ∧ ∀ s, k.2.2.1 ≤ s → s < k2.2.2.1 → (∃ g, g ≤ gs.length ∧ (sb s).1 = ow g ∧ pf_ss (pn_tr gs t g) s) ∨ ∃ f, B + k.1 ≤ f ∧ f < B + k2.1 ∧ (sb s).1 = (f : Int) ∧ pf_ss (fb f) s := by
  intro gs
  induction gs with
  | nil =>
    intro gl k k1 k2 h hc hT ow sb0
    cases h
    obtain ⟨sb, x1, x2, x3, x4⟩ := pf_S_ex t tt (ow 0) _ _ hc (hT 0 (Nat.le_refl _)) sb0
    refine ⟨sb, x1, fun g hg => ?_, x3, fun s p q => ?_⟩
    · rw [show g = 0 from Nat.le_zero.mp hg]; exact x2
    · rcases x4 s p q with y | y
      · exact Or.inl ⟨0, Nat.le_refl _, y⟩
      · exact Or.inr y
  | cons e r ih =>
    intro gl k k1 k2 h hc hT ow sb0
    obtain ⟨x, v, t'⟩ := e
    obtain ⟨_, _, _, tt', _, k3, h6, h7⟩ := h
    have a := pn_mono t' tt' _ _ h6
    have b := pn_GWge r _ _ _ h7
    have c := pn_mono t tt _ _ hc
    have hT0 : pf_T fb t' := hT 0 (Nat.zero_le _)
    obtain ⟨sb1, x1, x2, x3, x4⟩ := pf_S_ex t' tt' (ow 0) _ _ h6 hT0 sb0
    obtain ⟨sb, y1, y2, y3, y4⟩ := ih _ _ _ _ h7 hc (fun g hg => hT (g + 1) (by rw [List.length_cons]; omega)) (fun g => ow (g + 1)) sb1
    have rb := pf_RB_of t' tt' _ _ h6 hT0
    refine ⟨sb, fun s q => (y1 s (by omega)).trans (x1 s (by omega)), fun g hg => ?_, fun f p q => ?_, fun s p q => ?_⟩
    · cases g with
      | zero => exact pf_S_cong t' tt' _ _ h6 (fun s p q => y1 s (by omega)) x2
      | succ g => exact y2 g (by rw [List.length_cons] at hg; omega)
    · by_cases z : f < B + k3.1
      · obtain ⟨tw, ka, kb, c1, c2, c3⟩ := rb f p z
        exact pf_S_cong _ tw _ _ c1 (fun s p q => y1 s (by omega)) (x3 f p z)
      · exact y3 f (by omega) q
    · by_cases z : s < k3.2.2.1
      · rw [y1 s (by omega)]
        rcases x4 s p z with y | ⟨f, f1, f2, f3⟩
        · exact Or.inl ⟨0, Nat.zero_le _, y⟩
        · exact Or.inr ⟨f, f1, by omega, f3⟩
      · rcases y4 s (by omega) q with ⟨g, g1, g2⟩ | ⟨f, f1, f2⟩
        · exact Or.inl ⟨g + 1, by rw [List.length_cons]; omega, g2⟩
        · exact Or.inr ⟨f, by omega, f2⟩
/-- the tables -/
def pf_G (gs : ps_G) (t : pt_T) (la li si : Nat) (fb : Nat → pt_T) (sb : pf_sT) : Prop := (∀ g, g < gs.length → fb g = pn_tr gs t g) ∧ (∀ f, pt_tw (fb f)) ∧ (∀ f, f < gs.length + la → pf_T fb (fb f) ∧ pf_W (gs.length + la) (24 + li) si (fb f) ∧ pf_S sb (f : Int) (fb f)) ∧ (pt_tw t ∧ pf_T fb t ∧ pf_W (gs.length + la) (24 + li) si t ∧ pf_S sb (-1) t) ∧ ∀ s, s < si → ((sb s).1 = -1 ∧ pf_ss t s) ∨ ∃ f, f < gs.length + la ∧ (sb s).1 = (f : Int) ∧ pf_ss (fb f) s
theorem pf_G_ex {gs : ps_G} {t : pt_T} {la li si nd : Nat} (hV : pn_V gs t la li si nd) : ∃ fb sb, pf_G gs t la li si fb sb := by
  obtain ⟨v1, v2, v3, v4, v5, v6, v7, k1, v8, v9⟩ := hV
  obtain ⟨fb, x1, x2⟩ := pf_GW_T v6 gs _ _ _ _ v8 v9 (fun g => pn_tr gs t g)
  obtain ⟨sb, y1, y2, y3, y4⟩ := pf_GW_S v6 gs _ _ _ _ v8 v9 x2 (pn_ow gs.length) (fun _ => (0, t, t))
  dsimp only at x1 y1 y3 y4
  obtain ⟨K, K', i1, i2⟩ := pn_items gs [] _ _ _ v8 v6 v7 v9
  have tw := pn_tr_tw v6 gs _ _ _ v8
  have fbg : ∀ g, g < gs.length → fb g = pn_tr gs t g := fun g hg => x1 g (by omega)
  have Wg : ∀ g, g ≤ gs.length → pf_W (gs.length + la) (24 + li) si (pn_tr gs t g) := fun g hg => by
    obtain ⟨a1, a2, a3, ⟨b1, b2, b3, _⟩, gl', sc', a5, a6, a7, a8⟩ := i1 g hg
    dsimp only at b1 b2 b3
    have el : ([] : List Nat).length = 0 := rfl
    rw [el] at a6 a8
    exact pf_W_of _ a1 gl' sc' _ _ (by omega) (fun b hb => by have := a8 b hb; omega) a2 a5 (by omega) (by omega) (by omega) b3
  have lam : ∀ f, gs.length ≤ f → f < gs.length + la → pt_tw (fb f) ∧ pf_T fb (fb f) ∧ pf_W (gs.length + la) (24 + li) si (fb f) := fun f p q => by
    obtain ⟨g, g1, ka, kb, g2, g3, g4⟩ := pn_lam_item gs _ _ _ _ v8 v9 f p q
    have r1 := pf_RB_of _ (tw g) _ _ g2 (x2 g g1) f g3 g4
    have r2 := pf_W_fb _ (tw g) _ _ g2 (x2 g g1) (Wg g g1) f g3 g4
    exact ⟨r1.1, r2.2, r2.1⟩
  refine ⟨fb, sb, fbg, fun f => ?_, fun f hf => ?_, ⟨v6, ?_, ?_, ?_⟩, fun s hs => ?_⟩
  · by_cases z : gs.length ≤ f ∧ f < gs.length + la
    · exact (lam f z.1 z.2).1
    · rw [x1 f (by omega)]; exact tw f
  · by_cases z : f < gs.length
    · rw [fbg f z]
      refine ⟨x2 f (by omega), Wg f (by omega), ?_⟩
      have := y2 f (by omega)
      unfold pn_ow at this
      rw [if_pos z] at this
      exact this
    · have l := lam f (by omega) hf
      exact ⟨l.2.1, l.2.2, y3 f (by omega) hf⟩
  · have := x2 gs.length (Nat.le_refl _)
    rw [pn_tr_len] at this
    exact this
  · have := Wg gs.length (Nat.le_refl _)
    rw [pn_tr_len] at this
    exact this
  · have := y2 gs.length (Nat.le_refl _)
    unfold pn_ow at this
    rw [pn_tr_len, if_neg (by omega)] at this
    exact this
  · rcases y4 s (Nat.zero_le _) hs with ⟨g, g1, g2, g3⟩ | ⟨f, f1, f2, f3⟩
    · unfold pn_ow at g2
      by_cases z : g < gs.length
      · rw [if_pos z] at g2
        exact Or.inr ⟨g, by omega, g2, by rw [fbg g z]; exact g3⟩
      · rw [if_neg z] at g2
        rw [show g = gs.length by omega, pn_tr_len] at g3
        exact Or.inl ⟨g2, g3⟩
    · exact Or.inr ⟨f, f2, f3⟩
