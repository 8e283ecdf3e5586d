/-! copying: SITES and LAMBDAS of an EXPR -/
theorem pe_sites {oP B : Nat} {M CL SV LV : Nat → Bool} {ins : List Nat} {w0 : fa_W} {mk : Nat → Int} (t : pt_T) (tt : pt_tw t) : ∀ (h : Int) (a : Nat) (k k' : pk_K) (l : Bool), px_P oP ins t h a w0 → pn_can B t k k' → pc_ok M CL SV LV t l → (l = true → pe_mk CL t a mk) → (l = false → ∀ i, a ≤ i → i < a + pt_sz t → mk i = -1) → ∀ s, k.2.2.1 ≤ s → s < k'.2.2.1 → ∃ i : Nat, i < a + pt_sz t ∧ w0 (oP + 12) s = (i : Int) ∧ ((mk i = -1 ∧ SV s = false) ∨ (mk i = 0 ∧ SV s = true)) := by
  induction t, tt using pt_indh with
  | num v => intro h a k k' l _ hc _ _ _ s p q; cases hc; dsimp only at q; omega
  | var v x => intro h a k k' l _ hc _ _ _ s p q; cases hc; dsimp only at q; omega
  | glo g x => intro h a k k' l _ hc _ _ _ s p q; cases hc; dsimp only at q; omega
  | dead d => intro h a k k' l _ hc _ _ _ s p q; cases hc.2; dsimp only at q; omega
  | lam f x b tb ih =>
    intro h a k k' l H hc ok m1 m0 s p q
    obtain ⟨ef, k1, h1, rfl⟩ := hc
    have sz : pt_sz (pt_lam f x b) = pt_sz b + 1 := rfl
    obtain ⟨o1, o2, o3⟩ := ok
    obtain ⟨i, i1, i2⟩ := ih (f : Int) a _ _ (CL f) H.1 h1 o3 (fun c => by
      have lt : l = true := by rw [← o1]; exact o2 c
      have := (m1 lt).2
      rw [if_pos c] at this
      exact this) (fun c => by
      cases l with
      | true =>
        have := (m1 rfl).2
        rw [if_neg (by rw [c]; decide)] at this
        exact this
      | false => exact fun i p q => m0 rfl i p (by omega)) s p q
    exact ⟨i, by omega, i2⟩
  | ife ta t2 tc wa wb wc iha ihb ihc =>
    intro h a k k' l H hc ok m1 m0 s p q
    obtain ⟨k1, k2, k3, h1, h2, h3, rfl⟩ := hc
    have sz : pt_sz (pt_ife ta t2 tc) = pt_sz ta + pt_sz t2 + pt_sz tc + 1 := rfl
    by_cases z1 : s < k1.2.2.1
    · obtain ⟨i, i1, i2⟩ := iha h a _ _ l H.1 h1 ok.1 (fun c => (m1 c).1) (fun c i p q => m0 c i p (by omega)) s p z1
      exact ⟨i, by omega, i2⟩
    · by_cases z2 : s < k2.2.2.1
      · obtain ⟨i, i1, i2⟩ := ihb h _ _ _ l H.2.1 h2 ok.2.1 (fun c => (m1 c).2.1) (fun c i p q => m0 c i (by omega) (by omega)) s (by omega) z2
        exact ⟨i, by omega, i2⟩
      · obtain ⟨i, i1, i2⟩ := ihc h _ _ _ l H.2.2.1 h3 ok.2.2 (fun c => (m1 c).2.2.1) (fun c i p q => m0 c i (by omega) (by omega)) s (by omega) q
        exact ⟨i, by omega, i2⟩
  | lt v x ta t2 wa wb iha ihb =>
    intro h a k k' l H hc ok m1 m0 s p q
    obtain ⟨k1, k2, h1, _, h2, rfl⟩ := hc
    have sz : pt_sz (pt_let v x ta t2) = pt_sz ta + pt_sz t2 + 1 := rfl
    by_cases z1 : s < k1.2.2.1
    · obtain ⟨i, i1, i2⟩ := iha h a _ _ l H.1 h1 ok.2.1 (fun c => (m1 c).1) (fun c i p q => m0 c i p (by omega)) s p z1
      exact ⟨i, by omega, i2⟩
    · obtain ⟨i, i1, i2⟩ := ihb h _ _ _ l H.2.1 h2 ok.2.2 (fun c => (m1 c).2.1) (fun c i p q => m0 c i (by omega) (by omega)) s (by dsimp only; omega) q
      exact ⟨i, by omega, i2⟩
  | op r ta t2 wa wb iha ihb =>
    intro h a k k' l H hc ok m1 m0 s p q
    obtain ⟨k1, k2, h1, h2, rfl⟩ := hc
    have sz : pt_sz (pt_op r ta t2) = pt_sz ta + pt_sz t2 + 1 := rfl
    by_cases z1 : s < k1.2.2.1
    · obtain ⟨i, i1, i2⟩ := iha h a _ _ l H.1 h1 ok.1 (fun c => (m1 c).1) (fun c i p q => m0 c i p (by omega)) s p z1
      exact ⟨i, by omega, i2⟩
    · obtain ⟨i, i1, i2⟩ := ihb h _ _ _ l H.2.1 h2 ok.2 (fun c => (m1 c).2.1) (fun c i p q => m0 c i (by omega) (by omega)) s (by omega) q
      exact ⟨i, by omega, i2⟩
  | site r ta t2 wa wb iha ihb =>
    intro h a k k' l H hc ok m1 m0 s p q
    obtain ⟨k1, k2, h1, es, h2, rfl⟩ := hc
    have sz : pt_sz (pt_site r ta t2) = pt_sz ta + pt_sz t2 + 1 := rfl
    by_cases z1 : s < k1.2.2.1
    · obtain ⟨i, i1, i2⟩ := iha h a _ _ l H.1 h1 ok.2.1 (fun c => (m1 c).1) (fun c i p q => m0 c i p (by omega)) s p z1
      exact ⟨i, by omega, i2⟩
    · by_cases z2 : s = r
      · rw [z2]
        refine ⟨a + pt_sz ta + pt_sz t2, by omega, H.2.2.2, ?_⟩
        cases l with
        | true => exact Or.inr ⟨(m1 rfl).2.2, ok.1⟩
        | false => exact Or.inl ⟨m0 rfl _ (by omega) (by omega), ok.1⟩
      · obtain ⟨i, i1, i2⟩ := ihb h _ _ _ l H.2.1 h2 ok.2.2 (fun c => (m1 c).2.1) (fun c i p q => m0 c i (by omega) (by omega)) s (by dsimp only; omega) q
        exact ⟨i, by omega, i2⟩
/-- LAMBDAS have numbers from B on -/
theorem pe_lamge {oP B : Nat} {ins : List Nat} {w0 : fa_W} (t : pt_T) (tt : pt_tw t) : ∀ (h : Int) (a : Nat) (k k' : pk_K), px_P oP ins t h a w0 → pn_can B t k k' → ∀ i, a ≤ i → i < a + pt_sz t → ∀ (V st : Nat) (h' p0 p1 p2 : Int), px_N oP w0 i 5 V h' st p0 p1 p2 → B ≤ V := by
  have leaf : ∀ (a i K v : Nat) (h : Int) (V st st2 : Nat) (h' p0 p1 p2 q0 q1 q2 : Int), px_N oP w0 a K v h st2 q0 q1 q2 → K ≠ 5 → i = a → px_N oP w0 i 5 V h' st p0 p1 p2 → B ≤ V := fun a i K v h V st st2 h' p0 p1 p2 q0 q1 q2 N hK e N' => by
    rw [e] at N'
    have := (px_N_uniq N N').1
    omega
  induction t, tt using pt_indh with
  | num v => intro h a k k' H _ i p q V st h' p0 p1 p2 N; have sz : pt_sz (pt_num v) = 1 := rfl; exact leaf a i _ _ _ V st _ h' p0 p1 p2 _ _ _ H (by decide) (by omega) N
  | var v x => intro h a k k' H _ i p q V st h' p0 p1 p2 N; have sz : pt_sz (pt_var v x) = 1 := rfl; exact leaf a i _ _ _ V st _ h' p0 p1 p2 _ _ _ H.1 (by decide) (by omega) N
  | glo g x => intro h a k k' H _ i p q V st h' p0 p1 p2 N; have sz : pt_sz (pt_glo g x) = 1 := rfl; exact leaf a i _ _ _ V st _ h' p0 p1 p2 _ _ _ H.1 (by decide) (by omega) N
  | dead d => intro h a k k' H _ i p q V st h' p0 p1 p2 N; have sz : pt_sz (pt_dead d) = 1 := rfl; exact leaf a i _ _ _ V st _ h' p0 p1 p2 _ _ _ H (by decide) (by omega) N
  | lam f x b tb ih =>
    intro h a k k' H hc i p q V st h' p0 p1 p2 N
    obtain ⟨ef, k1, h1, rfl⟩ := hc
    have sz : pt_sz (pt_lam f x b) = pt_sz b + 1 := rfl
    by_cases z : i < a + pt_sz b
    · exact ih _ _ _ _ H.1 h1 i p z V st h' p0 p1 p2 N
    · rw [show i = a + pt_sz b by omega] at N
      have := (px_N_uniq H.2.1 N).2.1
      omega
  | ife ta t2 tc wa wb wc iha ihb ihc =>
    intro h a k k' H hc i p q V st h' p0 p1 p2 N
    obtain ⟨k1, k2, k3, h1, h2, h3, rfl⟩ := hc
    have sz : pt_sz (pt_ife ta t2 tc) = pt_sz ta + pt_sz t2 + pt_sz tc + 1 := rfl
    by_cases z1 : i < a + pt_sz ta
    · exact iha _ _ _ _ H.1 h1 i p z1 V st h' p0 p1 p2 N
    · by_cases z2 : i < a + pt_sz ta + pt_sz t2
      · exact ihb _ _ _ _ H.2.1 h2 i (by omega) z2 V st h' p0 p1 p2 N
      · by_cases z3 : i < a + pt_sz ta + pt_sz t2 + pt_sz tc
        · exact ihc _ _ _ _ H.2.2.1 h3 i (by omega) z3 V st h' p0 p1 p2 N
        · exact leaf _ i _ _ _ V st _ h' p0 p1 p2 _ _ _ H.2.2.2 (by decide) (by omega) N
  | lt v x ta t2 wa wb iha ihb =>
    intro h a k k' H hc i p q V st h' p0 p1 p2 N
    obtain ⟨k1, k2, h1, _, h2, rfl⟩ := hc
    have sz : pt_sz (pt_let v x ta t2) = pt_sz ta + pt_sz t2 + 1 := rfl
    by_cases z1 : i < a + pt_sz ta
    · exact iha _ _ _ _ H.1 h1 i p z1 V st h' p0 p1 p2 N
    · by_cases z2 : i < a + pt_sz ta + pt_sz t2
      · exact ihb _ _ _ _ H.2.1 h2 i (by omega) z2 V st h' p0 p1 p2 N
      · exact leaf _ i _ _ _ V st _ h' p0 p1 p2 _ _ _ H.2.2.1 (by decide) (by omega) N
  | op r ta t2 wa wb iha ihb =>
    intro h a k k' H hc i p q V st h' p0 p1 p2 N
    obtain ⟨k1, k2, h1, h2, rfl⟩ := hc
    have sz : pt_sz (pt_op r ta t2) = pt_sz ta + pt_sz t2 + 1 := rfl
    by_cases z1 : i < a + pt_sz ta
    · exact iha _ _ _ _ H.1 h1 i p z1 V st h' p0 p1 p2 N
    · by_cases z2 : i < a + pt_sz ta + pt_sz t2
      · exact ihb _ _ _ _ H.2.1 h2 i (by omega) z2 V st h' p0 p1 p2 N
      · exact leaf _ i _ _ _ V st _ h' p0 p1 p2 _ _ _ H.2.2 (by decide) (by omega) N
  | site r ta t2 wa wb iha ihb =>
    intro h a k k' H hc i p q V st h' p0 p1 p2 N
    obtain ⟨k1, k2, h1, _, h2, rfl⟩ := hc
    have sz : pt_sz (pt_site r ta t2) = pt_sz ta + pt_sz t2 + 1 := rfl
    by_cases z1 : i < a + pt_sz ta
    · exact iha _ _ _ _ H.1 h1 i p z1 V st h' p0 p1 p2 N
    · by_cases z2 : i < a + pt_sz ta + pt_sz t2
      · exact ihb _ _ _ _ H.2.1 h2 i (by omega) z2 V st h' p0 p1 p2 N
      · exact leaf _ i _ _ _ V st _ h' p0 p1 p2 _ _ _ H.2.2.1 (by decide) (by omega) N
/-- the item in which a THING lies -/
theorem pe_L_at {o : Nat} {CL VI : Nat → Bool} {ins : List Nat} {gs : ps_G} {t : pt_T} {w : fa_W} {mk : Nat → Int} : ∀ (r : List Nat) (a : Nat), px_L o ins gs t r a w → pe_L1 CL VI gs t mk r a → (∀ i, a ≤ i → i < a + pn_os gs t r → ∃ g c, g ∈ r ∧ c ≤ i ∧ i < c + pt_sz (pn_tr gs t g) ∧ c + pt_sz (pn_tr gs t g) ≤ a + pn_os gs t r ∧ px_P o ins (pn_tr gs t g) (pn_ow gs.length g) c w ∧ (if VI g = true then pe_mk CL (pn_tr gs t g) c mk else ∀ i, c ≤ i → i < c + pt_sz (pn_tr gs t g) → mk i = -1)) ∧ ∀ g ∈ r, ∃ c, a ≤ c ∧ c + pt_sz (pn_tr gs t g) ≤ a + pn_os gs t r ∧ px_P o ins (pn_tr gs t g) (pn_ow gs.length g) c w ∧ (if VI g = true then pe_mk CL (pn_tr gs t g) c mk else ∀ i, c ≤ i → i < c + pt_sz (pn_tr gs t g) → mk i = -1) := by
  intro r
  induction r with
  | nil => intro a _ _; exact ⟨fun i p q => by rw [show pn_os gs t [] = 0 from rfl] at q; omega, fun g hg => by cases hg⟩
  | cons g0 r ih =>
    intro a H H1
    obtain ⟨x1, x2, x3⟩ := H
    obtain ⟨y1, y2⟩ := H1
    obtain ⟨i1, i2⟩ := ih _ x3 y2
    have e : pn_os gs t (g0 :: r) = pt_sz (pn_tr gs t g0) + pn_os gs t r := rfl
    rw [e]
    refine ⟨fun i p q => ?_, fun g hg => ?_⟩
    · by_cases z : i < a + pt_sz (pn_tr gs t g0)
      · exact ⟨g0, a, List.mem_cons_self .., p, z, by omega, x1, y1⟩
      · obtain ⟨g, c, q1, q2, q3, q4, q5⟩ := i1 i (by omega) (by omega)
        exact ⟨g, c, List.mem_cons_of_mem _ q1, q2, q3, by omega, q5⟩
    · rcases List.mem_cons.mp hg with rfl | hg
      · exact ⟨a, Nat.le_refl _, by omega, x1, y1⟩
      · obtain ⟨c, q1, q2, q3⟩ := i2 g hg
        exact ⟨c, by omega, by omega, q3⟩
