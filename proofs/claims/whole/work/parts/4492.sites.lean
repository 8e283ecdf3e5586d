/-! the table of SITES: whose they are, what is applied, to what -/
abbrev pf_sT : Type := Nat → Int × pt_T × pt_T
def pf_S (sb : pf_sT) (h : Int) : pt_T → Prop := pt_rec (fun _ => True) (fun _ _ => True) (fun _ _ => True) (fun _ => True) (fun _ _ _ _ => True) (fun _ _ _ qa qb qc => qa ∧ qb ∧ qc) (fun _ _ _ _ qa qb => qa ∧ qb) (fun _ _ _ qa qb => qa ∧ qb) (fun s a b qa qb => qa ∧ qb ∧ sb s = (h, a, b)) True
def pf_ss : pt_T → Nat → Prop := pt_rec (fun _ _ => False) (fun _ _ _ => False) (fun _ _ _ => False) (fun _ _ => False) (fun _ _ _ _ _ => False) (fun _ _ _ qa qb qc s => qa s ∨ qb s ∨ qc s) (fun _ _ _ _ qa qb s => qa s ∨ qb s) (fun _ _ _ qa qb s => qa s ∨ qb s) (fun r _ _ qa qb s => s = r ∨ qa s ∨ qb s) (fun _ => False)
theorem pf_S_cong {B : Nat} {sb sb' : pf_sT} {h : Int} (t : pt_T) (tt : pt_tw t) : ∀ (k k' : pk_K), pn_can B t k k' → (∀ s, k.2.2.1 ≤ s → s < k'.2.2.1 → sb' s = sb s) → pf_S sb h t → pf_S sb' h t := by
  induction t, tt using pt_indh with
  | num v => intro k k' _ _ _; trivial
  | var v x => intro k k' _ _ _; trivial
  | glo g x => intro k k' _ _ _; trivial
  | dead d => intro k k' _ _ _; trivial
  | lam f x b tb ih => intro k k' _ _ _; trivial
  | ife a b c ta tb tc iha ihb ihc =>
    intro k k' hc e h
    obtain ⟨k1, k2, k3, h1, h2, h3, rfl⟩ := hc
    have m1 := pn_mono a ta _ _ h1
    have m2 := pn_mono b tb _ _ h2
    have m3 := pn_mono c tc _ _ h3
    exact ⟨iha _ _ h1 (fun g x y => e g x (by dsimp only; omega)) h.1, ihb _ _ h2 (fun g x y => e g (by omega) (by dsimp only; omega)) h.2.1, ihc _ _ h3 (fun g x y => e g (by omega) y) h.2.2⟩
  | lt v x a b ta tb iha ihb =>
    intro k k' hc e h
    obtain ⟨k1, k2, h1, _, h2, rfl⟩ := hc
    have m1 := pn_mono a ta _ _ h1
    have m2 := pn_mono b tb _ _ h2
    dsimp only at m2
    exact ⟨iha _ _ h1 (fun g x y => e g x (by dsimp only; omega)) h.1, ihb _ _ h2 (fun g x y => e g (by dsimp only at x; omega) y) h.2⟩
  | op s a b ta tb iha ihb =>
    intro k k' hc e h
    obtain ⟨k1, k2, h1, h2, rfl⟩ := hc
    have m1 := pn_mono a ta _ _ h1
    have m2 := pn_mono b tb _ _ h2
    exact ⟨iha _ _ h1 (fun g x y => e g x (by dsimp only; omega)) h.1, ihb _ _ h2 (fun g x y => e g (by omega) y) h.2⟩
  | site s a b ta tb iha ihb =>
    intro k k' hc e h
    obtain ⟨k1, k2, h1, es, h2, rfl⟩ := hc
    have m1 := pn_mono a ta _ _ h1
    have m2 := pn_mono b tb _ _ h2
    dsimp only at m2
    exact ⟨iha _ _ h1 (fun g x y => e g x (by dsimp only; omega)) h.1, ihb _ _ h2 (fun g x y => e g (by dsimp only at x; omega) y) h.2.1, (e s (by omega) (by dsimp only; omega)).trans h.2.2⟩
/-- what a tree's table tells -/
def pf_SQ (B : Nat) (fb : Nat → pt_T) (sb : pf_sT) (h : Int) (t : pt_T) (k k' : pk_K) : Prop := pf_S sb h t ∧ (∀ f, B + k.1 ≤ f → f < B + k'.1 → pf_S sb (f : Int) (fb f)) ∧ ∀ s, k.2.2.1 ≤ s → s < k'.2.2.1 → ((sb s).1 = h ∧ pf_ss t s) ∨ ∃ f, B + k.1 ≤ f ∧ f < B + k'.1 ∧ (sb s).1 = (f : Int) ∧ pf_ss (fb f) s
/-- bodies of LAMBDAS lie in the tree's range -/
def pf_RB (B : Nat) (fb : Nat → pt_T) (k k' : pk_K) : Prop := ∀ f, B + k.1 ≤ f → f < B + k'.1 → pt_tw (fb f) ∧ ∃ ka kb, pn_can B (fb f) ka kb ∧ k.2.2.1 ≤ ka.2.2.1 ∧ kb.2.2.1 ≤ k'.2.2.1
theorem pf_RB_of {B : Nat} {fb : Nat → pt_T} (t : pt_T) (tt : pt_tw t) : ∀ (k k' : pk_K), pn_can B t k k' → pf_T fb t → pf_RB B fb k k' := by
  induction t, tt using pt_indh with
  | num v => intro k k' h _ f a b; cases h; dsimp only at b; omega
  | var v x => intro k k' h _ f a b; cases h; dsimp only at b; omega
  | glo g x => intro k k' h _ f a b; cases h; dsimp only at b; omega
  | dead d => intro k k' h _ f a b; cases h.2; dsimp only at b; omega
  | lam f0 x b tb ih =>
    intro k k' h hT f p q
    obtain ⟨ef, k1, h1, rfl⟩ := h
    by_cases z : f = f0
    · rw [z, hT.2]; exact ⟨tb, _, _, h1, Nat.le_refl _, Nat.le_refl _⟩
    · obtain ⟨z1, ka, kb, z2, z3, z4⟩ := ih _ _ h1 hT.1 f (by dsimp only; omega) q
      exact ⟨z1, ka, kb, z2, z3, z4⟩
  | ife a b c ta tb tc iha ihb ihc =>
    intro k k' h hT f p q
    obtain ⟨k1, k2, k3, h1, h2, h3, rfl⟩ := h
    have m1 := pn_mono a ta _ _ h1
    have m2 := pn_mono b tb _ _ h2
    have m3 := pn_mono c tc _ _ h3
    dsimp only at q ⊢
    by_cases z : f < B + k1.1
    · obtain ⟨z1, ka, kb, z2, z3, z4⟩ := iha _ _ h1 hT.1 f p z
      exact ⟨z1, ka, kb, z2, z3, by omega⟩
    · by_cases y : f < B + k2.1
      · obtain ⟨z1, ka, kb, z2, z3, z4⟩ := ihb _ _ h2 hT.2.1 f (by omega) y
        exact ⟨z1, ka, kb, z2, by omega, by omega⟩
      · obtain ⟨z1, ka, kb, z2, z3, z4⟩ := ihc _ _ h3 hT.2.2 f (by omega) q
        exact ⟨z1, ka, kb, z2, by omega, z4⟩
  | lt v x a b ta tb iha ihb =>
    intro k k' h hT f p q
    obtain ⟨k1, k2, h1, _, h2, rfl⟩ := h
    have m1 := pn_mono a ta _ _ h1
    have m2 := pn_mono b tb _ _ h2
    dsimp only at q m2 ⊢
    by_cases z : f < B + k1.1
    · obtain ⟨z1, ka, kb, z2, z3, z4⟩ := iha _ _ h1 hT.1 f p z
      exact ⟨z1, ka, kb, z2, z3, by omega⟩
    · obtain ⟨z1, ka, kb, z2, z3, z4⟩ := ihb _ _ h2 hT.2 f (by dsimp only; omega) q
      exact ⟨z1, ka, kb, z2, by dsimp only at z3; omega, z4⟩
  | op s a b ta tb iha ihb =>
    intro k k' h hT f p q
    obtain ⟨k1, k2, h1, h2, rfl⟩ := h
    have m1 := pn_mono a ta _ _ h1
    have m2 := pn_mono b tb _ _ h2
    dsimp only at q ⊢
    by_cases z : f < B + k1.1
    · obtain ⟨z1, ka, kb, z2, z3, z4⟩ := iha _ _ h1 hT.1 f p z
      exact ⟨z1, ka, kb, z2, z3, by omega⟩
    · obtain ⟨z1, ka, kb, z2, z3, z4⟩ := ihb _ _ h2 hT.2 f (by omega) q
      exact ⟨z1, ka, kb, z2, by omega, z4⟩
  | site s a b ta tb iha ihb =>
    intro k k' h hT f p q
    obtain ⟨k1, k2, h1, _, h2, rfl⟩ := h
    have m1 := pn_mono a ta _ _ h1
    have m2 := pn_mono b tb _ _ h2
    dsimp only at q m2 ⊢
    by_cases z : f < B + k1.1
    · obtain ⟨z1, ka, kb, z2, z3, z4⟩ := iha _ _ h1 hT.1 f p z
      exact ⟨z1, ka, kb, z2, z3, by omega⟩
    · obtain ⟨z1, ka, kb, z2, z3, z4⟩ := ihb _ _ h2 hT.2 f (by dsimp only; omega) q
      exact ⟨z1, ka, kb, z2, by dsimp only at z3; omega, z4⟩
theorem pf_SQ_two {B : Nat} {fb : Nat → pt_T} {h : Int} {a b : pt_T} (ta : pt_tw a) (tb : pt_tw b) {k k1 k1' k2 : pk_K} (ca : pn_can B a k k1) (cb : pn_can B b k1' k2) (e : k1'.1 = k1.1) (e2 : k1.2.2.1 ≤ k1'.2.2.1) (hTa : pf_T fb a) (ia : ∀ sb0 : pf_sT, ∃ sb, (∀ s, ¬ (k.2.2.1 ≤ s ∧ s < k1.2.2.1) → sb s = sb0 s) ∧ pf_SQ B fb sb h a k k1) (ib : ∀ sb0 : pf_sT, ∃ sb, (∀ s, ¬ (k1'.2.2.1 ≤ s ∧ s < k2.2.2.1) → sb s = sb0 s) ∧ pf_SQ B fb sb h b k1' k2) : ∀ sb0 : pf_sT, ∃ sb, (∀ s, ¬ (k.2.2.1 ≤ s ∧ s < k2.2.2.1 ∧ ¬ (k1.2.2.1 ≤ s ∧ s < k1'.2.2.1)) → sb s = sb0 s) ∧ pf_S sb h a ∧ pf_S sb h b ∧ (∀ f, B + k.1 ≤ f → f < B + k2.1 → pf_S sb (f : Int) (fb f)) ∧ ∀ s, k.2.2.1 ≤ s → s < k2.2.2.1 → ¬ (k1.2.2.1 ≤ s ∧ s < k1'.2.2.1) → ((sb s).1 = h ∧ (pf_ss a s ∨ pf_ss b s)) ∨ ∃ f, B + k.1 ≤ f ∧ f < B + k2.1 ∧ (sb s).1 = (f : Int) ∧ pf_ss (fb f) s := by
  intro sb0
  have m1 := pn_mono a ta _ _ ca
  have m2 := pn_mono b tb _ _ cb
  obtain ⟨sb1, x1, x2, x3, x4⟩ := ia sb0
  obtain ⟨sb2, y1, y2, y3, y4⟩ := ib sb1
  have rb := pf_RB_of a ta _ _ ca hTa
  refine ⟨sb2, fun s hs => (y1 s (by omega)).trans (x1 s (by omega)), pf_S_cong a ta _ _ ca (fun s p q => y1 s (by omega)) x2, y2, fun f p q => ?_, fun s p q r => ?_⟩
  · by_cases z : f < B + k1.1
    · obtain ⟨z1, ka, kb, z2, z3, z4⟩ := rb f p z
      exact pf_S_cong _ z1 _ _ z2 (fun s p q => y1 s (by omega)) (x3 f p z)
    · exact y3 f (by omega) q
  · by_cases z : s < k1.2.2.1
    · have es := y1 s (by omega)
      rcases x4 s p z with ⟨w1, w2⟩ | ⟨f, w1, w2, w3, w4⟩
      · exact Or.inl ⟨by rw [es]; exact w1, Or.inl w2⟩
      · exact Or.inr ⟨f, w1, by omega, by rw [es]; exact w3, w4⟩
    · rcases y4 s (by omega) q with ⟨w1, w2⟩ | ⟨f, w1, w2, w3, w4⟩
      · exact Or.inl ⟨w1, Or.inr w2⟩
      · exact Or.inr ⟨f, by omega, w2, w3, w4⟩
theorem pf_S_ex {B : Nat} {fb : Nat → pt_T} (t : pt_T) (tt : pt_tw t) : ∀ (h : Int) (k k' : pk_K), pn_can B t k k' → pf_T fb t → ∀ sb0 : pf_sT, ∃ sb, (∀ s, ¬ (k.2.2.1 ≤ s ∧ s < k'.2.2.1) → sb s = sb0 s) ∧ pf_SQ B fb sb h t k k' := by
  induction t, tt using pt_indh with
  | num v => intro h k k' hc _ sb0; cases hc; exact ⟨sb0, fun _ _ => rfl, trivial, fun f a b => by dsimp only at b; omega, fun s a b => by dsimp only at b; omega⟩
  | var v x => intro h k k' hc _ sb0; cases hc; exact ⟨sb0, fun _ _ => rfl, trivial, fun f a b => by dsimp only at b; omega, fun s a b => by dsimp only at b; omega⟩
  | glo g x => intro h k k' hc _ sb0; cases hc; exact ⟨sb0, fun _ _ => rfl, trivial, fun f a b => by dsimp only at b; omega, fun s a b => by dsimp only at b; omega⟩
  | dead d => intro h k k' hc _ sb0; cases hc.2; exact ⟨sb0, fun _ _ => rfl, trivial, fun f a b => by dsimp only at b; omega, fun s a b => by dsimp only at b; omega⟩
  | lam f0 x b tb ih =>
    intro h k k' hc hT sb0
    obtain ⟨ef, k1, h1, rfl⟩ := hc
    have m := pn_mono b tb _ _ h1
    dsimp only at m
    obtain ⟨sb, x1, x2, x3, x4⟩ := ih (f0 : Int) _ _ h1 hT.1 sb0
    dsimp only at x1 x3 x4
    refine ⟨sb, x1, trivial, fun f p q => ?_, fun s p q => ?_⟩
    · dsimp only at p q
      by_cases z : f = f0
      · rw [z, hT.2]; exact x2
      · exact x3 f (by omega) q
    · dsimp only at p q ⊢
      rcases x4 s p q with ⟨w1, w2⟩ | ⟨f, w1, w2, w3, w4⟩
      · exact Or.inr ⟨f0, by omega, by omega, w1, by rw [hT.2]; exact w2⟩
      · exact Or.inr ⟨f, by omega, w2, w3, w4⟩
  | ife a b c ta tb tc iha ihb ihc =>
    intro h k k' hc hT sb0
    obtain ⟨k1, k2, k3, h1, h2, h3, rfl⟩ := hc
    have m1 := pn_mono a ta _ _ h1
    have m2 := pn_mono b tb _ _ h2
    have m3 := pn_mono c tc _ _ h3
    obtain ⟨sb1, x1, x2, x3, x4, x5⟩ := pf_SQ_two ta tb h1 h2 rfl (Nat.le_refl _) hT.1 (iha h _ _ h1 hT.1) (ihb h _ _ h2 hT.2.1) sb0
    obtain ⟨sb2, y1, y2, y3, y4⟩ := ihc h _ _ h3 hT.2.2 sb1
    have rb := pf_RB_of a ta _ _ h1 hT.1
    have rb2 := pf_RB_of b tb _ _ h2 hT.2.1
    refine ⟨sb2, fun s hs => (y1 s (by dsimp only at hs; omega)).trans (x1 s (by dsimp only at hs; omega)), ⟨pf_S_cong a ta _ _ h1 (fun s p q => y1 s (by omega)) x2, pf_S_cong b tb _ _ h2 (fun s p q => y1 s (by omega)) x3, y2⟩, fun f p q => ?_, fun s p q => ?_⟩
    · dsimp only at q
      by_cases z : f < B + k1.1
      · obtain ⟨z1, ka, kb, z2, z3, z4⟩ := rb f p z
        exact pf_S_cong _ z1 _ _ z2 (fun s p q => y1 s (by omega)) (x4 f p (by omega))
      · by_cases y : f < B + k2.1
        · obtain ⟨z1, ka, kb, z2, z3, z4⟩ := rb2 f (by omega) y
          exact pf_S_cong _ z1 _ _ z2 (fun s p q => y1 s (by omega)) (x4 f p y)
        · exact y3 f (by omega) q
    · dsimp only at q ⊢
      by_cases z : s < k2.2.2.1
      · have es := y1 s (by omega)
        rcases x5 s p z (by omega) with ⟨w1, w2⟩ | ⟨f, w1, w2, w3, w4⟩
        · exact Or.inl ⟨by rw [es]; exact w1, w2.elim Or.inl (fun q => Or.inr (Or.inl q))⟩
        · exact Or.inr ⟨f, w1, by omega, by rw [es]; exact w3, w4⟩
      · rcases y4 s (by omega) q with ⟨w1, w2⟩ | ⟨f, w1, w2, w3, w4⟩
        · exact Or.inl ⟨w1, Or.inr (Or.inr w2)⟩
        · exact Or.inr ⟨f, by omega, w2, w3, w4⟩
  | lt v x a b ta tb iha ihb =>
    intro h k k' hc hT sb0
    obtain ⟨k1, k2, h1, _, h2, rfl⟩ := hc
    obtain ⟨sb1, x1, x2, x3, x4, x5⟩ := pf_SQ_two ta tb h1 h2 rfl (Nat.le_refl _) hT.1 (iha h _ _ h1 hT.1) (ihb h _ _ h2 hT.2) sb0
    exact ⟨sb1, fun s hs => x1 s (by dsimp only at hs ⊢; omega), ⟨x2, x3⟩, x4, fun s p q => x5 s p q (by dsimp only; omega)⟩
  | op s a b ta tb iha ihb =>
    intro h k k' hc hT sb0
    obtain ⟨k1, k2, h1, h2, rfl⟩ := hc
    obtain ⟨sb1, x1, x2, x3, x4, x5⟩ := pf_SQ_two ta tb h1 h2 rfl (Nat.le_refl _) hT.1 (iha h _ _ h1 hT.1) (ihb h _ _ h2 hT.2) sb0
    exact ⟨sb1, fun s hs => x1 s (by dsimp only at hs; omega), ⟨x2, x3⟩, x4, fun s p q => x5 s p q (by omega)⟩
  | site r a b ta tb iha ihb =>
    intro h k k' hc hT sb0
    obtain ⟨k1, k2, h1, es, h2, rfl⟩ := hc
    have m1 := pn_mono a ta _ _ h1
    have m2 := pn_mono b tb _ _ h2
    dsimp only at m2
    obtain ⟨sb1, x1, x2, x3, x4, x5⟩ := pf_SQ_two ta tb h1 h2 rfl (Nat.le_succ _) hT.1 (iha h _ _ h1 hT.1) (ihb h _ _ h2 hT.2) sb0
    dsimp only at x1 x4 x5
    have out : ∀ s, s ≠ r → pu_set sb1 r (h, a, b) s = sb1 s := fun s hs => pu_set_ne _ _ hs
    have rb := pf_RB_of a ta _ _ h1 hT.1
    have rb2 := pf_RB_of b tb _ _ h2 hT.2
    refine ⟨pu_set sb1 r (h, a, b), fun s hs => ?_, ⟨pf_S_cong a ta _ _ h1 (fun s p q => out s (by omega)) x2, pf_S_cong b tb _ _ h2 (fun s p q => out s (by dsimp only at p; omega)) x3, pu_set_eq _ _ _⟩, fun f p q => ?_, fun s p q => ?_⟩
    · dsimp only at hs
      rw [out s (by omega)]
      exact x1 s (by omega)
    · dsimp only at q
      by_cases z : f < B + k1.1
      · obtain ⟨z1, ka, kb, z2, z3, z4⟩ := rb f p z
        exact pf_S_cong _ z1 _ _ z2 (fun s p q => out s (by omega)) (x4 f p q)
      · obtain ⟨z1, ka, kb, z2, z3, z4⟩ := rb2 f (by dsimp only; omega) q
        exact pf_S_cong _ z1 _ _ z2 (fun s p q => out s (by dsimp only at z3; omega)) (x4 f p q)
    · dsimp only at q ⊢
      by_cases z : s = r
      · rw [z, pu_set_eq]; exact Or.inl ⟨rfl, Or.inl rfl⟩
      · rw [out s z]
        rcases x5 s p q (by omega) with ⟨w1, w2⟩ | w
        · exact Or.inl ⟨w1, Or.inr w2⟩
        · exact Or.inr w
theorem pf_W_fb {nf nv ns B : Nat} {fb : Nat → pt_T} (t : pt_T) (tt : pt_tw t) : ∀ (k k' : pk_K), pn_can B t k k' → pf_T fb t → pf_W nf nv ns t → ∀ f, B + k.1 ≤ f → f < B + k'.1 → pf_W nf nv ns (fb f) ∧ pf_T fb (fb f) := by
  induction t, tt using pt_indh with
  | num v => intro k k' h _ _ f a b; cases h; dsimp only at b; omega
  | var v x => intro k k' h _ _ f a b; cases h; dsimp only at b; omega
  | glo g x => intro k k' h _ _ f a b; cases h; dsimp only at b; omega
  | dead d => intro k k' h _ _ f a b; cases h.2; dsimp only at b; omega
  | lam f0 x b tb ih =>
    intro k k' h hT hW f p q
    obtain ⟨ef, k1, h1, rfl⟩ := h
    by_cases z : f = f0
    · rw [z, hT.2]; exact ⟨hW.2, hT.1⟩
    · exact ih _ _ h1 hT.1 hW.2 f (by dsimp only; omega) q
  | ife a b c ta tb tc iha ihb ihc =>
    intro k k' h hT hW f p q
    obtain ⟨k1, k2, k3, h1, h2, h3, rfl⟩ := h
    by_cases z : f < B + k1.1
    · exact iha _ _ h1 hT.1 hW.1 f p z
    · by_cases y : f < B + k2.1
      · exact ihb _ _ h2 hT.2.1 hW.2.1 f (by omega) y
      · exact ihc _ _ h3 hT.2.2 hW.2.2 f (by omega) q
  | lt v x a b ta tb iha ihb =>
    intro k k' h hT hW f p q
    obtain ⟨k1, k2, h1, _, h2, rfl⟩ := h
    by_cases z : f < B + k1.1
    · exact iha _ _ h1 hT.1 hW.2.1 f p z
    · exact ihb _ _ h2 hT.2 hW.2.2 f (by dsimp only; omega) q
  | op s a b ta tb iha ihb =>
    intro k k' h hT hW f p q
    obtain ⟨k1, k2, h1, h2, rfl⟩ := h
    by_cases z : f < B + k1.1
    · exact iha _ _ h1 hT.1 hW.1 f p z
    · exact ihb _ _ h2 hT.2 hW.2 f (by omega) q
  | site s a b ta tb iha ihb =>
    intro k k' h hT hW f p q
    obtain ⟨k1, k2, h1, _, h2, rfl⟩ := h
    by_cases z : f < B + k1.1
    · exact iha _ _ h1 hT.1 hW.2.1 f p z
    · exact ihb _ _ h2 hT.2 hW.2.2 f (by dsimp only; omega) q
