/-! COMES as it is told: H what VARS have, R what comes of EXPRS, L who is CALLED; fb the EXPR of each FUNCTION -/
def pf_k (H R : Nat → Nat → Prop) : pt_T → Nat → Prop := pt_rec (fun _ _ => False) (fun v _ f => H v f) (fun g _ f => f = g) (fun _ _ => False) (fun g _ _ _ f => f = g) (fun _ _ _ _ qb qc f => qb f ∨ qc f) (fun _ _ _ _ _ qb f => qb f) (fun _ _ _ _ _ _ => False) (fun _ _ _ qa _ f => ∃ g, qa g ∧ R g f) (fun _ => False)
def pf_c (H R : Nat → Nat → Prop) (L : Nat → Prop) : pt_T → Prop := pt_rec (fun _ => True) (fun _ _ => True) (fun _ _ => True) (fun _ => True) (fun _ _ _ _ => True) (fun _ _ _ qa qb qc => qa ∧ qb ∧ qc) (fun v _ a _ qa qb => qa ∧ qb ∧ ∀ f, pf_k H R a f → H v f) (fun _ _ _ qa qb => qa ∧ qb) (fun _ a b qa qb => qa ∧ qb ∧ ∀ g, pf_k H R a g → L g ∧ ∀ f, pf_k H R b f → H g f) True
def pf_o : pt_T → Nat → Prop := pt_rec (fun _ _ => False) (fun _ _ _ => False) (fun g _ f => f = g) (fun _ _ => False) (fun g _ _ _ f => f = g) (fun _ _ _ qa qb qc f => qa f ∨ qb f ∨ qc f) (fun _ _ _ _ qa qb f => qa f ∨ qb f) (fun _ _ _ qa qb f => qa f ∨ qb f) (fun _ _ _ qa qb f => qa f ∨ qb f) (fun _ => False)
/-- numbers are in their bounds: FUNCTIONS below nf, VARS below nv, SITES below ns -/
def pf_W (nf nv ns : Nat) : pt_T → Prop := pt_rec (fun _ => True) (fun v _ => v < nv) (fun g _ => g < nf) (fun _ => True) (fun f _ _ q => f < nf ∧ q) (fun _ _ _ qa qb qc => qa ∧ qb ∧ qc) (fun v _ _ _ qa qb => v < nv ∧ qa ∧ qb) (fun _ _ _ qa qb => qa ∧ qb) (fun s _ _ qa qb => s < ns ∧ qa ∧ qb) True
/-- LAMBDAS have the EXPRS that the table tells -/
def pf_T (fb : Nat → pt_T) : pt_T → Prop := pt_rec (fun _ => True) (fun _ _ => True) (fun _ _ => True) (fun _ => True) (fun f _ b q => q ∧ fb f = b) (fun _ _ _ qa qb qc => qa ∧ qb ∧ qc) (fun _ _ _ _ qa qb => qa ∧ qb) (fun _ _ _ qa qb => qa ∧ qb) (fun _ _ _ qa qb => qa ∧ qb) True
def pf_C (fb : Nat → pt_T) (t : pt_T) (H R : Nat → Nat → Prop) (L : Nat → Prop) : Prop := pf_c H R L t ∧ ∀ f, L f → pf_c H R L (fb f) ∧ ∀ g, pf_k H R (fb f) g → R f g
def pf_lH (fb : Nat → pt_T) (t : pt_T) (v f : Nat) : Prop := ∀ H R L, pf_C fb t H R L → H v f
def pf_lR (fb : Nat → pt_T) (t : pt_T) (g f : Nat) : Prop := ∀ H R L, pf_C fb t H R L → R g f
def pf_lL (fb : Nat → pt_T) (t : pt_T) (f : Nat) : Prop := ∀ H R L, pf_C fb t H R L → L f
theorem pf_k_mono {H R H' R' : Nat → Nat → Prop} (h1 : ∀ v f, H v f → H' v f) (h2 : ∀ v f, R v f → R' v f) (t : pt_T) (tt : pt_tw t) : ∀ f, pf_k H R t f → pf_k H' R' t f := by
  induction t, tt using pt_indh with
  | num v => intro f h; exact h
  | var v x => intro f h; exact h1 v f h
  | glo g x => intro f h; exact h
  | dead d => intro f h; exact h
  | lam g x b tb ih => intro f h; exact h
  | ife a b c ta tb tc iha ihb ihc => intro f h; exact h.elim (fun q => Or.inl (ihb f q)) (fun q => Or.inr (ihc f q))
  | lt v x a b ta tb iha ihb => intro f h; exact ihb f h
  | op s a b ta tb iha ihb => intro f h; exact h
  | site s a b ta tb iha ihb => intro f h; obtain ⟨g, h3, h4⟩ := h; exact ⟨g, iha g h3, h2 g f h4⟩
theorem pf_c_inf {fb : Nat → pt_T} {t0 : pt_T} (t : pt_T) (tt : pt_tw t) : (∀ H R L, pf_C fb t0 H R L → pf_c H R L t) → pf_c (pf_lH fb t0) (pf_lR fb t0) (pf_lL fb t0) t := by
  have down : ∀ H R L, pf_C fb t0 H R L → ∀ (s : pt_T), pt_tw s → ∀ f, pf_k (pf_lH fb t0) (pf_lR fb t0) s f → pf_k H R s f := fun H R L hC s ts f h => pf_k_mono (fun v f q => q H R L hC) (fun v f q => q H R L hC) s ts f h
  induction t, tt using pt_indh with
  | num v => intro _; trivial
  | var v x => intro _; trivial
  | glo g x => intro _; trivial
  | dead d => intro _; trivial
  | lam g x b tb ih => intro _; trivial
  | ife a b c ta tb tc iha ihb ihc => intro h; exact ⟨iha (fun H R L hC => (h H R L hC).1), ihb (fun H R L hC => (h H R L hC).2.1), ihc (fun H R L hC => (h H R L hC).2.2)⟩
  | lt v x a b ta tb iha ihb =>
    intro h
    exact ⟨iha (fun H R L hC => (h H R L hC).1), ihb (fun H R L hC => (h H R L hC).2.1), fun f q H R L hC => (h H R L hC).2.2 f (down H R L hC a ta f q)⟩
  | op s a b ta tb iha ihb => intro h; exact ⟨iha (fun H R L hC => (h H R L hC).1), ihb (fun H R L hC => (h H R L hC).2)⟩
  | site s a b ta tb iha ihb =>
    intro h
    exact ⟨iha (fun H R L hC => (h H R L hC).1), ihb (fun H R L hC => (h H R L hC).2.1), fun g q => ⟨fun H R L hC => ((h H R L hC).2.2 g (down H R L hC a ta g q)).1, fun f q2 H R L hC => ((h H R L hC).2.2 g (down H R L hC a ta g q)).2 f (down H R L hC b tb f q2)⟩⟩
/-- the least one is closed -/
theorem pf_least {fb : Nat → pt_T} {t : pt_T} (tt : pt_tw t) (tf : ∀ f, pt_tw (fb f)) : pf_C fb t (pf_lH fb t) (pf_lR fb t) (pf_lL fb t) := by
  refine ⟨pf_c_inf t tt (fun H R L hC => hC.1), fun f hf => ⟨pf_c_inf (fb f) (tf f) (fun H R L hC => (hC.2 f (hf H R L hC)).1), fun g hg H R L hC => ?_⟩⟩
  exact (hC.2 f (hf H R L hC)).2 g (pf_k_mono (fun v f q => q H R L hC) (fun v f q => q H R L hC) (fb f) (tf f) g hg)
/-- what comes of an EXPR comes of it -/
theorem pf_lR_iff {fb : Nat → pt_T} {t : pt_T} (tt : pt_tw t) (tf : ∀ f, pt_tw (fb f)) (f g : Nat) : pf_lR fb t f g ↔ pf_lL fb t f ∧ pf_k (pf_lH fb t) (pf_lR fb t) (fb f) g := by
  have hC := pf_least tt tf
  constructor
  · intro h
    refine h (pf_lH fb t) (fun f g => pf_lL fb t f ∧ pf_k (pf_lH fb t) (pf_lR fb t) (fb f) g) (pf_lL fb t) ?_
    have dn : ∀ (s : pt_T), pt_tw s → ∀ x, pf_k (pf_lH fb t) (fun f g => pf_lL fb t f ∧ pf_k (pf_lH fb t) (pf_lR fb t) (fb f) g) s x → pf_k (pf_lH fb t) (pf_lR fb t) s x := fun s ts x q => pf_k_mono (fun _ _ q => q) (fun f g q => (hC.2 f q.1).2 g q.2) s ts x q
    have cc : ∀ (s : pt_T), pt_tw s → pf_c (pf_lH fb t) (pf_lR fb t) (pf_lL fb t) s → pf_c (pf_lH fb t) (fun f g => pf_lL fb t f ∧ pf_k (pf_lH fb t) (pf_lR fb t) (fb f) g) (pf_lL fb t) s := by
      intro s ts
      induction s, ts using pt_indh with
      | num v => intro _; trivial
      | var v x => intro _; trivial
      | glo g x => intro _; trivial
      | dead d => intro _; trivial
      | lam g x b tb ih => intro _; trivial
      | ife a b c ta tb tc iha ihb ihc => intro h; exact ⟨iha h.1, ihb h.2.1, ihc h.2.2⟩
      | lt v x a b ta tb iha ihb => intro h; exact ⟨iha h.1, ihb h.2.1, fun f q => h.2.2 f (dn a ta f q)⟩
      | op s a b ta tb iha ihb => intro h; exact ⟨iha h.1, ihb h.2⟩
      | site s a b ta tb iha ihb => intro h; exact ⟨iha h.1, ihb h.2.1, fun g q => ⟨(h.2.2 g (dn a ta g q)).1, fun f q2 => (h.2.2 g (dn a ta g q)).2 f (dn b tb f q2)⟩⟩
    exact ⟨cc t tt hC.1, fun f hf => ⟨cc (fb f) (tf f) (hC.2 f hf).1, fun g q => ⟨hf, dn (fb f) (tf f) g q⟩⟩⟩
  · intro h
    exact (hC.2 f h.1).2 g h.2
def pf_M (fb : Nat → pt_T) (t : pt_T) (f : Nat) : Prop := pf_o t f ∨ ∃ g, pf_lL fb t g ∧ pf_o (fb g) f
/-! the table of EXPRS -/
theorem pf_T_cong {B : Nat} {fb fb' : Nat → pt_T} (t : pt_T) (tt : pt_tw t) : ∀ (k k' : pk_K), pn_can B t k k' → (∀ f, B + k.1 ≤ f → f < B + k'.1 → fb' f = fb f) → pf_T fb t → pf_T fb' t := by
  induction t, tt using pt_indh with
  | num v => intro k k' _ _ _; trivial
  | var v x => intro k k' _ _ _; trivial
  | glo g x => intro k k' _ _ _; trivial
  | dead d => intro k k' _ _ _; trivial
  | lam f x b tb ih =>
    intro k k' hc e h
    obtain ⟨ef, k1, h1, rfl⟩ := hc
    have m := pn_mono b tb _ _ h1
    dsimp only at m
    exact ⟨ih _ _ h1 (fun g a c => e g (by dsimp only at a; omega) c) h.1, (e f (by omega) (by dsimp only; omega)).trans h.2⟩
  | ife a b c ta tb tc iha ihb ihc =>
    intro k k' hc e h
    obtain ⟨k1, k2, k3, h1, h2, h3, rfl⟩ := hc
    have m1 := pn_mono a ta _ _ h1
    have m2 := pn_mono b tb _ _ h2
    have m3 := pn_mono c tc _ _ h3
    exact ⟨iha _ _ h1 (fun g x y => e g x (by dsimp only; omega)) h.1, ihb _ _ h2 (fun g x y => e g (by omega) (by dsimp only; omega)) h.2.1, ihc _ _ h3 (fun g x y => e g (by omega) y) h.2.2⟩
  | lt v x a b ta tb iha ihb =>
    intro k k' hc e h
    obtain ⟨k1, k2, h1, _, h2, rfl⟩ := hc
    have m1 := pn_mono a ta _ _ h1
    have m2 := pn_mono b tb _ _ h2
    dsimp only at m2
    exact ⟨iha _ _ h1 (fun g x y => e g x (by dsimp only; omega)) h.1, ihb _ _ h2 (fun g x y => e g (by dsimp only at x; omega) y) h.2⟩
  | op s a b ta tb iha ihb =>
    intro k k' hc e h
    obtain ⟨k1, k2, h1, h2, rfl⟩ := hc
    have m1 := pn_mono a ta _ _ h1
    have m2 := pn_mono b tb _ _ h2
    exact ⟨iha _ _ h1 (fun g x y => e g x (by dsimp only; omega)) h.1, ihb _ _ h2 (fun g x y => e g (by omega) y) h.2⟩
  | site s a b ta tb iha ihb =>
    intro k k' hc e h
    obtain ⟨k1, k2, h1, _, h2, rfl⟩ := hc
    have m1 := pn_mono a ta _ _ h1
    have m2 := pn_mono b tb _ _ h2
    dsimp only at m2
    exact ⟨iha _ _ h1 (fun g x y => e g x (by dsimp only; omega)) h.1, ihb _ _ h2 (fun g x y => e g (by dsimp only at x; omega) y) h.2⟩
def pf_TT (B : Nat) (k k' : pk_K) (fb : Nat → pt_T) : Prop := ∀ f, B + k.1 ≤ f → f < B + k'.1 → pt_tw (fb f) ∧ pf_T fb (fb f)
theorem pf_T_ex {B : Nat} (t : pt_T) (tt : pt_tw t) : ∀ (k k' : pk_K), pn_can B t k k' → ∀ fb0 : Nat → pt_T, ∃ fb, (∀ f, ¬ (B + k.1 ≤ f ∧ f < B + k'.1) → fb f = fb0 f) ∧ pf_T fb t ∧ ∀ f, B + k.1 ≤ f → f < B + k'.1 → pt_tw (fb f) ∧ ∃ ka kb, pn_can B (fb f) ka kb ∧ k.1 ≤ ka.1 ∧ kb.1 ≤ k'.1 ∧ pf_T fb (fb f) := by
  have two : ∀ (a b : pt_T) (ta : pt_tw a) (tb : pt_tw b) (k k1 k1' k2 : pk_K), pn_can B a k k1 → pn_can B b k1' k2 → k1'.1 = k1.1 → (∀ fb0 : Nat → pt_T, ∃ fb, (∀ f, ¬ (B + k.1 ≤ f ∧ f < B + k1.1) → fb f = fb0 f) ∧ pf_T fb a ∧ ∀ f, B + k.1 ≤ f → f < B + k1.1 → pt_tw (fb f) ∧ ∃ ka kb, pn_can B (fb f) ka kb ∧ k.1 ≤ ka.1 ∧ kb.1 ≤ k1.1 ∧ pf_T fb (fb f)) → (∀ fb0 : Nat → pt_T, ∃ fb, (∀ f, ¬ (B + k1'.1 ≤ f ∧ f < B + k2.1) → fb f = fb0 f) ∧ pf_T fb b ∧ ∀ f, B + k1'.1 ≤ f → f < B + k2.1 → pt_tw (fb f) ∧ ∃ ka kb, pn_can B (fb f) ka kb ∧ k1'.1 ≤ ka.1 ∧ kb.1 ≤ k2.1 ∧ pf_T fb (fb f)) → ∀ fb0 : Nat → pt_T, ∃ fb, (∀ f, ¬ (B + k.1 ≤ f ∧ f < B + k2.1) → fb f = fb0 f) ∧ (pf_T fb a ∧ pf_T fb b) ∧ ∀ f, B + k.1 ≤ f → f < B + k2.1 → pt_tw (fb f) ∧ ∃ ka kb, pn_can B (fb f) ka kb ∧ k.1 ≤ ka.1 ∧ kb.1 ≤ k2.1 ∧ pf_T fb (fb f) := by
    intro a b ta tb k k1 k1' k2 ca cb e ia ib fb0
    have m1 := pn_mono a ta _ _ ca
    have m2 := pn_mono b tb _ _ cb
    obtain ⟨fb1, x1, x2, x3⟩ := ia fb0
    obtain ⟨fb2, y1, y2, y3⟩ := ib fb1
    refine ⟨fb2, fun f h => (y1 f (by omega)).trans (x1 f (by omega)), ⟨pf_T_cong a ta _ _ ca (fun f p q => y1 f (by omega)) x2, y2⟩, fun f p q => ?_⟩
    by_cases z : f < B + k1.1
    · obtain ⟨z1, ka, kb, z2, z3, z4, z5⟩ := x3 f p z
      have ef := y1 f (by omega)
      rw [ef]
      exact ⟨z1, ka, kb, z2, z3, by omega, pf_T_cong _ z1 _ _ z2 (fun g p q => y1 g (by omega)) z5⟩
    · obtain ⟨z1, ka, kb, z2, z3, z4, z5⟩ := y3 f (by omega) q
      exact ⟨z1, ka, kb, z2, by omega, z4, z5⟩
  induction t, tt using pt_indh with
  | num v => intro k k' h fb0; cases h; exact ⟨fb0, fun _ _ => rfl, trivial, fun f a b => by dsimp only at b; omega⟩
  | var v x => intro k k' h fb0; cases h; exact ⟨fb0, fun _ _ => rfl, trivial, fun f a b => by dsimp only at b; omega⟩
  | glo g x => intro k k' h fb0; cases h; exact ⟨fb0, fun _ _ => rfl, trivial, fun f a b => by dsimp only at b; omega⟩
  | dead d => intro k k' h fb0; cases h.2; exact ⟨fb0, fun _ _ => rfl, trivial, fun f a b => by dsimp only at b; omega⟩
  | lam f x b tb ih =>
    intro k k' h fb0
    obtain ⟨ef, k1, h1, rfl⟩ := h
    have m := pn_mono b tb _ _ h1
    dsimp only at m
    obtain ⟨fb1, x1, x2, x3⟩ := ih _ _ h1 fb0
    dsimp only at x1 x3
    have out : ∀ g, g ≠ f → pu_set fb1 f b g = fb1 g := fun g h => pu_set_ne _ _ h
    have bt : pf_T (pu_set fb1 f b) b := pf_T_cong b tb _ _ h1 (fun g p q => out g (by dsimp only at p; omega)) x2
    refine ⟨pu_set fb1 f b, fun g h => ?_, ⟨bt, pu_set_eq _ _ _⟩, fun g p q => ?_⟩
    · dsimp only at h
      rw [out g (by omega)]
      exact x1 g (by omega)
    · dsimp only at p q ⊢
      by_cases z : g = f
      · rw [z, pu_set_eq]
        exact ⟨tb, _, k1, h1, by dsimp only; omega, Nat.le_refl _, bt⟩
      · obtain ⟨z1, ka, kb, z2, z3, z4, z5⟩ := x3 g (by omega) q
        rw [out g z]
        exact ⟨z1, ka, kb, z2, by omega, z4, pf_T_cong _ z1 _ _ z2 (fun g p q => out g (by omega)) z5⟩
  | ife a b c ta tb tc iha ihb ihc =>
    intro k k' h fb0
    obtain ⟨k1, k2, k3, h1, h2, h3, rfl⟩ := h
    have m2 := pn_mono b tb _ _ h2
    have m3 := pn_mono c tc _ _ h3
    obtain ⟨fb1, x1, x2, x3⟩ := two a b ta tb k k1 k1 k2 h1 h2 rfl (iha _ _ h1) (ihb _ _ h2) fb0
    obtain ⟨fb2, y1, y2, y3⟩ := ihc _ _ h3 fb1
    have m1 := pn_mono a ta _ _ h1
    refine ⟨fb2, fun f h => (y1 f (by dsimp only at h; omega)).trans (x1 f (by dsimp only at h; omega)), ⟨pf_T_cong a ta _ _ h1 (fun f p q => y1 f (by omega)) x2.1, pf_T_cong b tb _ _ h2 (fun f p q => y1 f (by omega)) x2.2, y2⟩, fun f p q => ?_⟩
    dsimp only at q ⊢
    by_cases z : f < B + k2.1
    · obtain ⟨z1, ka, kb, z2, z3, z4, z5⟩ := x3 f p z
      have ef := y1 f (by omega)
      rw [ef]
      exact ⟨z1, ka, kb, z2, z3, by omega, pf_T_cong _ z1 _ _ z2 (fun g p q => y1 g (by omega)) z5⟩
    · obtain ⟨z1, ka, kb, z2, z3, z4, z5⟩ := y3 f (by omega) q
      exact ⟨z1, ka, kb, z2, by omega, z4, z5⟩
  | lt v x a b ta tb iha ihb =>
    intro k k' h fb0
    obtain ⟨k1, k2, h1, _, h2, rfl⟩ := h
    exact two a b ta tb k k1 _ k2 h1 h2 rfl (iha _ _ h1) (ihb _ _ h2) fb0
  | op s a b ta tb iha ihb =>
    intro k k' h fb0
    obtain ⟨k1, k2, h1, h2, rfl⟩ := h
    exact two a b ta tb k k1 _ k2 h1 h2 rfl (iha _ _ h1) (ihb _ _ h2) fb0
  | site s a b ta tb iha ihb =>
    intro k k' h fb0
    obtain ⟨k1, k2, h1, _, h2, rfl⟩ := h
    exact two a b ta tb k k1 _ k2 h1 h2 rfl (iha _ _ h1) (ihb _ _ h2) fb0
theorem pf_W_of {B nf nv ns : Nat} (t : pt_T) (tt : pt_tw t) : ∀ (gl : List Nat) (sc : List (Nat × Nat)) (k k' : pk_K), gl.length ≤ nf → (∀ b ∈ sc, b.1 < nv) → pn_can B t k k' → pk_wfs t gl sc → B + k'.1 ≤ nf → nf ≤ nv → 24 + k'.2.1 ≤ nv → k'.2.2.1 ≤ ns → pf_W nf nv ns t := by
  induction t, tt using pt_indh with
  | num v => intro gl sc k k' _ _ _ _ _ _ _ _; trivial
  | var v x => intro gl sc k k' _ hs _ hw _ _ _ _; exact hs _ (ps_lk_mem sc x v hw.1)
  | glo g x => intro gl sc k k' hg _ _ hw _ _ _ _; have := (ps_gx_mem gl x 0 g hw.2.1).2.1; show g < nf; omega
  | dead d => intro gl sc k k' _ _ _ _ _ _ _ _; trivial
  | lam f x b tb ih =>
    intro gl sc k k' hg hs hc hw h1 h2 h3 h4
    obtain ⟨ef, k1, c1, rfl⟩ := hc
    have m := pn_mono b tb _ _ c1
    dsimp only at h1 h3 h4 m
    exact ⟨by omega, ih gl ((f, x) :: sc) _ _ hg (fun b' hb => by
      rcases List.mem_cons.mp hb with rfl | hb
      · dsimp only; omega
      · exact hs b' hb) c1 hw.2 h1 h2 h3 h4⟩
  | ife a b c ta tb tc iha ihb ihc =>
    intro gl sc k k' hg hs hc hw h1 h2 h3 h4
    obtain ⟨k1, k2, k3, c1, c2, c3, rfl⟩ := hc
    have m2 := pn_mono b tb _ _ c2
    have m3 := pn_mono c tc _ _ c3
    dsimp only at h1 h3 h4
    exact ⟨iha gl sc _ _ hg hs c1 hw.1 (by omega) h2 (by omega) (by omega), ihb gl sc _ _ hg hs c2 hw.2.1 (by omega) h2 (by omega) (by omega), ihc gl sc _ _ hg hs c3 hw.2.2 (by omega) h2 (by omega) (by omega)⟩
  | lt v x a b ta tb iha ihb =>
    intro gl sc k k' hg hs hc hw h1 h2 h3 h4
    obtain ⟨k1, k2, c1, ev, c2, rfl⟩ := hc
    have m2 := pn_mono b tb _ _ c2
    dsimp only at h1 h3 h4 m2
    exact ⟨by omega, iha gl sc _ _ hg hs c1 hw.2.1 (by omega) h2 (by omega) (by omega), ihb gl ((v, x) :: sc) _ _ hg (fun b' hb => by
      rcases List.mem_cons.mp hb with rfl | hb
      · dsimp only; omega
      · exact hs b' hb) c2 hw.2.2 (by omega) h2 (by omega) (by omega)⟩
  | op s a b ta tb iha ihb =>
    intro gl sc k k' hg hs hc hw h1 h2 h3 h4
    obtain ⟨k1, k2, c1, c2, rfl⟩ := hc
    have m2 := pn_mono b tb _ _ c2
    dsimp only at h1 h3 h4
    exact ⟨iha gl sc _ _ hg hs c1 hw.2.1 (by omega) h2 (by omega) (by omega), ihb gl sc _ _ hg hs c2 hw.2.2 (by omega) h2 (by omega) (by omega)⟩
  | site s a b ta tb iha ihb =>
    intro gl sc k k' hg hs hc hw h1 h2 h3 h4
    obtain ⟨k1, k2, c1, es, c2, rfl⟩ := hc
    have m2 := pn_mono b tb _ _ c2
    dsimp only at h1 h3 h4 m2
    exact ⟨by omega, iha gl sc _ _ hg hs c1 hw.1 (by omega) h2 (by omega) (by omega), ihb gl sc _ _ hg hs c2 hw.2 (by omega) h2 (by omega) (by omega)⟩
