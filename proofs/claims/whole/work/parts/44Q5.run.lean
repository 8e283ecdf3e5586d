/-! what a VAR has, what comes of an EXPR: nothing where there is no CALL -/
def lw_l24 : pt_T → Prop := pt_rec (fun _ => True) (fun _ _ => True) (fun _ _ => True) (fun _ => True) (fun _ _ _ q => q) (fun _ _ _ qa qb qc => qa ∧ qb ∧ qc) (fun v _ _ _ qa qb => 24 ≤ v ∧ qa ∧ qb) (fun _ _ _ qa qb => qa ∧ qb) (fun _ _ _ qa qb => qa ∧ qb) True
theorem lw_l24_of {B : Nat} (t : pt_T) (tt : pt_tw t) : ∀ (k k' : pk_K), pn_can B t k k' → lw_l24 t := by
  induction t, tt using pt_indh with
  | num v => intro k k' _; trivial
  | var v x => intro k k' _; trivial
  | glo g x => intro k k' _; trivial
  | dead d => intro k k' _; trivial
  | lam f0 x b tb ih => intro k k' h; obtain ⟨_, k1, h1, _⟩ := h; exact ih _ _ h1
  | ife a b c ta tb tc iha ihb ihc => intro k k' h; obtain ⟨k1, k2, k3, h1, h2, h3, _⟩ := h; exact ⟨iha _ _ h1, ihb _ _ h2, ihc _ _ h3⟩
  | lt v x a b ta tb iha ihb => intro k k' h; obtain ⟨k1, k2, h1, e, h2, _⟩ := h; exact ⟨by omega, iha _ _ h1, ihb _ _ h2⟩
  | op s a b ta tb iha ihb => intro k k' h; obtain ⟨k1, k2, h1, h2, _⟩ := h; exact ⟨iha _ _ h1, ihb _ _ h2⟩
  | site s a b ta tb iha ihb => intro k k' h; obtain ⟨k1, k2, h1, _, h2, _⟩ := h; exact ⟨iha _ _ h1, ihb _ _ h2⟩
theorem lw_l24_sub {B : Nat} {fb : Nat → pt_T} (t : pt_T) (tt : pt_tw t) : ∀ (k k' : pk_K), pn_can B t k k' → pf_T fb t → lw_l24 t → ∀ f, B + k.1 ≤ f → f < B + k'.1 → lw_l24 (fb f) := by
  induction t, tt using pt_indh with
  | num v => intro k k' h _ _ f a b; cases h; dsimp only at b; omega
  | var v x => intro k k' h _ _ f a b; cases h; dsimp only at b; omega
  | glo g x => intro k k' h _ _ f a b; cases h; dsimp only at b; omega
  | dead d => intro k k' h _ _ f a b; cases h.2; dsimp only at b; omega
  | lam f0 x b tb ih =>
    intro k k' h hT hl f p q
    obtain ⟨ef, k1, h1, rfl⟩ := h
    by_cases z : f = f0
    · rw [z, hT.2]; exact hl
    · exact ih _ _ h1 hT.1 hl f (by dsimp only; omega) q
  | ife a b c ta tb tc iha ihb ihc =>
    intro k k' h hT hl f p q
    obtain ⟨k1, k2, k3, h1, h2, h3, rfl⟩ := h
    by_cases z : f < B + k1.1
    · exact iha _ _ h1 hT.1 hl.1 f p z
    · by_cases z2 : f < B + k2.1
      · exact ihb _ _ h2 hT.2.1 hl.2.1 f (by omega) z2
      · exact ihc _ _ h3 hT.2.2 hl.2.2 f (by omega) q
  | lt v x a b ta tb iha ihb =>
    intro k k' h hT hl f p q
    obtain ⟨k1, k2, h1, _, h2, rfl⟩ := h
    by_cases z : f < B + k1.1
    · exact iha _ _ h1 hT.1 hl.2.1 f p z
    · exact ihb _ _ h2 hT.2 hl.2.2 f (by dsimp only; omega) q
  | op s a b ta tb iha ihb =>
    intro k k' h hT hl f p q
    obtain ⟨k1, k2, h1, h2, rfl⟩ := h
    by_cases z : f < B + k1.1
    · exact iha _ _ h1 hT.1 hl.1 f p z
    · exact ihb _ _ h2 hT.2 hl.2 f (by omega) q
  | site s a b ta tb iha ihb =>
    intro k k' h hT hl f p q
    obtain ⟨k1, k2, h1, _, h2, rfl⟩ := h
    by_cases z : f < B + k1.1
    · exact iha _ _ h1 hT.1 hl.1 f p z
    · exact ihb _ _ h2 hT.2 hl.2 f (by dsimp only; omega) q
theorem lw_l24_fb {gs : ps_G} {t : pt_T} {la li si nd : Nat} {fb : Nat → pt_T} {sb : pf_sT} (hV : pn_V gs t la li si nd) (hG : pf_G gs t la li si fb sb) : lw_l24 t ∧ ∀ f, f < gs.length + la → lw_l24 (fb f) := by
  obtain ⟨v1, v2, v3, v4, v5, v6, v7, k1, v8, v9⟩ := id hV
  obtain ⟨K, K', i1, _⟩ := pn_items gs [] _ _ _ v8 v6 v7 v9
  refine ⟨lw_l24_of t v6 _ _ v9, fun f hf => ?_⟩
  by_cases c : f < gs.length
  · rw [hG.1 f c]
    exact lw_l24_of _ (i1 f (by omega)).1 _ _ (i1 f (by omega)).2.1
  · obtain ⟨g, g1, ka, kb, g2, g3, g4⟩ := pn_lam_item gs _ _ _ _ v8 v9 f (by dsimp only; omega) (by dsimp only; exact hf)
    exact lw_l24_sub _ (i1 g g1).1 _ _ g2 (pf_GT hG g g1) (lw_l24_of _ (i1 g g1).1 _ _ g2) f g3 g4
theorem lw_c24 {H R : Nat → Nat → Prop} {L : Nat → Prop} (t : pt_T) (tt : pt_tw t) : lw_l24 t → pf_c H R L t → pf_c (fun v g => H v g ∧ (v < 24 → L v)) R L t := by
  have mono := fun (u : pt_T) (tu : pt_tw u) f (h : pf_k (fun v g => H v g ∧ (v < 24 → L v)) R u f) => pf_k_mono (H' := H) (R' := R) (fun v f q => q.1) (fun v f q => q) u tu f h
  induction t, tt using pt_indh with
  | num v => intro _ _; trivial
  | var v x => intro _ _; trivial
  | glo g x => intro _ _; trivial
  | dead d => intro _ _; trivial
  | lam f0 x b tb ih => intro _ _; trivial
  | ife a b c ta tb tc iha ihb ihc => intro hl h; exact ⟨iha hl.1 h.1, ihb hl.2.1 h.2.1, ihc hl.2.2 h.2.2⟩
  | lt v x a b ta tb iha ihb =>
    intro hl h
    exact ⟨iha hl.2.1 h.1, ihb hl.2.2 h.2.1, fun f q => ⟨h.2.2 f (mono a ta f q), fun z => absurd z (by have := hl.1; omega)⟩⟩
  | op s a b ta tb iha ihb => intro hl h; exact ⟨iha hl.1 h.1, ihb hl.2 h.2⟩
  | site s a b ta tb iha ihb =>
    intro hl h
    refine ⟨iha hl.1 h.1, ihb hl.2 h.2.1, fun g q => ?_⟩
    have hg := h.2.2 g (mono a ta g q)
    exact ⟨hg.1, fun f q2 => ⟨hg.2 f (mono b tb f q2), fun _ => hg.1⟩⟩
/-- a FUNCTION's VAR has nothing where it is not CALLED -/
theorem lw_lH_L {gs : ps_G} {t : pt_T} {la li si nd : Nat} {fb : Nat → pt_T} {sb : pf_sT} (hV : pn_V gs t la li si nd) (hG : pf_G gs t la li si fb sb) (hL : ∀ f, pf_lL fb t f → f < gs.length + la) {f g : Nat} (hf : f < 24) (h : pf_lH fb t f g) : pf_lL fb t f := by
  obtain ⟨l1, l2⟩ := lw_l24_fb hV hG
  have C := pf_least (fb := fb) hG.2.2.2.1.1 hG.2.1
  have C' : pf_C fb t (fun v g => pf_lH fb t v g ∧ (v < 24 → pf_lL fb t v)) (pf_lR fb t) (pf_lL fb t) := ⟨lw_c24 t hG.2.2.2.1.1 l1 C.1, fun f hf => ⟨lw_c24 (fb f) (hG.2.1 f) (l2 f (hL f hf)) (C.2 f hf).1, fun g q => (C.2 f hf).2 g (pf_k_mono (fun v f q => q.1) (fun v f q => q) (fb f) (hG.2.1 f) g q)⟩⟩
  exact (h _ _ _ C').2 hf
theorem lw_cR {H R R' : Nat → Nat → Prop} {L : Nat → Prop} (hR : ∀ f g, R' f g → R f g) (t : pt_T) (tt : pt_tw t) : pf_c H R L t → pf_c H R' L t := by
  have mono := fun (u : pt_T) (tu : pt_tw u) f (h : pf_k H R' u f) => pf_k_mono (H' := H) (R' := R) (fun v f q => q) hR u tu f h
  induction t, tt using pt_indh with
  | num v => intro _; trivial
  | var v x => intro _; trivial
  | glo g x => intro _; trivial
  | dead d => intro _; trivial
  | lam f0 x b tb ih => intro _; trivial
  | ife a b c ta tb tc iha ihb ihc => intro h; exact ⟨iha h.1, ihb h.2.1, ihc h.2.2⟩
  | lt v x a b ta tb iha ihb => intro h; exact ⟨iha h.1, ihb h.2.1, fun f q => h.2.2 f (mono a ta f q)⟩
  | op s a b ta tb iha ihb => intro h; exact ⟨iha h.1, ihb h.2⟩
  | site s a b ta tb iha ihb =>
    intro h
    refine ⟨iha h.1, ihb h.2.1, fun g q => ?_⟩
    have hg := h.2.2 g (mono a ta g q)
    exact ⟨hg.1, fun f q2 => hg.2 f (mono b tb f q2)⟩
/-- what comes of a FUNCTION's EXPR, if it is CALLED -/
theorem lw_lR_k {fb : Nat → pt_T} {t : pt_T} (tt : pt_tw t) (tf : ∀ f, pt_tw (fb f)) (f g : Nat) : pf_lR fb t f g ↔ pf_lL fb t f ∧ pf_k (pf_lH fb t) (pf_lR fb t) (fb f) g := by
  have C := pf_least (fb := fb) tt tf
  refine ⟨fun h => ?_, fun h => (C.2 f h.1).2 g h.2⟩
  have sub : ∀ f g, (pf_lL fb t f ∧ pf_k (pf_lH fb t) (pf_lR fb t) (fb f) g) → pf_lR fb t f g := fun f g h => (C.2 f h.1).2 g h.2
  have C' : pf_C fb t (pf_lH fb t) (fun f g => pf_lL fb t f ∧ pf_k (pf_lH fb t) (pf_lR fb t) (fb f) g) (pf_lL fb t) := ⟨lw_cR sub t tt C.1, fun f hf => ⟨lw_cR sub (fb f) (tf f) (C.2 f hf).1, fun g q => ⟨hf, pf_k_mono (fun v f q => q) sub (fb f) (tf f) g q⟩⟩⟩
  exact h _ _ _ C'
