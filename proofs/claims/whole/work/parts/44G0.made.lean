/-! what comes is made -/
theorem pf_ko {H R : Nat → Nat → Prop} {M : Nat → Prop} (hH : ∀ v f, H v f → M f) (hR : ∀ v f, R v f → M f) (t : pt_T) (tt : pt_tw t) : (∀ f, pf_o t f → M f) → ∀ f, pf_k H R t f → M f := by
  induction t, tt using pt_indh with
  | num v => intro _ f h; exact h.elim
  | var v x => intro _ f h; exact hH v f h
  | glo g x => intro o f h; exact o f h
  | dead d => intro _ f h; exact h.elim
  | lam g x b tb ih => intro o f h; exact o f h
  | ife a b c ta tb tc iha ihb ihc =>
    intro o f h
    rcases h with h | h
    · exact ihb (fun f q => o f (Or.inr (Or.inl q))) f h
    · exact ihc (fun f q => o f (Or.inr (Or.inr q))) f h
  | lt v x a b ta tb iha ihb => intro o f h; exact ihb (fun f q => o f (Or.inr q)) f h
  | op s a b ta tb iha ihb => intro _ f h; exact h.elim
  | site s a b ta tb iha ihb =>
    intro _ f h
    obtain ⟨g, _, h2⟩ := h
    exact hR g f h2
theorem pf_oc {fb : Nat → pt_T} {t0 : pt_T} {M : Nat → Prop} (s : pt_T) (ts : pt_tw s) : (∀ f, pf_o s f → M f) → pf_c (pf_lH fb t0) (pf_lR fb t0) (pf_lL fb t0) s → pf_c (fun v f => pf_lH fb t0 v f ∧ M f) (fun v f => pf_lR fb t0 v f ∧ M f) (fun f => pf_lL fb t0 f ∧ M f) s := by
  have dn : ∀ (u : pt_T), pt_tw u → (∀ f, pf_o u f → M f) → ∀ f, pf_k (fun v f => pf_lH fb t0 v f ∧ M f) (fun v f => pf_lR fb t0 v f ∧ M f) u f → pf_k (pf_lH fb t0) (pf_lR fb t0) u f ∧ M f := fun u tu o f q => ⟨pf_k_mono (fun _ _ q => q.1) (fun _ _ q => q.1) u tu f q, pf_ko (fun _ _ q => q.2) (fun _ _ q => q.2) u tu o f q⟩
  induction s, ts using pt_indh with
  | num v => intro _ _; trivial
  | var v x => intro _ _; trivial
  | glo g x => intro _ _; trivial
  | dead d => intro _ _; trivial
  | lam g x b tb ih => intro _ _; trivial
  | ife a b c ta tb tc iha ihb ihc =>
    intro o h
    exact ⟨iha (fun f q => o f (Or.inl q)) h.1, ihb (fun f q => o f (Or.inr (Or.inl q))) h.2.1, ihc (fun f q => o f (Or.inr (Or.inr q))) h.2.2⟩
  | lt v x a b ta tb iha ihb =>
    intro o h
    refine ⟨iha (fun f q => o f (Or.inl q)) h.1, ihb (fun f q => o f (Or.inr q)) h.2.1, fun f q => ?_⟩
    have z := dn a ta (fun f q => o f (Or.inl q)) f q
    exact ⟨h.2.2 f z.1, z.2⟩
  | op s a b ta tb iha ihb =>
    intro o h
    exact ⟨iha (fun f q => o f (Or.inl q)) h.1, ihb (fun f q => o f (Or.inr q)) h.2⟩
  | site s a b ta tb iha ihb =>
    intro o h
    refine ⟨iha (fun f q => o f (Or.inl q)) h.1, ihb (fun f q => o f (Or.inr q)) h.2.1, fun g q => ?_⟩
    have z := dn a ta (fun f q => o f (Or.inl q)) g q
    have y := h.2.2 g z.1
    refine ⟨⟨y.1, z.2⟩, fun f q2 => ?_⟩
    have x := dn b tb (fun f q => o f (Or.inr q)) f q2
    exact ⟨y.2 f x.1, x.2⟩
/-- what a VAR has, what comes of a FUNCTION, who is CALLED: all is made -/
theorem pf_lM {fb : Nat → pt_T} {t : pt_T} (tt : pt_tw t) (tf : ∀ f, pt_tw (fb f)) : (∀ v f, pf_lH fb t v f → pf_M fb t f) ∧ (∀ v f, pf_lR fb t v f → pf_M fb t f) ∧ ∀ f, pf_lL fb t f → pf_M fb t f := by
  have hC := pf_least tt tf
  have hC' : pf_C fb t (fun v f => pf_lH fb t v f ∧ pf_M fb t f) (fun v f => pf_lR fb t v f ∧ pf_M fb t f) (fun f => pf_lL fb t f ∧ pf_M fb t f) := by
    refine ⟨pf_oc t tt (fun f q => Or.inl q) hC.1, fun f hf => ?_⟩
    have o : ∀ g, pf_o (fb f) g → pf_M fb t g := fun g q => Or.inr ⟨f, hf.1, q⟩
    refine ⟨pf_oc (fb f) (tf f) o (hC.2 f hf.1).1, fun g q => ?_⟩
    exact ⟨(hC.2 f hf.1).2 g (pf_k_mono (fun _ _ q => q.1) (fun _ _ q => q.1) (fb f) (tf f) g q), pf_ko (fun _ _ q => q.2) (fun _ _ q => q.2) (fb f) (tf f) o g q⟩
  exact ⟨fun v f h => (h _ _ _ hC').2, fun v f h => (h _ _ _ hC').2, fun f h => (h _ _ _ hC').2⟩
theorem pf_so {sb : pf_sT} {h : Int} (t : pt_T) (tt : pt_tw t) : pf_S sb h t → ∀ s, pf_ss t s → (∀ g, pf_o (sb s).2.1 g → pf_o t g) ∧ ∀ g, pf_o (sb s).2.2 g → pf_o t g := by
  induction t, tt using pt_indh with
  | num v => intro _ s q; exact q.elim
  | var v x => intro _ s q; exact q.elim
  | glo g x => intro _ s q; exact q.elim
  | dead d => intro _ s q; exact q.elim
  | lam g x b tb ih => intro _ s q; exact q.elim
  | ife a b c ta tb tc iha ihb ihc =>
    intro S s q
    rcases q with q | q | q
    · have z := iha S.1 s q; exact ⟨fun g y => Or.inl (z.1 g y), fun g y => Or.inl (z.2 g y)⟩
    · have z := ihb S.2.1 s q; exact ⟨fun g y => Or.inr (Or.inl (z.1 g y)), fun g y => Or.inr (Or.inl (z.2 g y))⟩
    · have z := ihc S.2.2 s q; exact ⟨fun g y => Or.inr (Or.inr (z.1 g y)), fun g y => Or.inr (Or.inr (z.2 g y))⟩
  | lt v x a b ta tb iha ihb =>
    intro S s q
    rcases q with q | q
    · have z := iha S.1 s q; exact ⟨fun g y => Or.inl (z.1 g y), fun g y => Or.inl (z.2 g y)⟩
    · have z := ihb S.2 s q; exact ⟨fun g y => Or.inr (z.1 g y), fun g y => Or.inr (z.2 g y)⟩
  | op r a b ta tb iha ihb =>
    intro S s q
    rcases q with q | q
    · have z := iha S.1 s q; exact ⟨fun g y => Or.inl (z.1 g y), fun g y => Or.inl (z.2 g y)⟩
    · have z := ihb S.2 s q; exact ⟨fun g y => Or.inr (z.1 g y), fun g y => Or.inr (z.2 g y)⟩
  | site r a b ta tb iha ihb =>
    intro S s q
    rcases q with q | q | q
    · rw [q, S.2.2]; exact ⟨fun g y => Or.inl y, fun g y => Or.inr y⟩
    · have z := iha S.1 s q; exact ⟨fun g y => Or.inl (z.1 g y), fun g y => Or.inl (z.2 g y)⟩
    · have z := ihb S.2.1 s q; exact ⟨fun g y => Or.inr (z.1 g y), fun g y => Or.inr (z.2 g y)⟩
/-- what is applied at a SITE is made -/
theorem pf_A_M {gs : ps_G} {t : pt_T} {la li si : Nat} {fb : Nat → pt_T} {sb : pf_sT} (hG : pf_G gs t la li si fb sb) {nf s a : Nat} (hs : s < si) (h : (pf_A fb t sb nf s).testBit a = true) : a < nf ∧ pf_M fb t a := by
  obtain ⟨g1, g2, g3, ⟨g4, g5, g6, g7⟩, g8⟩ := hG
  obtain ⟨l1, l2, l3⟩ := pf_lM g4 g2
  obtain ⟨h1, h2, h3⟩ := (pf_num_bit _ a nf).mp h
  refine ⟨h1, ?_⟩
  rcases g8 s hs with ⟨q1, q2⟩ | ⟨f, q1, q2, q3⟩
  · have o := (pf_so t g4 g7 s q2).1
    have tw := (pf_ss_W t g4 g6 g7 s q2).2.1
    exact pf_ko l1 l2 _ tw (fun g y => Or.inl (o g y)) a h3
  · obtain ⟨w1, w2, w3⟩ := g3 f q1
    have o := (pf_so (fb f) (g2 f) w3 s q3).1
    have tw := (pf_ss_W (fb f) (g2 f) w2 w3 s q3).2.1
    have lf : pf_lL fb t f := by
      rcases h2 with h2 | ⟨g, z1, z2⟩
      · omega
      · rw [show f = g by omega]; exact z2
    exact pf_ko l1 l2 _ tw (fun g y => Or.inr ⟨f, lf, o g y⟩) a h3
