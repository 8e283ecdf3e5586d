/-! SITES of the class: where they are, what is applied there -/
theorem px_ss_at {o : Nat} {ins : List Nat} {w : fa_W} {tb : pf_TB} {sb : pf_sT} (t : pt_T) (tt : pt_tw t) : ∀ (h : Int) (a : Nat), pf_N tb t h a → px_P o ins t h a w → pf_S sb h t → ∀ s, pf_ss t s → ∃ i c, i < a + pt_sz t ∧ w (o + 12) s = (i : Int) ∧ tb i = (h, pt_site s (sb s).2.1 (sb s).2.2, c) ∧ (sb s).1 = h := by
  induction t, tt using pt_indh with
  | num v => intro h a hN H hS s k; exact False.elim k
  | var v x => intro h a hN H hS s k; exact False.elim k
  | glo g x => intro h a hN H hS s k; exact False.elim k
  | dead d => intro h a hN H hS s k; exact False.elim k
  | lam f x b wb ih => intro h a hN H hS s k; exact False.elim k
  | ife ta t2 tc wa wb wc iha ihb ihc =>
    intro h a hN H hS s k
    have sz : pt_sz (pt_ife ta t2 tc) = pt_sz ta + pt_sz t2 + pt_sz tc + 1 := rfl
    rcases k with k | k | k
    · obtain ⟨i, c, q, r⟩ := iha _ _ hN.1 H.1 hS.1 s k; exact ⟨i, c, by omega, r⟩
    · obtain ⟨i, c, q, r⟩ := ihb _ _ hN.2.1 H.2.1 hS.2.1 s k; exact ⟨i, c, by omega, r⟩
    · obtain ⟨i, c, q, r⟩ := ihc _ _ hN.2.2.1 H.2.2.1 hS.2.2 s k; exact ⟨i, c, by omega, r⟩
  | lt v x ta t2 wa wb iha ihb =>
    intro h a hN H hS s k
    have sz : pt_sz (pt_let v x ta t2) = pt_sz ta + pt_sz t2 + 1 := rfl
    rcases k with k | k
    · obtain ⟨i, c, q, r⟩ := iha _ _ hN.1 H.1 hS.1 s k; exact ⟨i, c, by omega, r⟩
    · obtain ⟨i, c, q, r⟩ := ihb _ _ hN.2.1 H.2.1 hS.2 s k; exact ⟨i, c, by omega, r⟩
  | op v ta t2 wa wb iha ihb =>
    intro h a hN H hS s k
    have sz : pt_sz (pt_op v ta t2) = pt_sz ta + pt_sz t2 + 1 := rfl
    rcases k with k | k
    · obtain ⟨i, c, q, r⟩ := iha _ _ hN.1 H.1 hS.1 s k; exact ⟨i, c, by omega, r⟩
    · obtain ⟨i, c, q, r⟩ := ihb _ _ hN.2.1 H.2.1 hS.2 s k; exact ⟨i, c, by omega, r⟩
  | site v ta t2 wa wb iha ihb =>
    intro h a hN H hS s k
    have sz : pt_sz (pt_site v ta t2) = pt_sz ta + pt_sz t2 + 1 := rfl
    rcases k with k | k | k
    · rw [k]
      refine ⟨a + pt_sz ta + pt_sz t2, a, by omega, H.2.2.2, ?_, ?_⟩
      · rw [hS.2.2]; exact hN.2.2
      · rw [hS.2.2]
    · obtain ⟨i, c, q, r⟩ := iha _ _ hN.1 H.1 hS.1 s k; exact ⟨i, c, by omega, r⟩
    · obtain ⟨i, c, q, r⟩ := ihb _ _ hN.2.1 H.2.1 hS.2.1 s k; exact ⟨i, c, by omega, r⟩
theorem px_sites {o nd nf nv ns si : Nat} {fb : Nat → pt_T} {sb : pf_sT} {t : pt_T} {ins : List Nat} {tb : pf_TB} {w : fa_W} (tt : pt_tw t) (tf : ∀ f, pt_tw (fb f)) (hT : pf_XT o nd nf nv ns fb sb t ins tb w) (hs : ∀ s, s < si → ((sb s).1 = -1 ∧ pf_ss t s) ∨ ∃ f, f < nf ∧ (sb s).1 = (f : Int) ∧ pf_ss (fb f) s) : ∀ s, s < si → ∃ i c, i < nd ∧ w (o + 12) s = (i : Int) ∧ tb i = ((sb s).1, pt_site s (sb s).2.1 (sb s).2.2, c) := by
  obtain ⟨h1, h2, c, h3, h4, h5⟩ := hT
  have at' : ∀ (u : pt_T) (tu : pt_tw u) (h : Int) (a : Nat), pf_N tb u h a → a + pt_sz u ≤ nd → px_P o ins u h a w ∧ pf_S sb h u := fun u tu h a hN hn => by
    have r := pf_N_root u tu h a hN
    have pp := pt_sz_pos u
    obtain ⟨_, _, _, q1, _, _, q2, _⟩ := h1 (a + pt_sz u - 1) (by omega)
    rw [r] at q1 q2
    exact ⟨q1, q2⟩
  intro s hsi
  rcases hs s hsi with ⟨e, k⟩ | ⟨f, fl, e, k⟩
  · obtain ⟨p, q⟩ := at' t tt _ _ h5 h3
    obtain ⟨i, c', q1, q2, q3, q4⟩ := px_ss_at t tt _ _ h5 p q s k
    exact ⟨i, c', by omega, q2, by rw [e]; exact q3⟩
  · obtain ⟨d, d1, d2, d3⟩ := h2 f fl
    obtain ⟨p, q⟩ := at' (fb f) (tf f) _ _ d3 d1
    obtain ⟨i, c', q1, q2, q3, q4⟩ := px_ss_at (fb f) (tf f) _ _ d3 p q s k
    exact ⟨i, c', by omega, q2, by rw [e]; exact q3⟩
/-- what is applied at a SITE, by the class -/
theorem px_applied {o oP nd nf nv ns : Nat} {fb : Nat → pt_T} {sb : pf_sT} {t : pt_T} {ins : List Nat} {tb : pf_TB} {w : fa_W} {z : pf_s} {b : Bool} {s i c : Nat} {h : Int} {ta t2 : pt_T} (ho : px_Fo o) (hp : px_po oP) (h100 : nd ≤ 100) (hT : pf_XT oP nd nf nv ns fb sb t ins tb w) (hz : px_pz oP nd w) (hc : px_xc o nd z b w) (hlz : px_lz nd nf nv fb t ins tb z) (hi : i < nd) (e : tb i = (h, pt_site s ta t2, c)) : fm_Flow_applied o oP (i : Int) w = ((z.1 (c + pt_sz ta - 1) : Nat) : Int) ∧ (∀ f, pf_b z.1 (c + pt_sz ta - 1) f ↔ pf_lo z h ∧ pf_k (pf_lH fb t) (pf_lR fb t) ta f) ∧ fm_Program_owner oP (i : Int) w = h ∧ (h = -1 ∨ ∃ f : Nat, f < nf ∧ h = (f : Int)) := by
  obtain ⟨tw, sz, hN, qP, qW, qT, qS, qD⟩ := hT.1 i hi
  rw [e] at tw sz hN qP qD
  dsimp only at tw sz hN qP qD
  have ea : pt_sz (pt_site s ta t2) = pt_sz ta + pt_sz t2 + 1 := rfl
  have pa := pt_sz_pos ta
  have H := qP.2.2.1
  rw [show c + pt_sz ta + pt_sz t2 = i by omega] at H
  obtain ⟨p1, p2, p3, p4, p5, p6⟩ := px_rd hp hz H hi
  have r := pf_N_root ta tw.1 _ _ hN.1
  have il : c + pt_sz ta - 1 < nd := by omega
  refine ⟨?_, fun f => ?_, p3, qD.1⟩
  · unfold fm_Flow_applied
    rw [p4]
    exact px_cget (nf := nf) ho h100 hc il
  · have l1 := hlz.2.2.2.1 _ il
    have l2 := hlz.2.2.2.2 _ il
    rw [r] at l1 l2
    dsimp only at l1 l2
    by_cases hl : pf_lo z h
    · exact (l1 hl f).trans ⟨fun y => ⟨hl, y⟩, fun y => y.2⟩
    · exact ⟨fun y => absurd y (l2 hl f), fun y => absurd y.1 hl⟩
