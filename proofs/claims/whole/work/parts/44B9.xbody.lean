/-! what comes of MAIN and of a FUNCTION, by the class -/
theorem px_escapes {o oP nd nf nv ns : Nat} {fb : Nat → pt_T} {sb : pf_sT} {t : pt_T} {ins : List Nat} {tb : pf_TB} {w : fa_W} {z : pf_s} {b : Bool} (ho : px_Fo o) (h100 : nd ≤ 100) (tt : pt_tw t) (hT : pf_XT oP nd nf nv ns fb sb t ins tb w) (hc : px_xc o nd z b w) (ok : pf_ok nf z) (hlz : px_lz nd nf nv fb t ins tb z) : ∃ e : Nat, fm_Flow_escapes o oP w = (e : Int) ∧ e < 2 ^ nf ∧ ∀ f, e.testBit f = true ↔ pf_k (pf_lH fb t) (pf_lR fb t) t f := by
  obtain ⟨_, _, c, c1, c2, c3⟩ := hT
  have pp := pt_sz_pos t
  have il : c + pt_sz t - 1 < nd := by omega
  refine ⟨z.1 (c + pt_sz t - 1), ?_, ok.1 _, fun f => ?_⟩
  · unfold fm_Flow_escapes
    rw [c2]
    exact px_cget (nf := nf) ho h100 hc il
  · have l1 := hlz.2.2.2.1 _ il
    have r := pf_N_root t tt _ _ c3
    rw [r] at l1
    exact l1 (Or.inl rfl) f
theorem px_bodyOf {o oP nd nf nv ns f : Nat} {fb : Nat → pt_T} {sb : pf_sT} {t : pt_T} {ins : List Nat} {tb : pf_TB} {w : fa_W} {z : pf_s} {b : Bool} (ho : px_Fo o) (hp : px_po oP) (h24 : nf ≤ 24) (h100 : nd ≤ 100) (tf : ∀ f, pt_tw (fb f)) (hT : pf_XT oP nd nf nv ns fb sb t ins tb w) (h19 : w (oP + 19) 1 = ((24 : Nat) : Int)) (hc : px_xc o nd z b w) (ok : pf_ok nf z) (hlz : px_lz nd nf nv fb t ins tb z) (hf : f < nf) : ∃ e : Nat, fm_Flow_comesOfBody o oP (f : Int) w = (e : Int) ∧ e < 2 ^ nf ∧ ∀ g, e.testBit g = true ↔ pf_lL fb t f ∧ pf_k (pf_lH fb t) (pf_lR fb t) (fb f) g := by
  obtain ⟨_, h2, _⟩ := hT
  obtain ⟨c, c1, c2, c3⟩ := h2 f hf
  have pp := pt_sz_pos (fb f)
  have il : c + pt_sz (fb f) - 1 < nd := by omega
  have r9 := hp.1.2.2.2.2.2.2.2.2.2.1
  have s9 := hp.2.1.2.2.2.2.2.2.2.2.2.1
  have m9 := hp.2.2.2.2.2.2.2.2.2.2.2.1
  refine ⟨z.1 (c + pt_sz (fb f) - 1), ?_, ok.1 _, fun g => ?_⟩
  · unfold fm_Flow_comesOfBody
    rw [r9, pb_at h19 (by omega) (by rw [m9]; exact Nat.le_refl _), s9, show oP + 19 + 1 = oP + 20 by omega, c2]
    exact px_cget (nf := nf) ho h100 hc il
  · have l1 := hlz.2.2.2.1 _ il
    have l2 := hlz.2.2.2.2 _ il
    have r := pf_N_root _ (tf f) _ _ c3
    rw [r] at l1 l2
    dsimp only at l1 l2
    have lo : pf_lo z (f : Int) ↔ pf_lL fb t f := by
      rw [← hlz.2.1]
      exact ⟨fun y => by
        rcases y with y | ⟨g, y1, y2⟩
        · omega
        · have : g = f := by omega
          rw [← this]; exact y2, fun y => Or.inr ⟨f, rfl, y⟩⟩
    by_cases hl : pf_lo z (f : Int)
    · exact (l1 hl g).trans ⟨fun y => ⟨lo.mp hl, y⟩, fun y => y.2⟩
    · exact ⟨fun y => absurd y (l2 hl g), fun y => absurd (lo.mpr y.1) hl⟩
