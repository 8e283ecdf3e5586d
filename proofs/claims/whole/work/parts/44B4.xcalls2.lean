/-! CALLS as they are told, by the class -/
def pf_ca (fb : Nat → pt_T) (t : pt_T) (sb : pf_sT) (si f g : Nat) : Prop := pf_lL fb t f ∧ ∃ s, s < si ∧ (sb s).1 = (f : Int) ∧ pf_k (pf_lH fb t) (pf_lR fb t) (sb s).2.1 g
theorem px_calls {o oP nd nf nv ns si : Nat} {fb : Nat → pt_T} {sb : pf_sT} {t : pt_T} {ins : List Nat} {tb : pf_TB} {w : fa_W} {z : pf_s} {b : Bool} (ho : px_Fo o) (hp : px_po oP) (hd : oP + 26 < o) (h24 : nf ≤ 24) (h100 : nd ≤ 100) (hsi : si ≤ 100) (tt : pt_tw t) (tf : ∀ f, pt_tw (fb f)) (hT : pf_XT oP nd nf nv ns fb sb t ins tb w) (hs : ∀ s, s < si → ((sb s).1 = -1 ∧ pf_ss t s) ∨ ∃ f, f < nf ∧ (sb s).1 = (f : Int) ∧ pf_ss (fb f) s) (hz : px_pz oP nd w) (hc : px_xc o nd z b w) (ok : pf_ok nf z) (hlz : px_lz nd nf nv fb t ins tb z) (h11 : w (oP + 11) 1 = ((100 : Nat) : Int)) (h14 : w oP 14 = (nf : Int)) (h15 : w oP 15 = (si : Int)) : ∃ (w' : fa_W) (cal : Nat → Nat), fm_Flow_listCalls o oP w = some w' ∧ px_fc o w w' ∧ w' (o + 5) 1 = (nf : Int) ∧ (∀ f, f < nf → w' (o + 6) f = (cal f : Int)) ∧ (∀ f, cal f < 2 ^ nf) ∧ ∀ f, f < nf → ∀ g, (cal f).testBit g = true ↔ pf_ca fb t sb si f g := by
  have hst := px_sites tt tf hT hs
  have ex : ∃ (ix cx : Nat → Nat), ∀ s, s < si → ix s < nd ∧ w (oP + 12) s = (ix s : Int) ∧ tb (ix s) = ((sb s).1, pt_site s (sb s).2.1 (sb s).2.2, cx s) := by
    refine ⟨fun s => (w (oP + 12) s).toNat, fun s => (tb (w (oP + 12) s).toNat).2.2, fun s hs => ?_⟩
    obtain ⟨i, c, i1, i2, i3⟩ := hst s hs
    dsimp only
    rw [i2, Int.toNat_natCast, i3]
    exact ⟨i1, rfl, rfl⟩
  obtain ⟨ix, cx, hix⟩ := ex
  have hap := fun s hs => px_applied ho hp h100 hT hz hc hlz (hix s hs).1 (hix s hs).2.2
  have hap2 : ∀ s, s < si → ∀ w', px_fc o w w' → fm_Flow_applied o oP (ix s : Int) w' = ((z.1 (cx s + pt_sz (sb s).2.1 - 1) : Nat) : Int) ∧ fm_Program_owner oP (ix s : Int) w' = (sb s).1 := fun s hs w' hf => by
    have vo : px_vo oP w w' := fun i j p q => hf i j (by omega) (by omega)
    have e : ∀ i j, i ≤ oP + 26 → w' i j = w i j := fun i j p => hf i j (by omega) (by omega)
    obtain ⟨z1, z2, z3, z4, z5, z6⟩ := hz
    have hz' : px_pz oP nd w' := ⟨(e _ _ (by omega)).trans z1, (e _ _ (by omega)).trans z2, (e _ _ (by omega)).trans z3, (e _ _ (by omega)).trans z4, (e _ _ (by omega)).trans z5, z6⟩
    obtain ⟨⟨c1, c2⟩, c3, c4, c5, c6, c7⟩ := hc
    have hc' : px_xc o nd z b w' := ⟨⟨(hf _ _ (by omega) (by omega)).trans c1, (hf _ _ (by omega) (by omega)).trans c2⟩, fun i hi => (hf _ _ (by omega) (by omega)).trans (c3 i hi), fun v hv => (hf _ _ (by omega) (by omega)).trans (c4 v hv), (hf _ _ (by omega) (by omega)).trans c5, (hf _ _ (by omega) (by omega)).trans c6, (hf _ _ (by omega) (by omega)).trans c7⟩
    have := px_applied ho hp h100 (pf_XT_ob vo hT) hz' hc' hlz (hix s hs).1 (hix s hs).2.2
    exact ⟨this.1, this.2.2.1⟩
  obtain ⟨w', cal, q1, q2, q3, q4, q5, q6⟩ := px_listCalls (nf := nf) (si := si) (ix := ix) (ap := fun s => z.1 (cx s + pt_sz (sb s).2.1 - 1)) (ow := fun s => (sb s).1) ho hp hd h24 hsi h11 h14 h15 (fun s hs => (hix s hs).2.1) (fun s hs => ⟨ok.1 _, (hap s hs).2.2.2, hap2 s hs⟩)
  refine ⟨w', cal, q1, q2, q3, q4, q5, fun f hf g => (q6 f hf g).trans ⟨fun ⟨s, a1, a2, a3⟩ => ?_, fun ⟨l, s, a1, a2, a3⟩ => ⟨s, a1, a2, ?_⟩⟩⟩
  · obtain ⟨k1, k2⟩ := ((hap s a1).2.1 g).mp a3
    rw [a2] at k1
    rcases k1 with k1 | ⟨f', k1, k3⟩
    · omega
    · have : f' = f := by omega
      rw [this, hlz.2.1] at k3
      exact ⟨k3, s, a1, a2, k2⟩
  · refine ((hap s a1).2.1 g).mpr ⟨Or.inr ⟨f, a2, ?_⟩, a3⟩
    rw [hlz.2.1]
    exact l
