/-! what comes at SITES, as numbers, on both sides -/
def pf_Lo (fb : Nat → pt_T) (t : pt_T) (h : Int) : Prop := h = -1 ∨ ∃ f : Nat, h = (f : Int) ∧ pf_lL fb t f
noncomputable def pf_lkb (fb : Nat → pt_T) (t : pt_T) (sb : pf_sT) (s : Nat) : Bool := @decide (pf_Lo fb t (sb s).1) (Classical.propDecidable _)
noncomputable def pf_A (fb : Nat → pt_T) (t : pt_T) (sb : pf_sT) (nf s : Nat) : Nat := pf_num (fun f => pf_Lo fb t (sb s).1 ∧ pf_k (pf_lH fb t) (pf_lR fb t) (sb s).2.1 f) nf
noncomputable def pf_B (fb : Nat → pt_T) (t : pt_T) (sb : pf_sT) (nf s : Nat) : Nat := pf_num (fun f => pf_Lo fb t (sb s).1 ∧ pf_k (pf_lH fb t) (pf_lR fb t) (sb s).2.2 f) nf
noncomputable def pf_Cn (fb : Nat → pt_T) (t : pt_T) (sb : pf_sT) (nf s : Nat) : Nat := pf_num (fun f => pf_Lo fb t (sb s).1 ∧ ∃ g, pf_k (pf_lH fb t) (pf_lR fb t) (sb s).2.1 g ∧ pf_lR fb t g f) nf
theorem pf_A_0 {fb : Nat → pt_T} {t : pt_T} {sb : pf_sT} {nf s : Nat} (h : pf_lkb fb t sb s = false) : pf_A fb t sb nf s = 0 := by
  refine Nat.eq_of_testBit_eq (fun i => ?_)
  rw [Nat.zero_testBit]
  cases e : (pf_A fb t sb nf s).testBit i with
  | false => rfl
  | true =>
    have := ((pf_num_bit _ i nf).mp e).2.1
    unfold pf_lkb at h
    exact absurd this (@of_decide_eq_false _ (Classical.propDecidable _) h)
/-- the class's SITES -/
def px_SV (o oP nf si : Nat) (fb : Nat → pt_T) (t : pt_T) (sb : pf_sT) (w : fa_W) : Prop := w oP 15 = (si : Int) ∧ ∀ s, s < si → ∃ i : Nat, fr_at (fa_rf oP 5) (s : Int) w = (i : Int) ∧ fm_Flow_applied o oP (i : Int) w = ((pf_A fb t sb nf s : Nat) : Int) ∧ fr_bits (fa_rf o 0) (fm_Program_part oP (i : Int) 1 w) w = ((pf_B fb t sb nf s : Nat) : Int) ∧ fr_bits (fa_rf o 0) (i : Int) w = ((pf_Cn fb t sb nf s : Nat) : Int) ∧ fm_Program_owner oP (i : Int) w = (sb s).1 ∧ fm_Flow_looked o (sb s).1 w = pf_lkb fb t sb s
theorem px_looked {o nd nf : Nat} {fb : Nat → pt_T} {t : pt_T} {z : pf_s} {b : Bool} {w : fa_W} {h : Int} (h24 : nf ≤ 24) (hc : px_xc o nd z b w) (ok : pf_ok nf z) (hL : pf_zL z = pf_lL fb t) (hh : h = -1 ∨ ∃ f : Nat, f < nf ∧ h = (f : Int)) : fm_Flow_looked o h w = @decide (pf_Lo fb t h) (Classical.propDecidable _) := by
  unfold fm_Flow_looked
  rcases hh with hh | ⟨f, f1, f2⟩
  · rw [hh, pb_wr1, if_pos rfl]
    exact (@decide_eq_true _ (Classical.propDecidable _) (Or.inl rfl)).symm
  · rw [f2, pb_wr (by omega), if_neg (by omega), hc.2.2.2.1, pf_hb (pf_lt24 (pf_two h24 ok.2.2.1)) (by omega)]
    have e : z.2.2.1.testBit f = true ↔ pf_lL fb t f := by rw [← hL]; exact Iff.rfl
    by_cases k : pf_lL fb t f
    · rw [if_pos (e.mpr k)]
      exact (@decide_eq_true _ (Classical.propDecidable _) (Or.inr ⟨f, rfl, k⟩)).symm
    · rw [if_neg (fun q => k (e.mp q))]
      refine (@decide_eq_false _ (Classical.propDecidable _) (fun q => ?_)).symm
      rcases q with q | ⟨g, q1, q2⟩
      · omega
      · exact k (by rw [show f = g by omega]; exact q2)
theorem px_sitev {o oP nd nf nv ns si : Nat} {fb : Nat → pt_T} {sb : pf_sT} {t : pt_T} {ins : List Nat} {tb : pf_TB} {w : fa_W} {z : pf_s} {b : Bool} (ho : px_Fo o) (hp : px_po oP) (h24 : nf ≤ 24) (h100 : nd ≤ 100) (hsi : si ≤ 100) (tt : pt_tw t) (tf : ∀ f, pt_tw (fb f)) (hT : pf_XT oP nd nf nv ns fb sb t ins tb w) (hs : ∀ s, s < si → ((sb s).1 = -1 ∧ pf_ss t s) ∨ ∃ f, f < nf ∧ (sb s).1 = (f : Int) ∧ pf_ss (fb f) s) (hz : px_pz oP nd w) (hc : px_xc o nd z b w) (ok : pf_ok nf z) (hlz : px_lz nd nf nv fb t ins tb z) (h11 : w (oP + 11) 1 = ((100 : Nat) : Int)) (h15 : w oP 15 = (si : Int)) : px_SV o oP nf si fb t sb w := by
  refine ⟨h15, fun s hsl => ?_⟩
  obtain ⟨i, c, i1, i2, i3⟩ := px_sites tt tf hT hs s hsl
  obtain ⟨a1, a2, a3, a4⟩ := px_applied ho hp h100 hT hz hc hlz i1 i3
  have hlo : pf_lo z (sb s).1 ↔ pf_Lo fb t (sb s).1 := by
    unfold pf_lo pf_Lo
    rw [hlz.2.1]
  have r5 := (px_po_r5 hp).1
  have s5 := (px_po_r5 hp).2.1
  have m5 := (px_po_r5 hp).2.2
  obtain ⟨tw, sz, hN, qP, qW, qT, qS, qD⟩ := hT.1 i i1
  rw [i3] at tw sz hN qP qD
  dsimp only at tw sz hN qP qD
  have ea : pt_sz (pt_site s (sb s).2.1 (sb s).2.2) = pt_sz (sb s).2.1 + pt_sz (sb s).2.2 + 1 := rfl
  have pa := pt_sz_pos (sb s).2.1
  have pb := pt_sz_pos (sb s).2.2
  have H := qP.2.2.1
  rw [show c + pt_sz (sb s).2.1 + pt_sz (sb s).2.2 = i by omega] at H
  obtain ⟨p1, p2, p3, p4, p5, p6⟩ := px_rd hp hz H i1
  have il : c + pt_sz (sb s).2.1 + pt_sz (sb s).2.2 - 1 < nd := by omega
  have r := pf_N_root (sb s).2.2 tw.2 _ _ hN.2.1
  have ei : c + pt_sz (sb s).2.1 + pt_sz (sb s).2.2 = i := by omega
  rw [ei] at r il
  refine ⟨i, ?_, ?_, ?_, ?_, a3, ?_⟩
  · rw [r5, pb_at h11 (by omega) (by rw [m5]; exact Nat.le_refl _), s5, show oP + 11 + 1 = oP + 12 by omega]
    exact i2
  · rw [a1, pf_num_of (ok.1 _) (fun f hf => (a2 f).trans (and_congr hlo Iff.rfl))]
    rfl
  · rw [p5, px_cget (nf := nf) ho h100 hc il]
    refine congrArg (fun n : Nat => (n : Int)) (pf_num_of (ok.1 _) (fun f hf => ?_))
    have l1 := hlz.2.2.2.1 _ il
    have l2 := hlz.2.2.2.2 _ il
    rw [r] at l1 l2
    dsimp only at l1 l2
    by_cases hl : pf_lo z (sb s).1
    · exact (l1 hl f).trans ⟨fun y => ⟨hlo.mp hl, y⟩, fun y => y.2⟩
    · exact ⟨fun y => absurd y (l2 hl f), fun y => absurd (hlo.mpr y.1) hl⟩
  · rw [px_cget (nf := nf) ho h100 hc i1]
    refine congrArg (fun n : Nat => (n : Int)) (pf_num_of (ok.1 _) (fun f hf => ?_))
    have l1 := hlz.2.2.2.1 _ i1
    have l2 := hlz.2.2.2.2 _ i1
    rw [i3] at l1 l2
    dsimp only at l1 l2
    by_cases hl : pf_lo z (sb s).1
    · exact (l1 hl f).trans ⟨fun y => ⟨hlo.mp hl, y⟩, fun y => y.2⟩
    · exact ⟨fun y => absurd y (l2 hl f), fun y => absurd (hlo.mpr y.1) hl⟩
  · exact px_looked h24 hc ok hlz.2.1 a4
/-- the reference's SITES -/
def pm_SV (nf si : Nat) (fb : Nat → pt_T) (t : pt_T) (sb : pf_sT) (w : fa_W) : Prop := w 181 20 = (si : Int) ∧ ∀ s, s < si → w 195 s = (sb s).1 ∧ w 209 s = ((pf_A fb t sb nf s : Nat) : Int) ∧ w 210 s = ((pf_B fb t sb nf s : Nat) : Int) ∧ w 211 s = ((pf_Cn fb t sb nf s : Nat) : Int) ∧ w 212 s = fa_bi (pf_lkb fb t sb s)
theorem pm_SV_of {gs : ps_G} {t : pt_T} {la li si : Nat} {fb : Nat → pt_T} {sb : pf_sT} {z : pf_s} {w : fa_W} (hsi : si ≤ 100) (hG : pf_G gs t la li si fb sb) (hP : pf_PB (gs.length + la) fb t w) (hD : pf_done (gs.length + la) fb sb t z w) (hlz : pf_lz fb t z) (h20 : w 181 20 = (si : Int)) (h0 : ∀ i s, 209 ≤ i → i ≤ 212 → s < 101 → ¬ (pf_ss t s ∨ pf_ls (gs.length + la) fb (pf_lL fb t) s) → w i s = 0) (hu : ∀ f, f < gs.length + la → ∀ s, pf_ss (fb f) s → (sb s).1 = (f : Int)) (hu0 : ∀ s, pf_ss t s → (sb s).1 = -1) : pm_SV (gs.length + la) si fb t sb w := by
  obtain ⟨s1, s2⟩ := pm_sx_of hG hP hD
  obtain ⟨g1, g2, g3, ⟨g4, g5, g6, g7⟩, g8⟩ := hG
  obtain ⟨d1, d2, d3, d4, d5⟩ := hD
  refine ⟨h20, fun s hs => ⟨(s1 s hs).1, ?_⟩⟩
  by_cases c : pf_ss t s ∨ pf_ls (gs.length + la) fb (pf_lL fb t) s
  · have lo : pf_Lo fb t (sb s).1 := by
      rcases c with c | ⟨f, f1, f2, f3⟩
      · exact Or.inl (hu0 s c)
      · exact Or.inr ⟨f, hu f f1 s f3, f2⟩
    have tws : pt_tw (sb s).2.1 ∧ pt_tw (sb s).2.2 ∧ pf_W (gs.length + la) (24 + li) si (sb s).2.1 ∧ pf_W (gs.length + la) (24 + li) si (sb s).2.2 := by
      rcases c with c | ⟨f, f1, f2, f3⟩
      · have q := pf_ss_W t g4 g6 g7 s c; exact ⟨q.2.1, q.2.2.1, q.2.2.2.1, q.2.2.2.2.1⟩
      · have q := pf_ss_W (fb f) (g2 f) (g3 f f1).2.1 (g3 f f1).2.2 s f3; exact ⟨q.2.1, q.2.2.1, q.2.2.2.1, q.2.2.2.2.1⟩
    have nH : ∀ v f, pf_b z.1 v f → f < gs.length + la := fun v f q => pf_tb_lt (d1.1 v) q
    have nR : ∀ v f, pf_b z.2.1 v f → f < gs.length + la := fun v f q => pf_tb_lt (d1.2.1 v) q
    rw [← hlz.2.2.1] at c
    obtain ⟨x1, x, y, r, x2, x3, x4, ⟨x5, x5b, x5c⟩, x6, x7, x8⟩ := d5 s c
    rw [hlz.1, hlz.2.1] at x6 x7 x8
    rw [hlz.1] at nH
    rw [hlz.2.1] at nR
    have nA : ∀ f, pf_k (pf_lH fb t) (pf_lR fb t) (sb s).2.1 f → f < gs.length + la := pf_k_nf (fun v f q => nH v f q) (fun v f q => nR v f q) _ tws.1 tws.2.2.1
    have nB : ∀ f, pf_k (pf_lH fb t) (pf_lR fb t) (sb s).2.2 f → f < gs.length + la := pf_k_nf (fun v f q => nH v f q) (fun v f q => nR v f q) _ tws.2.1 tws.2.2.2
    refine ⟨?_, ?_, ?_, ?_⟩
    · rw [x2]
      exact congrArg (fun n : Nat => (n : Int)) (pf_num_of (pf_X_lt x5 (fun f q => nA f ((x6 f).mp q))) (fun f hf => (x6 f).trans ⟨fun q => ⟨lo, q⟩, fun q => q.2⟩))
    · rw [x3]
      exact congrArg (fun n : Nat => (n : Int)) (pf_num_of (pf_X_lt x5b (fun f q => nB f ((x7 f).mp q))) (fun f hf => (x7 f).trans ⟨fun q => ⟨lo, q⟩, fun q => q.2⟩))
    · rw [x4]
      exact congrArg (fun n : Nat => (n : Int)) (pf_num_of (pf_X_lt x5c (fun f q => by obtain ⟨g, _, k⟩ := (x8 f).mp q; exact nR g f k)) (fun f hf => (x8 f).trans ⟨fun q => ⟨lo, q⟩, fun q => q.2⟩))
    · rw [x1]
      unfold pf_lkb
      rw [@decide_eq_true _ (Classical.propDecidable _) lo]
      rfl
  · have no : ¬ pf_Lo fb t (sb s).1 := fun q => by
      rcases g8 s hs with ⟨y1, y2⟩ | ⟨f, y1, y2, y3⟩
      · exact c (Or.inl y2)
      · rw [y2] at q
        rcases q with q | ⟨f', q1, q2⟩
        · omega
        · exact c (Or.inr ⟨f, y1, by rw [show f = f' by omega]; exact q2, y3⟩)
    have num0 : ∀ P : Nat → Prop, pf_num (fun f => pf_Lo fb t (sb s).1 ∧ P f) (gs.length + la) = 0 := fun P => (pf_num_of (Nat.two_pow_pos _) (fun f hf => ⟨fun q => (by rw [Nat.zero_testBit] at q; cases q), fun q => absurd q.1 no⟩)).symm
    refine ⟨?_, ?_, ?_, ?_⟩
    · rw [h0 209 s (by omega) (by omega) (by omega) c]; unfold pf_A; rw [num0]; rfl
    · rw [h0 210 s (by omega) (by omega) (by omega) c]; unfold pf_B; rw [num0]; rfl
    · rw [h0 211 s (by omega) (by omega) (by omega) c]; unfold pf_Cn; rw [num0]; rfl
    · rw [h0 212 s (by omega) (by omega) (by omega) c]
      unfold pf_lkb
      rw [@decide_eq_false _ (Classical.propDecidable _) no]
      rfl
theorem pf_ss_home {sb : pf_sT} {h : Int} (t : pt_T) (tt : pt_tw t) : pf_S sb h t → ∀ s, pf_ss t s → (sb s).1 = h := by
  induction t, tt using pt_indh with
  | num v => intro _ s k; exact False.elim k
  | var v x => intro _ s k; exact False.elim k
  | glo g x => intro _ s k; exact False.elim k
  | dead d => intro _ s k; exact False.elim k
  | lam g x b tb ih => intro _ s k; exact False.elim k
  | ife a b c ta tb tc iha ihb ihc =>
    intro S s k
    rcases k with k | k | k
    · exact iha S.1 s k
    · exact ihb S.2.1 s k
    · exact ihc S.2.2 s k
  | lt v x a b ta tb iha ihb =>
    intro S s k
    rcases k with k | k
    · exact iha S.1 s k
    · exact ihb S.2 s k
  | op v a b ta tb iha ihb =>
    intro S s k
    rcases k with k | k
    · exact iha S.1 s k
    · exact ihb S.2 s k
  | site v a b ta tb iha ihb =>
    intro S s k
    rcases k with k | k | k
    · rw [k, S.2.2]
    · exact iha S.1 s k
    · exact ihb S.2.1 s k
