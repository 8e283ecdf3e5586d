/-! the class looks at a THING -/
def pf_ru (C : Nat → Nat) (Hx : Nat → Nat → Prop) (bo : Nat → Nat) : pt_T → Nat → Nat → Prop := pt_rec (fun _ _ _ => False) (fun v _ _ f => Hx v f) (fun g _ _ f => f = g) (fun _ _ _ => False) (fun f0 _ _ _ _ f => f = f0) (fun ta t2 tc _ _ _ a f => pf_b C (a + pt_sz ta + pt_sz t2 - 1) f ∨ pf_b C (a + pt_sz ta + pt_sz t2 + pt_sz tc - 1) f) (fun _ _ ta t2 _ _ a f => pf_b C (a + pt_sz ta + pt_sz t2 - 1) f) (fun _ _ _ _ _ _ _ => False) (fun _ ta _ _ _ a f => ∃ g, pf_b C (a + pt_sz ta - 1) g ∧ pf_b C (bo g) f) (fun _ _ => False)
def pf_rc (C : Nat → Nat) (Hx : Nat → Nat → Prop) (L : Nat → Prop) : pt_T → Nat → Prop := pt_rec (fun _ _ => True) (fun _ _ _ => True) (fun _ _ _ => True) (fun _ _ => True) (fun _ _ _ _ _ => True) (fun _ _ _ _ _ _ _ => True) (fun v _ ta _ _ _ a => ∀ f, pf_b C (a + pt_sz ta - 1) f → Hx v f) (fun _ _ _ _ _ _ => True) (fun _ ta t2 _ _ a => ∀ g, pf_b C (a + pt_sz ta - 1) g → L g ∧ ∀ f, pf_b C (a + pt_sz ta + pt_sz t2 - 1) f → Hx g f) (fun _ => True)
def pf_ro : pt_T → Nat → Prop := pt_rec (fun _ _ => False) (fun _ _ _ => False) (fun g _ f => f = g) (fun _ _ => False) (fun f0 _ _ _ f => f = f0) (fun _ _ _ _ _ _ _ => False) (fun _ _ _ _ _ _ _ => False) (fun _ _ _ _ _ _ => False) (fun _ _ _ _ _ _ => False) (fun _ => False)
def pf_Hx (ins : List Nat) (z : pf_s) (v f : Nat) : Prop := pf_b z.2.1 (px_xi ins v) f
def px_LK (o oP nd nf i : Nat) (ins : List Nat) (bo : Nat → Nat) (u : pt_T) (a : Nat) (z : pf_s) (b : Bool) (w : fa_W) (x : Option fa_W) : Prop := ∃ (w' : fa_W) (z' : pf_s) (b' : Bool), x = some w' ∧ px_xc o nd z' b' w' ∧ pf_xg nf z b z' b' ∧ px_ff o w w' ∧ (∀ j, j ≠ i → z'.1 j = z.1 j) ∧ (∀ f, pf_b z'.1 i f ↔ pf_ru z.1 (pf_Hx ins z) bo u a f) ∧ (∀ g, pf_ro u g → pf_zM z' g) ∧ pf_rc z.1 (pf_Hx ins z') (pf_zL z') u a ∧ ∀ Cs Hs Ls Ms, pf_sd z Cs Hs Ls Ms → (∀ f, pf_ru z.1 (pf_Hx ins z) bo u a f → Cs i f) → pf_rc z.1 (fun v => Hs (px_xi ins v)) Ls u a → (∀ g, pf_ro u g → Ms g) → pf_sd z' Cs Hs Ls Ms
theorem px_flk {o oP nd nf i x : Nat} {ins : List Nat} {bo : Nat → Nat} {u : pt_T} {a : Nat} {z z1 : pf_s} {b b1 : Bool} {w w1 : fa_W} (ho : px_Fo o) (h24 : nf ≤ 24) (h100 : nd ≤ 100) (hi : i < nd) (hx : x < 2 ^ nf) (c1 : px_xc o nd z1 b1 w1) (g1 : pf_xg nf z b z1 b1) (f1 : px_ff o w w1) (k1 : z1.1 = z.1) (hr : ∀ f, x.testBit f = true ↔ pf_ru z.1 (pf_Hx ins z) bo u a f) (inv : ∀ f, pf_b z.1 i f → pf_ru z.1 (pf_Hx ins z) bo u a f) (ho' : ∀ g, pf_ro u g → pf_zM z1 g) (hc : pf_rc z.1 (pf_Hx ins z1) (pf_zL z1) u a) (hs : ∀ Cs Hs Ls Ms, pf_sd z Cs Hs Ls Ms → pf_rc z.1 (fun v => Hs (px_xi ins v)) Ls u a → (∀ g, pf_ro u g → Ms g) → pf_sd z1 Cs Hs Ls Ms) : px_LK o oP nd nf i ins bo u a z b w (fm_Flow_look_j170 o oP (i : Int) (x : Int) w1) := by
  obtain ⟨w', e, c2, f2⟩ := px_put (oP := oP) ho h24 h100 c1 g1.1 hi hx
  have g2 := pf_up_C (b := b1) h24 g1.1 (show i < 100 by omega) hx (fun f h => (hr f).mpr (inv f (by rw [k1] at h; exact h)))
  refine ⟨w', _, _, e, c2, pf_xg_tr g1 g2, px_ff_tr f1 f2, fun j hj => ?_, fun f => ?_, ho', hc, fun Cs Hs Ls Ms s r c m => ?_⟩
  · dsimp only
    rw [pu_set_ne _ _ hj, k1]
  · unfold pf_b
    dsimp only
    rw [pu_set_eq]
    exact hr f
  · have s1 := hs Cs Hs Ls Ms s c m
    refine ⟨fun v f h => ?_, s1.2⟩
    dsimp only at h
    by_cases ev : v = i
    · rw [ev, pu_set_eq] at h
      rw [ev]
      exact r f ((hr f).mp h)
    · rw [pu_set_ne _ _ ev] at h
      exact s1.1 v f h
theorem px_made {o oP nd nf i g : Nat} {ins : List Nat} {bo : Nat → Nat} {u : pt_T} {a : Nat} {z : pf_s} {b : Bool} {w : fa_W} (ho : px_Fo o) (hd : oP + 26 < o) (h24 : nf ≤ 24) (h100 : nd ≤ 100) (hi : i < nd) (hg : g < nf) (hc : px_xc o nd z b w) (ok : pf_ok nf z) (hr : ∀ f, pf_ru z.1 (pf_Hx ins z) bo u a f ↔ f = g) (hro : ∀ f, pf_ro u f ↔ f = g) (hrc : ∀ C Hx L, pf_rc C Hx L u a) (inv : ∀ f, pf_b z.1 i f → pf_ru z.1 (pf_Hx ins z) bo u a f) : px_LK o oP nd nf i ins bo u a z b w (fa_let (fm_Face_bit (g : Int) w) fun x3 => fa_let (fa_st w o 5 (fa_ior (w o 5) x3)) fun w15 => fm_Flow_look_j170 o oP (i : Int) x3 w15) := by
  have hb : fm_Face_bit (g : Int) w = ((2 ^ g : Nat) : Int) := pf_bit (by omega) w
  have hlt : 2 ^ g < 2 ^ nf := Nat.pow_lt_pow_right (by decide) hg
  have hone : ∀ f, (2 ^ g).testBit f = true ↔ f = g := fun f => pf_one
  generalize 2 ^ g = y at hb hlt hone
  obtain ⟨⟨c1, c2⟩, c3, c4, c5, c6, c7⟩ := id hc
  rw [pf_let_eq, pf_let_eq, hb, c6, pb_or (pf_lt24 (pf_two h24 ok.2.2.2)) (pf_lt24 (pf_two h24 hlt))]
  refine px_flk (z1 := (z.1, z.2.1, z.2.2.1, z.2.2.2 ||| y)) (b1 := b) ho h24 h100 hi hlt ⟨⟨?_, ?_⟩, fun i hi => ?_, fun v hv => ?_, ?_, ?_, ?_⟩ (pf_up_M ok hlt) (fun i j p q r => fa_st_ne (by omega)) rfl (fun f => (hone f).trans (hr f).symm) inv (fun f hf => ?_) (hrc _ _ _) (fun Cs Hs Ls Ms s c m => ⟨s.1, s.2.1, s.2.2.1, fun f h => ?_⟩)
  · rw [fa_st_ne (by omega)]; exact c1
  · rw [fa_st_ne (by omega)]; exact c2
  · rw [fa_st_ne (by omega)]; exact c3 i hi
  · rw [fa_st_ne (by omega)]; exact c4 v hv
  · rw [fa_st_ne (by omega)]; exact c5
  · rw [fa_st_eq]
  · rw [fa_st_ne (by omega)]; exact c7
  · unfold pf_zM
    dsimp only
    rw [Nat.testBit_or, (hone f).mpr ((hro f).mp hf), Bool.or_true]
  · dsimp only at h
    rw [Nat.testBit_or, Bool.or_eq_true] at h
    exact h.elim (s.2.2.2 f) (fun h => m f ((hro f).mpr ((hone f).mp h)))
set_option maxHeartbeats 4000000 in
theorem px_look {o oP nd nf nv ns i : Nat} {ins : List Nat} {bo : Nat → Nat} (ho : px_Fo o) (hp : px_po oP) (hd : oP + 26 < o) (h24 : nf ≤ 24) (h100 : nd ≤ 100) (hxi : ∀ v, px_xi ins v < 74) (hi : i < nd) (u : pt_T) (tu : pt_tw u) : ∀ (h : Int) (a : Nat) (z : pf_s) (b : Bool) (w : fa_W), px_P oP ins u h a w → pf_W nf nv ns u → a + pt_sz u = i + 1 → px_E oP nd nf bo w → px_xc o nd z b w → pf_ok nf z → (∀ f, pf_b z.1 i f → pf_ru z.1 (pf_Hx ins z) bo u a f) → px_LK o oP nd nf i ins bo u a z b w (fm_Flow_look o oP (i : Int) w) := by
  have none0 : ∀ f : Nat, ((0 : Nat).testBit f = true ↔ False) := fun f => ⟨fun h => (by rw [Nat.zero_testBit] at h; cases h), fun h => False.elim h⟩
  have z0 : ((0 : Nat) : Int) = 0 := rfl
  induction u, tu using pt_indh with
  | num v =>
    intro h a z b w H hW hz hE hc ok inv
    change a + 1 = i + 1 at hz
    have ea : a = i := by omega
    have H' : px_N oP w i 1 v h a (-1) (-1) (-1) := by rw [← ea]; exact H
    obtain ⟨p1, p2, p3, p4, p5, p6⟩ := px_rd hp hE.1 H' hi
    unfold fm_Flow_look
    rw [p1, pb_wr (by omega), if_neg (by omega), if_neg (by omega), if_neg (by omega), if_neg (by omega), if_neg (by omega), if_neg (by omega), ← z0]
    exact px_flk ho h24 h100 hi (Nat.two_pow_pos nf) hc (pf_xg_refl b ok) (px_ff_refl _ _) rfl none0 inv (fun g x => False.elim x) trivial (fun _ _ _ _ s _ _ => s)
  | dead v =>
    intro h a z b w H hW hz hE hc ok inv
    change a + 1 = i + 1 at hz
    have ea : a = i := by omega
    have H' : px_N oP w i 4 0 h a (-1) (-1) (-1) := by rw [← ea]; exact H
    obtain ⟨p1, p2, p3, p4, p5, p6⟩ := px_rd hp hE.1 H' hi
    unfold fm_Flow_look
    rw [p1, pb_wr (by omega), if_neg (by omega), if_neg (by omega), if_neg (by omega), if_neg (by omega), if_neg (by omega), if_neg (by omega), ← z0]
    exact px_flk ho h24 h100 hi (Nat.two_pow_pos nf) hc (pf_xg_refl b ok) (px_ff_refl _ _) rfl none0 inv (fun g x => False.elim x) trivial (fun _ _ _ _ s _ _ => s)
  | op s ta t2 wa wb iha ihb =>
    intro h a z b w H hW hz hE hc ok inv
    change a + (pt_sz ta + pt_sz t2 + 1) = i + 1 at hz
    have ea : a + pt_sz ta + pt_sz t2 = i := by omega
    have H' := H.2.2
    rw [ea] at H'
    obtain ⟨p1, p2, p3, p4, p5, p6⟩ := px_rd hp hE.1 H' hi
    unfold fm_Flow_look
    rw [p1, pb_wr (by omega), if_neg (by omega), if_neg (by omega), if_neg (by omega), if_neg (by omega), if_neg (by omega), if_neg (by omega), ← z0]
    exact px_flk ho h24 h100 hi (Nat.two_pow_pos nf) hc (pf_xg_refl b ok) (px_ff_refl _ _) rfl none0 inv (fun g x => False.elim x) trivial (fun _ _ _ _ s _ _ => s)
  | var v x =>
    intro h a z b w H hW hz hE hc ok inv
    change a + 1 = i + 1 at hz
    have ea : a = i := by omega
    have H' : px_N oP w i 2 (px_xi ins v) h a (-1) (-1) (-1) := by rw [← ea]; exact H.1
    obtain ⟨p1, p2, p3, p4, p5, p6⟩ := px_rd hp hE.1 H' hi
    have hg : fr_bits (fa_rf o 1) ((px_xi ins v : Nat) : Int) w = (z.2.1 (px_xi ins v) : Int) := by
      obtain ⟨⟨r0, r1, _⟩, ⟨s0, s1, _⟩, m0, m1, _⟩ := ho
      rw [r1, pb_bits hc.1.2 (hxi v) (by rw [m1]; exact Nat.le_refl _), s1, show o + 3 + 1 = o + 4 by omega]
      exact hc.2.2.1 _ (hxi v)
    unfold fm_Flow_look
    rw [p1, pb_wr (by omega), if_pos (by omega), p2, hg, pf_let_eq]
    exact px_flk ho h24 h100 hi (ok.2.1 _) hc (pf_xg_refl b ok) (px_ff_refl _ _) rfl (fun f => Iff.rfl) inv (fun g x => False.elim x) trivial (fun _ _ _ _ s _ _ => s)
  | glo g x =>
    intro h a z b w H hW hz hE hc ok inv
    change a + 1 = i + 1 at hz
    change g < nf at hW
    have ea : a = i := by omega
    have H' : px_N oP w i 3 g h a (-1) (-1) (-1) := by rw [← ea]; exact H.1
    obtain ⟨p1, p2, p3, p4, p5, p6⟩ := px_rd hp hE.1 H' hi
    unfold fm_Flow_look
    rw [p1, pb_wr (by omega), if_neg (by omega), if_pos (by omega), p2]
    exact px_made ho hd h24 h100 hi hW hc ok (fun _ => Iff.rfl) (fun _ => Iff.rfl) (fun _ _ _ => trivial) inv
  | lam f0 x t2 wb ih =>
    intro h a z b w H hW hz hE hc ok inv
    change a + (pt_sz t2 + 1) = i + 1 at hz
    have ea : a + pt_sz t2 = i := by omega
    have H' := H.2.1
    rw [ea] at H'
    obtain ⟨p1, p2, p3, p4, p5, p6⟩ := px_rd hp hE.1 H' hi
    unfold fm_Flow_look
    rw [p1, pb_wr (by omega), if_neg (by omega), if_neg (by omega), if_pos (by omega), p2]
    exact px_made ho hd h24 h100 hi hW.1 hc ok (fun _ => Iff.rfl) (fun _ => Iff.rfl) (fun _ _ _ => trivial) inv
  | ife ta t2 tc wa wb wc iha ihb ihc =>
    intro h a z b w H hW hz hE hc ok inv
    have pa := pt_sz_pos ta
    have pb := pt_sz_pos t2
    have pc := pt_sz_pos tc
    change a + (pt_sz ta + pt_sz t2 + pt_sz tc + 1) = i + 1 at hz
    have ea : a + pt_sz ta + pt_sz t2 + pt_sz tc = i := by omega
    have H' := H.2.2.2
    rw [ea] at H'
    obtain ⟨p1, p2, p3, p4, p5, p6⟩ := px_rd hp hE.1 H' hi
    unfold fm_Flow_look
    rw [p1, pb_wr (by omega), if_neg (by omega), if_neg (by omega), if_neg (by omega), if_pos (by omega), p5, p6, px_cget (nf := nf) ho h100 hc (by omega), px_cget (nf := nf) ho h100 hc (by omega), pb_or (pf_lt24 (pf_two h24 (ok.1 _))) (pf_lt24 (pf_two h24 (ok.1 _))), pf_let_eq]
    refine px_flk ho h24 h100 hi (Nat.or_lt_two_pow (ok.1 _) (ok.1 _)) hc (pf_xg_refl b ok) (px_ff_refl _ _) rfl (fun f => ?_) inv (fun g x => False.elim x) trivial (fun _ _ _ _ s _ _ => s)
    rw [Nat.testBit_or, Bool.or_eq_true]
    have e : pf_ru z.1 (pf_Hx ins z) bo (pt_ife ta t2 tc) a f = (pf_b z.1 (a + pt_sz ta + pt_sz t2 - 1) f ∨ pf_b z.1 (a + pt_sz ta + pt_sz t2 + pt_sz tc - 1) f) := rfl
    rw [e, ea]
    exact Iff.rfl
  | lt v x ta t2 wa wb iha ihb =>
    intro h a z b w H hW hz hE hc ok inv
    have pa := pt_sz_pos ta
    have pb := pt_sz_pos t2
    change a + (pt_sz ta + pt_sz t2 + 1) = i + 1 at hz
    have ea : a + pt_sz ta + pt_sz t2 = i := by omega
    have H' := H.2.2.1
    rw [ea] at H'
    obtain ⟨p1, p2, p3, p4, p5, p6⟩ := px_rd hp hE.1 H' hi
    obtain ⟨w1, e1, c1, f1⟩ := px_hold ho h24 hc ok (hxi v) (ok.1 (a + pt_sz ta - 1))
    have hE1 := px_E_ff hd f1 hE
    have H1 : px_N oP w1 i 7 (px_xi ins v) h a ((a + pt_sz ta - 1 : Nat) : Int) ((a + pt_sz ta + pt_sz t2 - 1 : Nat) : Int) (-1) := by
      have e : ∀ k j, k ≤ oP + 26 → w1 k j = w k j := fun k j q => f1 k j (by omega) (by omega) (by omega)
      unfold px_N
      rw [e _ _ (by omega), e _ _ (by omega), e _ _ (by omega), e _ _ (by omega), e _ _ (by omega), e _ _ (by omega), e _ _ (by omega), ea]
      exact H'
    obtain ⟨q1, q2, q3, q4, q5, q6⟩ := px_rd hp hE1.1 H1 hi
    unfold fm_Flow_look
    rw [p1, pb_wr (by omega), if_neg (by omega), if_neg (by omega), if_neg (by omega), if_neg (by omega), if_pos (by omega), p2, p4, px_cget (nf := nf) ho h100 hc (by omega), e1, pf_let_eq, q5, px_cget (nf := nf) ho h100 c1 (by omega), pf_let_eq]
    refine px_flk ho h24 h100 hi (ok.1 _) c1 (pf_up_H h24 ok (hxi v) (ok.1 _)) f1 rfl (fun f => Iff.rfl) inv (fun g x => False.elim x) (fun f hf => ?_) (fun Cs Hs Ls Ms s c _ => ⟨s.1, fun v' f hb => ?_, s.2.2⟩)
    · unfold pf_Hx pf_b
      dsimp only
      rw [pu_set_eq, Nat.testBit_or, show (z.1 (a + pt_sz ta - 1)).testBit f = true from hf, Bool.or_true]
    · dsimp only at hb
      by_cases ev : v' = px_xi ins v
      · rw [ev, pu_set_eq, Nat.testBit_or, Bool.or_eq_true] at hb
        rw [ev]
        exact hb.elim (s.2.1 _ f) (c f)
      · rw [pu_set_ne _ _ ev] at hb
        exact s.2.1 v' f hb
  | site s ta t2 wa wb iha ihb =>
    intro h a z b w H hW hz hE hc ok inv
    have pa := pt_sz_pos ta
    have pb := pt_sz_pos t2
    change a + (pt_sz ta + pt_sz t2 + 1) = i + 1 at hz
    have ea : a + pt_sz ta + pt_sz t2 = i := by omega
    have H' := H.2.2.1
    rw [ea] at H'
    obtain ⟨p1, p2, p3, p4, p5, p6⟩ := px_rd hp hE.1 H' hi
    obtain ⟨FU, hFU⟩ : ∃ F, F = fa_FU := ⟨_, rfl⟩
    have hF2 : 1000 < FU := by rw [hFU]; unfold fa_FU; omega
    have hpart : ∀ w', px_ff o w w' → fm_Program_part oP (i : Int) 1 w' = ((a + pt_sz ta + pt_sz t2 - 1 : Nat) : Int) := fun w' f1 => by
      have e : ∀ k j, k ≤ oP + 26 → w' k j = w k j := fun k j q => f1 k j (by omega) (by omega) (by omega)
      have H1 : px_N oP w' i 9 s h a ((a + pt_sz ta - 1 : Nat) : Int) ((a + pt_sz ta + pt_sz t2 - 1 : Nat) : Int) (-1) := by
        unfold px_N
        rw [e _ _ (by omega), e _ _ (by omega), e _ _ (by omega), e _ _ (by omega), e _ _ (by omega), e _ _ (by omega), e _ _ (by omega), ea]
        exact H'
      exact (px_rd hp (px_E_ff hd f1 hE).1 H1 hi).2.2.2.2.1
    obtain ⟨r, w1, z1, b1, q1, q2, q3, q4, q5, q6, q7, q8, q9⟩ := px_site_l (i := i) (ib := a + pt_sz ta + pt_sz t2 - 1) (bo := bo) (X := z.1 (a + pt_sz ta - 1)) ho hp hd h24 h100 (ok.1 _) (show a + pt_sz ta + pt_sz t2 - 1 < nd by omega) nf 0 FU 0 z b w (by omega) (by omega) hE hpart hc ok (Nat.two_pow_pos nf) rfl
    rw [z0] at q1
    have e1 : fm_Flow_lookAtSite o oP (i : Int) w = some ((r : Int), w1) := by
      unfold fm_Flow_lookAtSite
      rw [← hFU, p4, px_cget (nf := nf) ho h100 hc (by omega), pf_let_eq]
      exact q1
    unfold fm_Flow_look
    rw [p1, pb_wr (by omega), if_neg (by omega), if_neg (by omega), if_neg (by omega), if_neg (by omega), if_neg (by omega), if_pos (by omega), e1]
    show px_LK o oP nd nf i ins bo (pt_site s ta t2) a z b w (fm_Flow_look_j170 o oP (i : Int) (r : Int) w1)
    refine px_flk ho h24 h100 hi q2 q3 q4 q5 q6 (fun f => (q8 f).trans ⟨fun c => ?_, fun ⟨g, c⟩ => Or.inr ⟨g, Nat.zero_le _, c⟩⟩) inv (fun g x => False.elim x) (fun g hg => ?_) (fun Cs Hs Ls Ms s c _ => q7 Cs Hs Ls Ms s (fun f hf => ?_))
    · rcases c with c | ⟨g, _, c⟩
      · exact False.elim ((none0 f).mp c)
      · exact ⟨g, c⟩
    · have l := pf_tb_lt (ok.1 _) hg
      obtain ⟨y1, y2⟩ := q9 g (Nat.zero_le _) hg
      refine ⟨y1, fun f hf => ?_⟩
      unfold pf_Hx
      rw [show px_xi ins g = g from if_pos (by omega)]
      exact y2 f hf
    · have l := pf_tb_lt (ok.1 _) hf
      obtain ⟨y1, y2⟩ := c f hf
      dsimp only at y2
      rw [show px_xi ins f = f from if_pos (by omega)] at y2
      exact ⟨y1, y2⟩
