/-! the class's COMES: round after round, to the least -/
theorem px_rounds {o oP nd nf nv ns : Nat} {fb : Nat → pt_T} {sb : pf_sT} {t : pt_T} {ins : List Nat} {bo : Nat → Nat} {tb : pf_TB} {w0 : fa_W} {H R : Nat → Nat → Prop} {L M : Nat → Prop} (hV : pf_ENV o oP nd nf nv ns fb sb t ins bo tb w0) (hct : pf_c H R L t) (hot : ∀ f, pf_o t f → M f) (hcl : pf_cl fb H R L M) : ∀ (d F x2 : Nat) (z : pf_s) (b : Bool) (w : fa_W), 1 ≤ d → (b = true → 4202 ≤ d + pf_Gi z) → x2 + d ≤ 5000 → d ≤ F → px_ff o w0 w → px_xc o nd z b w → pf_ok nf z → pf_Inv nd ins bo tb z → pf_sd z (pf_Cs H R tb) (pf_Hs H nv ins) L M → (b = false → ∀ i, i < nd → pf_lo z (tb i).1 → pf_EX ins bo tb z i) → ∃ (w' : fa_W) (z' : pf_s), fm_Flow_solve_l39 o oP F (x2 : Int) w = fm_Flow_solve_j97 o oP w' ∧ px_ff o w0 w' ∧ px_xc o nd z' false w' ∧ pf_ok nf z' ∧ pf_Inv nd ins bo tb z' ∧ pf_sd z' (pf_Cs H R tb) (pf_Hs H nv ins) L M ∧ ∀ i, i < nd → pf_lo z' (tb i).1 → pf_EX ins bo tb z' i := by
  have hV' := hV
  obtain ⟨⟨ho, hp, hd, h24, h100⟩, _⟩ := hV'
  obtain ⟨FU, hFU⟩ : ∃ F, F = fa_FU := ⟨_, rfl⟩
  have hF2 : 1000 < FU := by rw [hFU]; unfold fa_FU; omega
  intro d
  induction d with
  | zero => intro F x2 z b w h1; omega
  | succ d ih =>
    intro F x2 z b w h1 h2 h3 h4 hff hc ok hI hS hx
    obtain ⟨F, rfl⟩ : ∃ G, F = G + 1 := ⟨F - 1, by omega⟩
    unfold fm_Flow_solve_l39
    rw [← hFU, pb_wr (by omega), if_neg (by omega), hc.2.2.2.2.2]
    cases b with
    | false =>
      rw [if_neg (by decide)]
      exact ⟨w, z, rfl, hff, hc, ok, hI, hS, hx rfl⟩
    | true =>
      rw [if_pos (by decide), pf_let_eq]
      have c1 : px_xc o nd z false (fa_st w o 7 (fa_bi false)) := by
        obtain ⟨⟨c1, c2⟩, c3, c4, c5, c6, c7⟩ := hc
        refine ⟨⟨?_, ?_⟩, fun i hi => ?_, fun v hv => ?_, ?_, ?_, ?_⟩
        · rw [fa_st_ne (by omega)]; exact c1
        · rw [fa_st_ne (by omega)]; exact c2
        · rw [fa_st_ne (by omega)]; exact c3 i hi
        · rw [fa_st_ne (by omega)]; exact c4 v hv
        · rw [fa_st_ne (by omega)]; exact c5
        · rw [fa_st_ne (by omega)]; exact c6
        · rw [fa_st_eq]; rfl
      have f1 : px_ff o w (fa_st w o 7 (fa_bi false)) := fun i j p q r => fa_st_ne (by omega)
      generalize fa_st w o 7 (fa_bi false) = w1 at c1 f1
      obtain ⟨w2, z2, b2, q1, q2, q3, q4, q5, q6, q7⟩ := px_pass_l (K := fun x2 w9 => fm_Flow_solve_l39 o oP F x2 w9) hV hct hot hcl nd 0 FU (x2 : Int) z false w1 (by omega) (by omega) (px_ff_tr hff f1) c1 ok hI hS
      have z0 : ((0 : Nat) : Int) = 0 := rfl
      rw [z0] at q1
      rw [show ((x2 : Nat) : Int) + 1 = ((x2 + 1 : Nat) : Int) by omega] at q1
      have lim := pf_Gi_le z
      have h2 := h2 rfl
      obtain ⟨g1, g2, g3, g4, g5⟩ := q4
      obtain ⟨w', z', y⟩ := ih F (x2 + 1) z2 b2 w2 (by omega) (fun e => by
        have : pf_Gi z2 ≠ pf_Gi z := fun k => by
          rw [g4.mpr ⟨rfl, k⟩] at e
          cases e
        omega) (by omega) (by omega) q2 q3 g1 q5 q6 (fun e i hi hl => by
        have e2 := (g4.mp e).2
        refine q7 e2 i (Nat.zero_le _) hi ?_
        obtain ⟨_, _, e3⟩ := g5 e2
        unfold pf_lo pf_zL at hl ⊢
        rw [← e3]
        exact hl)
      exact ⟨w', z', q1.trans y.1, y.2⟩
def pf_H' (nv : Nat) (ins : List Nat) (z : pf_s) (v f : Nat) : Prop := v < nv ∧ pf_b z.2.1 (px_xi ins v) f
def pf_R' (nf : Nat) (bo : Nat → Nat) (z : pf_s) (g f : Nat) : Prop := g < nf ∧ pf_b z.1 (bo g) f
theorem pf_end_t {nd nf nv ns : Nat} {ins : List Nat} {bo : Nat → Nat} {tb : pf_TB} {z : pf_s} (ok : pf_ok nf z) (hfv : nf ≤ nv) (hx : ∀ i, i < nd → pf_lo z (tb i).1 → pf_EX ins bo tb z i) (t : pt_T) (tt : pt_tw t) : ∀ (h : Int) (a : Nat), pf_N tb t h a → a + pt_sz t ≤ nd → pf_lo z h → pf_W nf nv ns t → (∀ f, pf_b z.1 (a + pt_sz t - 1) f ↔ pf_k (pf_H' nv ins z) (pf_R' nf bo z) t f) ∧ pf_c (pf_H' nv ins z) (pf_R' nf bo z) (pf_zL z) t ∧ ∀ g, pf_o t g → pf_zM z g := by
  have key : ∀ (u : pt_T) (tu : pt_tw u) (h : Int) (a : Nat), pf_N tb u h a → a + pt_sz u ≤ nd → pf_lo z h → (∀ f, pf_b z.1 (a + pt_sz u - 1) f ↔ pf_ru z.1 (pf_Hx ins z) bo u a f) ∧ (∀ g, pf_ro u g → pf_zM z g) ∧ pf_rc z.1 (pf_Hx ins z) (pf_zL z) u a := fun u tu h a hN hn hl => by
    have r := pf_N_root u tu h a hN
    have pp := pt_sz_pos u
    have := hx (a + pt_sz u - 1) (by omega) (by rw [r]; exact hl)
    unfold pf_EX at this
    rw [r] at this
    exact this
  induction t, tt using pt_indh with
  | num v => intro h a hN hn hl hW; exact ⟨(key (pt_num v) trivial h a hN hn hl).1, trivial, fun g x => False.elim x⟩
  | dead v => intro h a hN hn hl hW; exact ⟨(key (pt_dead v) trivial h a hN hn hl).1, trivial, fun g x => False.elim x⟩
  | glo g0 x => intro h a hN hn hl hW; exact ⟨(key (pt_glo g0 x) trivial h a hN hn hl).1, trivial, (key (pt_glo g0 x) trivial h a hN hn hl).2.1⟩
  | lam f0 x b wb ih => intro h a hN hn hl hW; exact ⟨(key (pt_lam f0 x b) wb h a hN hn hl).1, trivial, (key (pt_lam f0 x b) wb h a hN hn hl).2.1⟩
  | var v x =>
    intro h a hN hn hl hW
    have k := (key (pt_var v x) trivial h a hN hn hl).1
    exact ⟨fun f => (k f).trans ⟨fun y => ⟨hW, y⟩, fun y => y.2⟩, trivial, fun g x => False.elim x⟩
  | ife ta t2 tc wa wb wc iha ihb ihc =>
    intro h a hN hn hl hW
    have sz : pt_sz (pt_ife ta t2 tc) = pt_sz ta + pt_sz t2 + pt_sz tc + 1 := rfl
    have k := key (pt_ife ta t2 tc) ⟨wa, wb, wc⟩ h a hN hn hl
    obtain ⟨a1, a2, a3⟩ := iha _ _ hN.1 (by omega) hl hW.1
    obtain ⟨b1, b2, b3⟩ := ihb _ _ hN.2.1 (by omega) hl hW.2.1
    obtain ⟨c1, c2, c3⟩ := ihc _ _ hN.2.2.1 (by omega) hl hW.2.2
    exact ⟨fun f => (k.1 f).trans (or_congr (b1 f) (c1 f)), ⟨a2, b2, c2⟩, fun g y => y.elim (a3 g) (fun y => y.elim (b3 g) (c3 g))⟩
  | lt v x ta t2 wa wb iha ihb =>
    intro h a hN hn hl hW
    have sz : pt_sz (pt_let v x ta t2) = pt_sz ta + pt_sz t2 + 1 := rfl
    have k := key (pt_let v x ta t2) ⟨wa, wb⟩ h a hN hn hl
    obtain ⟨a1, a2, a3⟩ := iha _ _ hN.1 (by omega) hl hW.2.1
    obtain ⟨b1, b2, b3⟩ := ihb _ _ hN.2.1 (by omega) hl hW.2.2
    exact ⟨fun f => (k.1 f).trans (b1 f), ⟨a2, b2, fun f y => ⟨hW.1, k.2.2 f ((a1 f).mpr y)⟩⟩, fun g y => y.elim (a3 g) (b3 g)⟩
  | op s ta t2 wa wb iha ihb =>
    intro h a hN hn hl hW
    have sz : pt_sz (pt_op s ta t2) = pt_sz ta + pt_sz t2 + 1 := rfl
    have k := key (pt_op s ta t2) ⟨wa, wb⟩ h a hN hn hl
    obtain ⟨a1, a2, a3⟩ := iha _ _ hN.1 (by omega) hl hW.1
    obtain ⟨b1, b2, b3⟩ := ihb _ _ hN.2.1 (by omega) hl hW.2
    exact ⟨k.1, ⟨a2, b2⟩, fun g y => y.elim (a3 g) (b3 g)⟩
  | site s ta t2 wa wb iha ihb =>
    intro h a hN hn hl hW
    have sz : pt_sz (pt_site s ta t2) = pt_sz ta + pt_sz t2 + 1 := rfl
    have k := key (pt_site s ta t2) ⟨wa, wb⟩ h a hN hn hl
    obtain ⟨a1, a2, a3⟩ := iha _ _ hN.1 (by omega) hl hW.2.1
    obtain ⟨b1, b2, b3⟩ := ihb _ _ hN.2.1 (by omega) hl hW.2.2
    refine ⟨fun f => (k.1 f).trans ⟨fun ⟨g, y1, y2⟩ => ⟨g, (a1 g).mp y1, pf_tb_lt (ok.1 _) y1, y2⟩, fun ⟨g, y1, y2⟩ => ⟨g, (a1 g).mpr y1, y2.2⟩⟩, ⟨a2, b2, fun g y => ?_⟩, fun g y => y.elim (a3 g) (b3 g)⟩
    have y' := (a1 g).mpr y
    have gl : g < nf := pf_tb_lt (ok.1 _) y'
    obtain ⟨e1, e2⟩ := k.2.2 g y'
    exact ⟨e1, fun f q => ⟨by omega, e2 f ((b1 f).mpr q)⟩⟩
/-- the class's sets are the least ones -/
def px_lz (nd nf nv : Nat) (fb : Nat → pt_T) (t : pt_T) (ins : List Nat) (tb : pf_TB) (z : pf_s) : Prop := (∀ v f, v < nv → (pf_b z.2.1 (px_xi ins v) f ↔ pf_lH fb t v f)) ∧ pf_zL z = pf_lL fb t ∧ pf_zM z = pf_M fb t ∧ (∀ i, i < nd → pf_lo z (tb i).1 → ∀ f, pf_b z.1 i f ↔ pf_k (pf_lH fb t) (pf_lR fb t) (tb i).2.1 f) ∧ ∀ i, i < nd → ¬ pf_lo z (tb i).1 → ∀ f, ¬ pf_b z.1 i f
theorem px_lz_of {o oP nd nf nv ns : Nat} {fb : Nat → pt_T} {sb : pf_sT} {t : pt_T} {ins : List Nat} {bo : Nat → Nat} {tb : pf_TB} {w0 : fa_W} {z : pf_s} {c : Nat} (hV : pf_ENV o oP nd nf nv ns fb sb t ins bo tb w0) (tt : pt_tw t) (tf : ∀ f, pt_tw (fb f)) (hm : pf_N tb t (-1) c) (hmc : c + pt_sz t ≤ nd) (hW : pf_W nf nv ns t ∧ ∀ f, f < nf → pf_W nf nv ns (fb f)) (ok : pf_ok nf z) (hI : pf_Inv nd ins bo tb z) (hS : pf_sd z (pf_Cs (pf_lH fb t) (pf_lR fb t) tb) (pf_Hs (pf_lH fb t) nv ins) (pf_lL fb t) (pf_M fb t)) (hx : ∀ i, i < nd → pf_lo z (tb i).1 → pf_EX ins bo tb z i) : px_lz nd nf nv fb t ins tb z := by
  obtain ⟨⟨ho, hp, hd, h24, h100⟩, ⟨hfv, hnv, hn, hi⟩, hE0, hat, hbod⟩ := hV
  have en := fun u tu => pf_end_t (nd := nd) (nv := nv) (ns := ns) (ins := ins) (bo := bo) (tb := tb) ok hfv hx u tu
  have main := en t tt _ _ hm hmc (Or.inl rfl) hW.1
  have bod : ∀ f, pf_zL z f → (∀ g, pf_b z.1 (bo f) g ↔ pf_k (pf_H' nv ins z) (pf_R' nf bo z) (fb f) g) ∧ pf_c (pf_H' nv ins z) (pf_R' nf bo z) (pf_zL z) (fb f) ∧ ∀ g, pf_o (fb f) g → pf_zM z g := fun f hf => by
    have fl : f < nf := pf_tb_lt ok.2.2.1 hf
    obtain ⟨_, c, d1, d2⟩ := hbod f fl
    have := en (fb f) (tf f) _ _ d2 (by have := (hE0.2.2.2 f fl).2; omega) (Or.inr ⟨f, rfl, hf⟩) (hW.2 f fl)
    rw [d1, Nat.add_sub_cancel] at this
    exact this
  have hC : pf_C fb t (pf_H' nv ins z) (pf_R' nf bo z) (pf_zL z) := ⟨main.2.1, fun f hf => ⟨(bod f hf).2.1, fun g hg => ⟨pf_tb_lt ok.2.2.1 hf, ((bod f hf).1 g).mpr hg⟩⟩⟩
  have hl := pf_least tt tf
  have eH : pf_H' nv ins z = pf_lH fb t := funext fun v => funext fun f => propext ⟨fun y => by
    obtain ⟨v', p, q, r⟩ := hS.2.1 _ f y.2
    have : v' = v := px_xi_inj hn hi (by omega) (by have := y.1; omega) q
    rw [← this]; exact r, fun y => y _ _ _ hC⟩
  have eR : pf_R' nf bo z = pf_lR fb t := funext fun g => funext fun f => propext ⟨fun y => by
    obtain ⟨gl, y⟩ := y
    obtain ⟨_, c, d1, d2⟩ := hbod g gl
    have r := pf_N_root _ (tf g) _ _ d2
    rw [d1, Nat.add_sub_cancel] at r
    have k := hS.1 _ f y
    unfold pf_Cs at k
    have lo := (hI (bo g) (hE0.2.2.2 g gl).2 f y).2
    rw [r] at k lo
    dsimp only at k lo
    rcases lo with lo | ⟨g', l1, l2⟩
    · omega
    · have : g' = g := by omega
      rw [this] at l2
      exact (hl.2 g (hS.2.2.1 g l2)).2 f k, fun y => y _ _ _ hC⟩
  have eL : pf_zL z = pf_lL fb t := funext fun f => propext ⟨hS.2.2.1 f, fun y => y _ _ _ hC⟩
  refine ⟨fun v f hv => ?_, eL, funext fun f => propext ⟨hS.2.2.2 f, fun y => ?_⟩, fun i hi hlo f => ?_, fun i hi hlo f y => hlo (hI i hi f y).2⟩
  · rw [← eH]
    exact ⟨fun y => ⟨hv, y⟩, fun y => y.2⟩
  · rcases y with y | ⟨g, y1, y2⟩
    · exact main.2.2 f y
    · rw [← eL] at y1
      exact (bod g y1).2.2 f y2
  · obtain ⟨tw, sz, hN, qP, qW, _⟩ := hat i hi
    have := (en _ tw _ _ hN (by omega) hlo qW).1 f
    rw [sz, Nat.add_sub_cancel, eH, eR] at this
    exact this
