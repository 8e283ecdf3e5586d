theorem pm_sum_l {c : Nat → Int} {n : Nat} {fr : Bool} {rs : ps_E → ps_S → ps_R} {rm : fa_W → Option (Int × fa_W)} (hx : ps_TX c n) (hn : n ≤ 40000) (hp : ps_RC n rs) (hr : pm_RC c n fr rs rm) {e : ps_E} {s : ps_S} {w : fa_W} (hs : ps_SI n e s) : ∀ (f F : Nat) (a : pt_T) (S1 : ps_S) (v1 : Int) (w1 : fa_W), f < F → ps_PO n e s a S1 → pm_R c n fr e s w (ps_re a S1) (v1, w1) → ps_lp c n 43 45 rs e f a S1 ≠ none → pb_ok (fm_Mod_sum_l5 rm F v1 w1) (pm_R c n fr e s w (ps_lp c n 43 45 rs e f a S1)) := by
  intro f
  induction f with
  | zero => intro F a S1 v1 w1 _ _ _ hne; exact absurd rfl hne
  | succ f ih =>
  intro F a S1 v1 w1 hF o1 g hne
  obtain ⟨F, rfl⟩ : ∃ z, F = z + 1 := ⟨F - 1, by omega⟩
  have hF : f < F := by omega
  have i1 := ps_PO_SI hs o1
  unfold ps_lp at hne ⊢
  unfold fm_Mod_sum_l5
  obtain ⟨gl, sc, ow, ne⟩ := e
  obtain ⟨p, th, la, ins, lt, si, nd⟩ := s
  obtain ⟨p1, th1, la1, ins1, lt1, si1, nd1⟩ := S1
  have g0 := g
  obtain ⟨y1, y2, y3, y4⟩ := g
  dsimp only at y1 y2 y3 y4
  obtain ⟨pt1, e26, l26, s26⟩ := y2.2.1
  rw [pm_hf y2.2.2.1, if_neg (by decide)]
  dsimp only at hne ⊢
  have z := ps_sk_p hx p1 i1.1
  have ss := ps_sk_sk hx i1.1
  have go : ∀ (o : Nat) (w2 : fa_W), (o = 43 ∨ o = 45) → ps_tk c n (ps_sk c n p1) = o → pm_lx w1 w2 (ps_sk c n p1 + 1) → pb_ok (fm_Mod_sum_j30 rm (fun x1 w9 => fm_Mod_sum_l5 rm F x1 w9) v1 w2) (pm_R c n fr (gl, sc, ow, ne) (p, th, la, ins, lt, si, nd) w (if th1 = 100 then ps_er (ps_sk c n p1) else ps_bd (ps_bd (rs (gl, sc, ow, ne) (ps_sk c n p1 + 1, th1 + 1, la1, ins1, lt1, si1, nd1)) fun b s2 => ps_nd (pt_op (ps_tk c n (ps_sk c n p1)) a b) s2) fun t s3 => ps_lp c n 43 45 rs (gl, sc, ow, ne) f t s3)) := by
    intro o w2 ho k1 lx
    rw [if_pos (by omega)] at hne
    have zz := ps_sign hx i1.1 (by omega) (by omega) k1
    have S2 := pm_S_lx (p' := ps_sk c n p1 + 1) y2 lx (Nat.succ_le_of_lt zz.2.1) rfl
    have f2 : pm_fr la1 ins1.length si1 nd1 sc.length w1 w2 := pm_fr_lx (pm_fr_refl _ _ _ _ _ _) lx
    unfold fm_Mod_sum_j30
    have e1 : w2 181 26 - 1 = ((ps_sk c n p1 : Nat) : Int) := by rw [lx.1]; omega
    have cs := (ps_tk_sign (c := c) (n := n) (s := ps_sk c n p1) (k := o) (by omega)).mp k1
    have sb : w2 196 (ps_sk c n p1) = (o : Int) := by
      rw [S2.1.2.2.2 _ zz.2.1, cs]
      unfold pm_sb
      rw [if_pos (by omega)]
    rw [e1, pb_ix (show ps_sk c n p1 < 40000 by omega) (by decide)]
    dsimp only [Option.bind_some, fa_let]
    rw [sb, pm_begins S2.2.2.1 S2.2.2.2.2.1 (ps_SI_x i1).2.1]
    by_cases c2 : th1 = 100
    · rw [if_pos c2, if_pos c2]
      exact pb_some (pm_R_er z.2.1 (by dsimp only; exact fa_st_eq _ _ _ _) (pm_fo_s (pm_fo_tr y4.1 f2.1) rfl) (pm_po_s (pm_po_S S2) (Or.inr (by decide))))
    rw [if_neg c2] at hne
    rw [if_neg c2, if_neg c2]
    dsimp only [fa_l2]
    rw [if_pos rfl]
    have S3 := pm_S_th S2
    have f3 : pm_fr la1 ins1.length si1 nd1 sc.length w1 (fa_st w2 181 35 ((th1 + 1 : Nat) : Int)) := pm_fr_s f2 rfl
    generalize fa_st w2 181 35 ((th1 + 1 : Nat) : Int) = w3 at S3 f3 ⊢
    have i2 : ps_SI n (gl, sc, ow, ne) (ps_sk c n p1 + 1, th1 + 1, la1, ins1, lt1, si1, nd1) := ps_SI_op (d := 0) i1 (q := ps_sk c n p1 + 1) (Nat.le_trans z.1 (Nat.le_succ _)) (Nat.succ_le_of_lt zz.2.1) c2 (by decide)
    have n2 : rs (gl, sc, ow, ne) (ps_sk c n p1 + 1, th1 + 1, la1, ins1, lt1, si1, nd1) ≠ none := by
      intro r
      rw [r] at hne
      exact hne rfl
    refine pb_bdm (hr _ _ _ i2 S3 n2) (fun v2 w4 g => ?_)
    cases hq2 : rs (gl, sc, ow, ne) (ps_sk c n p1 + 1, th1 + 1, la1, ins1, lt1, si1, nd1) with
    | none => exact absurd hq2 n2
    | some r =>
    rw [hq2] at g hne
    cases r with
    | error z2 =>
      have g21 : w4 181 28 = (z2 : Int) := g.2.1
      have zl := Nat.le_trans g.1 hn
      rw [pm_node_f g21 zl, pb_bds]
      obtain ⟨F', rfl⟩ : ∃ z, F = z + 1 := ⟨F - 1, by omega⟩
      unfold fm_Mod_sum_l5
      rw [pm_hft g21 zl, if_pos rfl]
      exact pb_some (pm_R_er g.1 g21 (pm_fo_tr (pm_fo_tr y4.1 f3.1) g.2.2.1) g.2.2.2)
    | ok y =>
      obtain ⟨b, S4⟩ := y
      have o2 := hp _ _ _ _ i2 hq2
      obtain ⟨p2, th2, la2, ins2, lt2, si2, nd2⟩ := S4
      have fin := pm_op_R (o := o) hs o1 g0 f3 i2 o2 g
      rw [fin.1, pb_bds]
      have op := ps_PO_op (o := o) (by omega) o1 (Nat.le_trans z.1 (Nat.le_succ _)) o2
      rw [k1] at hne ⊢
      exact ih F _ _ _ _ hF op fin.2 hne
  have tk1 := pm_takes (k := 43) y2.1 e26 l26 (by decide)
  rw [s26] at tk1
  rw [show ((43 : Nat) : Int) = 43 from rfl] at tk1
  rw [tk1]
  by_cases k1 : ps_tk c n (ps_sk c n p1) = 43
  · rw [if_pos k1, pb_bds, if_pos rfl, if_pos (Or.inl k1)]
    exact go 43 _ (Or.inl rfl) k1 (pm_lx_tr (pm_lx_bl w1 _) (pm_lx_st _))
  rw [if_neg k1, pb_bds, if_neg (by decide)]
  have lx1 := pm_lx_bl w1 (ps_sk c n p1)
  have S2 := pm_S_lx (p' := p1) y2 lx1 z.2.1 ss
  have tk2 := pm_takes (k := 45) S2.1 lx1.1 z.2.1 (by decide)
  rw [ss] at tk2
  rw [show ((45 : Nat) : Int) = 45 from rfl] at tk2
  rw [tk2]
  by_cases k2 : ps_tk c n (ps_sk c n p1) = 45
  · rw [if_pos k2, pb_bds, if_pos rfl, if_pos (Or.inr k2)]
    exact go 45 _ (Or.inr rfl) k2 (pm_lx_tr (pm_lx_tr lx1 (pm_lx_bl _ _)) (pm_lx_st _))
  rw [if_neg k2, pb_bds, if_neg (by decide), if_neg (by omega)]
  have lx2 := pm_lx_tr lx1 (pm_lx_bl (pm_bl w1 (ps_sk c n p1)) (ps_sk c n p1))
  refine pb_some ⟨y1, pm_S_lx (p' := p1) y2 lx2 z.2.1 ss, ?_, pm_fr_lx y4 lx2⟩
  obtain ⟨b1, b2, b3, b4, b5, b6⟩ := ps_PO_x o1
  exact pm_H_fr b2 b4 b3 (ps_SI_x hs).2.2.2.2 (pm_fr_lx (pm_fr_refl _ _ _ _ sc.length _) lx2) y3
theorem pm_product_l {c : Nat → Int} {n : Nat} {fr : Bool} {rs : ps_E → ps_S → ps_R} {rm : fa_W → Option (Int × fa_W)} (hx : ps_TX c n) (hn : n ≤ 40000) (hp : ps_RC n rs) (hr : pm_RC c n fr rs rm) {e : ps_E} {s : ps_S} {w : fa_W} (hs : ps_SI n e s) : ∀ (f F : Nat) (a : pt_T) (S1 : ps_S) (v1 : Int) (w1 : fa_W), f < F → ps_PO n e s a S1 → pm_R c n fr e s w (ps_re a S1) (v1, w1) → ps_lp c n 42 47 rs e f a S1 ≠ none → pb_ok (fm_Mod_product_l5 rm F v1 w1) (pm_R c n fr e s w (ps_lp c n 42 47 rs e f a S1)) := by
  intro f
  induction f with
  | zero => intro F a S1 v1 w1 _ _ _ hne; exact absurd rfl hne
  | succ f ih =>
  intro F a S1 v1 w1 hF o1 g hne
  obtain ⟨F, rfl⟩ : ∃ z, F = z + 1 := ⟨F - 1, by omega⟩
  have hF : f < F := by omega
  have i1 := ps_PO_SI hs o1
  unfold ps_lp at hne ⊢
  unfold fm_Mod_product_l5
  obtain ⟨gl, sc, ow, ne⟩ := e
  obtain ⟨p, th, la, ins, lt, si, nd⟩ := s
  obtain ⟨p1, th1, la1, ins1, lt1, si1, nd1⟩ := S1
  have g0 := g
  obtain ⟨y1, y2, y3, y4⟩ := g
  dsimp only at y1 y2 y3 y4
  obtain ⟨pt1, e26, l26, s26⟩ := y2.2.1
  rw [pm_hf y2.2.2.1, if_neg (by decide)]
  dsimp only at hne ⊢
  have z := ps_sk_p hx p1 i1.1
  have ss := ps_sk_sk hx i1.1
  have go : ∀ (o : Nat) (w2 : fa_W), (o = 42 ∨ o = 47) → ps_tk c n (ps_sk c n p1) = o → pm_lx w1 w2 (ps_sk c n p1 + 1) → pb_ok (fm_Mod_product_j30 rm (fun x1 w9 => fm_Mod_product_l5 rm F x1 w9) v1 w2) (pm_R c n fr (gl, sc, ow, ne) (p, th, la, ins, lt, si, nd) w (if th1 = 100 then ps_er (ps_sk c n p1) else ps_bd (ps_bd (rs (gl, sc, ow, ne) (ps_sk c n p1 + 1, th1 + 1, la1, ins1, lt1, si1, nd1)) fun b s2 => ps_nd (pt_op (ps_tk c n (ps_sk c n p1)) a b) s2) fun t s3 => ps_lp c n 42 47 rs (gl, sc, ow, ne) f t s3)) := by
    intro o w2 ho k1 lx
    rw [if_pos (by omega)] at hne
    have zz := ps_sign hx i1.1 (by omega) (by omega) k1
    have S2 := pm_S_lx (p' := ps_sk c n p1 + 1) y2 lx (Nat.succ_le_of_lt zz.2.1) rfl
    have f2 : pm_fr la1 ins1.length si1 nd1 sc.length w1 w2 := pm_fr_lx (pm_fr_refl _ _ _ _ _ _) lx
    unfold fm_Mod_product_j30
    have e1 : w2 181 26 - 1 = ((ps_sk c n p1 : Nat) : Int) := by rw [lx.1]; omega
    have cs := (ps_tk_sign (c := c) (n := n) (s := ps_sk c n p1) (k := o) (by omega)).mp k1
    have sb : w2 196 (ps_sk c n p1) = (o : Int) := by
      rw [S2.1.2.2.2 _ zz.2.1, cs]
      unfold pm_sb
      rw [if_pos (by omega)]
    rw [e1, pb_ix (show ps_sk c n p1 < 40000 by omega) (by decide)]
    dsimp only [Option.bind_some, fa_let]
    rw [sb, pm_begins S2.2.2.1 S2.2.2.2.2.1 (ps_SI_x i1).2.1]
    by_cases c2 : th1 = 100
    · rw [if_pos c2, if_pos c2]
      exact pb_some (pm_R_er z.2.1 (by dsimp only; exact fa_st_eq _ _ _ _) (pm_fo_s (pm_fo_tr y4.1 f2.1) rfl) (pm_po_s (pm_po_S S2) (Or.inr (by decide))))
    rw [if_neg c2] at hne
    rw [if_neg c2, if_neg c2]
    dsimp only [fa_l2]
    rw [if_pos rfl]
    have S3 := pm_S_th S2
    have f3 : pm_fr la1 ins1.length si1 nd1 sc.length w1 (fa_st w2 181 35 ((th1 + 1 : Nat) : Int)) := pm_fr_s f2 rfl
    generalize fa_st w2 181 35 ((th1 + 1 : Nat) : Int) = w3 at S3 f3 ⊢
    have i2 : ps_SI n (gl, sc, ow, ne) (ps_sk c n p1 + 1, th1 + 1, la1, ins1, lt1, si1, nd1) := ps_SI_op (d := 0) i1 (q := ps_sk c n p1 + 1) (Nat.le_trans z.1 (Nat.le_succ _)) (Nat.succ_le_of_lt zz.2.1) c2 (by decide)
    have n2 : rs (gl, sc, ow, ne) (ps_sk c n p1 + 1, th1 + 1, la1, ins1, lt1, si1, nd1) ≠ none := by
      intro r
      rw [r] at hne
      exact hne rfl
    refine pb_bdm (hr _ _ _ i2 S3 n2) (fun v2 w4 g => ?_)
    cases hq2 : rs (gl, sc, ow, ne) (ps_sk c n p1 + 1, th1 + 1, la1, ins1, lt1, si1, nd1) with
    | none => exact absurd hq2 n2
    | some r =>
    rw [hq2] at g hne
    cases r with
    | error z2 =>
      have g21 : w4 181 28 = (z2 : Int) := g.2.1
      have zl := Nat.le_trans g.1 hn
      rw [pm_node_f g21 zl, pb_bds]
      obtain ⟨F', rfl⟩ : ∃ z, F = z + 1 := ⟨F - 1, by omega⟩
      unfold fm_Mod_product_l5
      rw [pm_hft g21 zl, if_pos rfl]
      exact pb_some (pm_R_er g.1 g21 (pm_fo_tr (pm_fo_tr y4.1 f3.1) g.2.2.1) g.2.2.2)
    | ok y =>
      obtain ⟨b, S4⟩ := y
      have o2 := hp _ _ _ _ i2 hq2
      obtain ⟨p2, th2, la2, ins2, lt2, si2, nd2⟩ := S4
      have fin := pm_op_R (o := o) hs o1 g0 f3 i2 o2 g
      rw [fin.1, pb_bds]
      have op := ps_PO_op (o := o) (by omega) o1 (Nat.le_trans z.1 (Nat.le_succ _)) o2
      rw [k1] at hne ⊢
      exact ih F _ _ _ _ hF op fin.2 hne
  have tk1 := pm_takes (k := 42) y2.1 e26 l26 (by decide)
  rw [s26] at tk1
  rw [show ((42 : Nat) : Int) = 42 from rfl] at tk1
  rw [tk1]
  by_cases k1 : ps_tk c n (ps_sk c n p1) = 42
  · rw [if_pos k1, pb_bds, if_pos rfl, if_pos (Or.inl k1)]
    exact go 42 _ (Or.inl rfl) k1 (pm_lx_tr (pm_lx_bl w1 _) (pm_lx_st _))
  rw [if_neg k1, pb_bds, if_neg (by decide)]
  have lx1 := pm_lx_bl w1 (ps_sk c n p1)
  have S2 := pm_S_lx (p' := p1) y2 lx1 z.2.1 ss
  have tk2 := pm_takes (k := 47) S2.1 lx1.1 z.2.1 (by decide)
  rw [ss] at tk2
  rw [show ((47 : Nat) : Int) = 47 from rfl] at tk2
  rw [tk2]
  by_cases k2 : ps_tk c n (ps_sk c n p1) = 47
  · rw [if_pos k2, pb_bds, if_pos rfl, if_pos (Or.inr k2)]
    exact go 47 _ (Or.inr rfl) k2 (pm_lx_tr (pm_lx_tr lx1 (pm_lx_bl _ _)) (pm_lx_st _))
  rw [if_neg k2, pb_bds, if_neg (by decide), if_neg (by omega)]
  have lx2 := pm_lx_tr lx1 (pm_lx_bl (pm_bl w1 (ps_sk c n p1)) (ps_sk c n p1))
  refine pb_some ⟨y1, pm_S_lx (p' := p1) y2 lx2 z.2.1 ss, ?_, pm_fr_lx y4 lx2⟩
  obtain ⟨b1, b2, b3, b4, b5, b6⟩ := ps_PO_x o1
  exact pm_H_fr b2 b4 b3 (ps_SI_x hs).2.2.2.2 (pm_fr_lx (pm_fr_refl _ _ _ _ sc.length _) lx2) y3
