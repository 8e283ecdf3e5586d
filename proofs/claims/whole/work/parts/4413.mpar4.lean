/-- the state with one more THING -/
theorem pm_S_th {c : Nat → Int} {n : Nat} {fr : Bool} {e : ps_E} {p th la lt si nd : Nat} {ins : List Nat} {w : fa_W} (h : pm_S c n fr e (p, th, la, ins, lt, si, nd) w) : pm_S c n fr e (p, th + 1, la, ins, lt, si, nd) (fa_st w 181 35 ((th + 1 : Nat) : Int)) := by
  obtain ⟨gl, sc, ow, ne⟩ := e
  obtain ⟨h1, h2, h3, h4, h5, h6, h7, h8, h9, h10, h11, h12, h13, h14, h15⟩ := id h
  have nn : ∀ o k, ¬ (o = 181 ∧ k = 35) → fa_st w 181 35 ((th + 1 : Nat) : Int) o k = w o k := by
    intro o k r
    rw [fa_st_ne (by omega)]
  refine pm_S_up h (fun k => nn _ _ (by omega)) (fun k => nn _ _ (by omega)) (fun k _ => nn _ _ (by omega)) (fun b _ => nn _ _ (by omega)) (nn _ _ (by decide)) (nn _ _ (by decide)) (nn _ _ (by decide)) (nn _ _ (by decide)) ?_ ?_ ?_ ?_ ?_ ?_ ?_ ?_ ?_
  · rw [nn _ _ (by decide)]; exact h2
  · rw [nn _ _ (by decide)]; exact h3
  · rw [nn _ _ (by decide)]; exact h4
  · rw [fa_st_eq]
  · rw [nn _ _ (by decide)]; exact h6
  · rw [nn _ _ (by decide)]; exact h7
  · rw [nn _ _ (by decide)]; exact h8
  · rw [nn _ _ (by decide)]; exact h9
  · rw [nn _ _ (by decide)]; exact h10
theorem pm_lx_st (w : fa_W) {p : Nat} : pm_lx w (fa_st w 181 26 (p : Int)) p := ⟨fa_st_eq _ _ _ _, fun o k q => fa_st_ne (by omega)⟩
theorem pm_lx_bl (w : fa_W) (s : Nat) : pm_lx w (pm_bl w s) s := ⟨pm_bl_26 w s, fun o k q => pm_bl_ne w s (by omega)⟩
theorem pm_lx_tr {w w1 w2 : fa_W} {p q : Nat} (h1 : pm_lx w w1 p) (h2 : pm_lx w1 w2 q) : pm_lx w w2 q := ⟨h2.1, fun o k r => (h2.2 o k r).trans (h1.2 o k r)⟩
/-- what is parsed, as pm_R has it -/
theorem pm_op_R {c : Nat → Int} {n : Nat} {fr : Bool} {gl : List Nat} {sc : List (Nat × Nat)} {ow : Int} {ne p th la lt si nd p1 th1 la1 lt1 si1 nd1 p2 th2 la2 lt2 si2 nd2 q o : Nat} {ins ins1 ins2 : List Nat} {a b : pt_T} {v1 v2 : Int} {w w1 w2 w3 : fa_W} (hs : ps_SI n (gl, sc, ow, ne) (p, th, la, ins, lt, si, nd)) (o1 : ps_PO n (gl, sc, ow, ne) (p, th, la, ins, lt, si, nd) a (p1, th1, la1, ins1, lt1, si1, nd1)) (g1 : pm_R c n fr (gl, sc, ow, ne) (p, th, la, ins, lt, si, nd) w (ps_re a (p1, th1, la1, ins1, lt1, si1, nd1)) (v1, w1)) (f : pm_fr la1 ins1.length si1 nd1 sc.length w1 w2) (i2 : ps_SI n (gl, sc, ow, ne) (q, th1 + 1, la1, ins1, lt1, si1, nd1)) (o2 : ps_PO n (gl, sc, ow, ne) (q, th1 + 1, la1, ins1, lt1, si1, nd1) b (p2, th2, la2, ins2, lt2, si2, nd2)) (g2 : pm_R c n fr (gl, sc, ow, ne) (q, th1 + 1, la1, ins1, lt1, si1, nd1) w2 (ps_re b (p2, th2, la2, ins2, lt2, si2, nd2)) (v2, w3)) : fm_Mod_node 7 v1 v2 (-1) (o : Int) w3 = some ((nd2 : Int), pm_nw w3 nd2 7 v1 v2 (-1) (o : Int)) ∧ pm_R c n fr (gl, sc, ow, ne) (p, th, la, ins, lt, si, nd) w (ps_re (pt_op o a b) (p2, th2, la2, ins2, lt2, si2, nd2 + 1)) ((nd2 : Int), pm_nw w3 nd2 7 v1 v2 (-1) (o : Int)) := by
  obtain ⟨a1, a2, a3, a4, lb0⟩ := ps_SI_x hs
  obtain ⟨b1, b2, b3, b4, b5, b6⟩ := ps_PO_x o1
  obtain ⟨d1, d2, d3, d4, d5, d6⟩ := ps_PO_x o2
  have j2 := ps_PO_SI i2 o2
  obtain ⟨y1, y2, y3, y4⟩ := g1
  obtain ⟨x1, x2, x3, x4⟩ := g2
  dsimp only at y1 y2 y3 y4 x1 x2 x3 x4
  have gC := pm_nw_fr (pm_fr_refl la2 ins2.length si2 nd2 sc.length w3) (Nat.le_refl nd2) 7 v1 v2 (-1) (o : Int)
  have fA := pm_fr_k f x4 (pk_ge_refl _) (Nat.le_refl _)
  have fB := pm_fr_k fA gC d5 (Nat.le_refl _)
  refine ⟨pm_node x2.2.2.1 x2.2.2.2.1 (ps_SI_x j2).2.2.1 _ _ _ _ _, rfl, pm_S_node x2 _ _ _ _ _, ?_, pm_fr_k y4 fB b5 (Nat.le_refl _)⟩
  have k := pm_nw_k w3 nd2 7 v1 v2 (-1) (o : Int)
  refine ⟨?_, ?_, ?_, ?_, ?_, ?_⟩
  · exact pm_H_fr b2 b4 b3 lb0 fB y3
  · rw [b6]; exact pm_H_fr d2 d4 d3 (pk_lbs lb0 b5) gC x3
  · rw [b6, d6]; exact k.1
  · rw [b6, d6]; exact k.2.1.trans y1
  · rw [b6, d6]; exact k.2.2.1.trans x1
  · rw [b6, d6]; exact k.2.2.2.2
theorem pm_site_R {c : Nat → Int} {n : Nat} {fr : Bool} {gl : List Nat} {sc : List (Nat × Nat)} {ow : Int} {ne p th la lt si nd p1 th1 la1 lt1 si1 nd1 p2 th2 la2 lt2 si2 nd2 q : Nat} {ins ins1 ins2 : List Nat} {a b : pt_T} {v1 v2 : Int} {w w1 w2 w3 : fa_W} (hs : ps_SI n (gl, sc, ow, ne) (p, th, la, ins, lt, si, nd)) (o1 : ps_PO n (gl, sc, ow, ne) (p, th, la, ins, lt, si, nd) a (p1, th1, la1, ins1, lt1, si1, nd1)) (g1 : pm_R c n fr (gl, sc, ow, ne) (p, th, la, ins, lt, si, nd) w (ps_re a (p1, th1, la1, ins1, lt1, si1, nd1)) (v1, w1)) (f : pm_fr la1 ins1.length si1 nd1 sc.length w1 w2) (h195 : w2 195 si1 = ow) (i2 : ps_SI n (gl, sc, ow, ne) (q, th1 + 1, la1, ins1, lt1, si1 + 1, nd1)) (o2 : ps_PO n (gl, sc, ow, ne) (q, th1 + 1, la1, ins1, lt1, si1 + 1, nd1) b (p2, th2, la2, ins2, lt2, si2, nd2)) (g2 : pm_R c n fr (gl, sc, ow, ne) (q, th1 + 1, la1, ins1, lt1, si1 + 1, nd1) w2 (ps_re b (p2, th2, la2, ins2, lt2, si2, nd2)) (v2, w3)) : fm_Mod_node 8 v1 v2 (-1) (si1 : Int) w3 = some ((nd2 : Int), pm_nw w3 nd2 8 v1 v2 (-1) (si1 : Int)) ∧ pm_R c n fr (gl, sc, ow, ne) (p, th, la, ins, lt, si, nd) w (ps_re (pt_site si1 a b) (p2, th2, la2, ins2, lt2, si2, nd2 + 1)) ((nd2 : Int), fa_st (pm_nw w3 nd2 8 v1 v2 (-1) (si1 : Int)) 194 si1 (nd2 : Int)) := by
  obtain ⟨a1, a2, a3, a4, lb0⟩ := ps_SI_x hs
  obtain ⟨b1, b2, b3, b4, b5, b6⟩ := ps_PO_x o1
  obtain ⟨d1, d2, d3, d4, d5, d6⟩ := ps_PO_x o2
  have j2 := ps_PO_SI i2 o2
  obtain ⟨y1, y2, y3, y4⟩ := g1
  obtain ⟨x1, x2, x3, x4⟩ := g2
  dsimp only at y1 y2 y3 y4 x1 x2 x3 x4
  have d5' : pk_ge (la1, ins1.length, si1, nd1) (la2, ins2.length, si2, nd2) := ⟨d5.1, d5.2.1, Nat.le_trans (Nat.le_succ _) d5.2.2.1, d5.2.2.2⟩
  have gN := pm_nw_fr (pm_fr_refl la2 ins2.length si2 nd2 sc.length w3) (Nat.le_refl nd2) 8 v1 v2 (-1) (si1 : Int)
  have gN1 := pm_nw_fr (pm_fr_refl la1 ins1.length si1 nd1 sc.length w3) d5.2.2.2 8 v1 v2 (-1) (si1 : Int)
  have gC : pm_fr la1 ins1.length si1 nd1 sc.length w3 (fa_st (pm_nw w3 nd2 8 v1 v2 (-1) (si1 : Int)) 194 si1 (nd2 : Int)) := pm_fr_st gN1 (Or.inr (Or.inr (Or.inl ⟨Or.inl rfl, Nat.le_refl _⟩)))
  have x4' : pm_fr la1 ins1.length si1 nd1 sc.length w2 w3 := pm_fr_mono x4 (Nat.le_refl _) (Nat.le_refl _) (Nat.le_succ _) (Nat.le_refl _) (Nat.le_refl _)
  have fA := pm_fr_k f x4' (pk_ge_refl _) (Nat.le_refl _)
  have fB := pm_fr_k fA gC (pk_ge_refl _) (Nat.le_refl _)
  have nn : ∀ o k, o ≠ 194 → fa_st (pm_nw w3 nd2 8 v1 v2 (-1) (si1 : Int)) 194 si1 (nd2 : Int) o k = pm_nw w3 nd2 8 v1 v2 (-1) (si1 : Int) o k := fun o k q => fa_st_ne (fun z => q z.1)
  have k := pm_nw_k w3 nd2 8 v1 v2 (-1) (si1 : Int)
  have hN := pm_S_node x2 8 v1 v2 (-1) (si1 : Int)
  refine ⟨pm_node x2.2.2.1 x2.2.2.2.1 (ps_SI_x j2).2.2.1 _ _ _ _ _, rfl, ?_, ?_, pm_fr_k y4 fB b5 (Nat.le_refl _)⟩
  · obtain ⟨h1, h2, h3, h4, h5, h6, h7, h8, h9, h10, h11, h12, h13, h14, h15⟩ := id hN
    show pm_S c n fr (gl, sc, ow, ne) (p2, th2, la2, ins2, lt2, si2, nd2 + 1) (fa_st (pm_nw w3 nd2 8 v1 v2 (-1) (si1 : Int)) 194 si1 (nd2 : Int))
    refine pm_S_up hN (fun k => nn 196 _ (by decide)) (fun k => nn 190 _ (by decide)) (fun k _ => nn 198 _ (by decide)) (fun b _ => nn 192 _ (by decide)) (nn 181 _ (by decide)) (nn 181 _ (by decide)) (nn 181 _ (by decide)) (nn 181 _ (by decide)) ?_ ?_ ?_ ?_ ?_ ?_ ?_ ?_ ?_
    · rw [nn 181 _ (by decide)]; exact h2
    · rw [nn 181 _ (by decide)]; exact h3
    · rw [nn 181 _ (by decide)]; exact h4
    · rw [nn 181 _ (by decide)]; exact h5
    · rw [nn 181 _ (by decide)]; exact h6
    · rw [nn 181 _ (by decide)]; exact h7
    · rw [nn 181 _ (by decide)]; exact h8
    · rw [nn 181 _ (by decide)]; exact h9
    · rw [nn 181 _ (by decide)]; exact h10
  · show pm_H (pt_site si1 a b) ow nd (fa_st (pm_nw w3 nd2 8 v1 v2 (-1) (si1 : Int)) 194 si1 (nd2 : Int))
    refine ⟨?_, ?_, ?_, ?_, ?_, ?_, ?_, ?_⟩
    · exact pm_H_fr b2 b4 b3 lb0 fB y3
    · rw [b6]
      refine pm_H_tr b d2 gl sc _ (la1, ins1.length, si1 + 1, nd1) (la2, ins2.length, si2, nd2) _ _ 6 (by omega) (by omega) d4 d3 (pk_lbs lb0 b5) ?_ x3
      have hh := pm_fr_ht (G := 6) (k := (la1, ins1.length, si1 + 1, nd1)) (k' := (la2, ins2.length, si2, nd2)) gN
      exact ⟨fun o j p q r s => (nn o j (by omega)).trans (hh.1 o j p q r s), fun o j p r s => (fa_st_ne (fun z => by have := z.2; dsimp only at r; omega)).trans (hh.2.1 o j p r s), fun o j p r s => (nn o j (by omega)).trans (hh.2.2.1 o j p r s), fun o v p r s => (nn o v (by omega)).trans (hh.2.2.2.1 o v p r s), fun j s => (nn 190 j (by decide)).trans (hh.2.2.2.2 j s)⟩
    · rw [b6, d6, nn 184 _ (by decide)]; exact k.1
    · rw [b6, d6, nn 185 _ (by decide)]; exact k.2.1.trans y1
    · rw [b6, d6, nn 186 _ (by decide)]; exact k.2.2.1.trans x1
    · rw [b6, d6, nn 188 _ (by decide)]; exact k.2.2.2.2
    · rw [b6, d6, fa_st_eq]
    · rw [nn 195 _ (by decide), pm_nw_o _ _ _ _ _ _ _ (Or.inl (by decide)), x4.2.2.1 195 si1 (Or.inr rfl) (Nat.lt_succ_self _)]
      exact h195
theorem pm_tst_R {c : Nat → Int} {n : Nat} {fr : Bool} {rs : ps_E → ps_S → ps_R} {rm : fa_W → Option (Int × fa_W)} (hx : ps_TX c n) (hn : n ≤ 40000) (hp : ps_RC n rs) (hr : pm_RC c n fr rs rm) {e : ps_E} {s : ps_S} {w : fa_W} (hs : ps_SI n e s) (hS : pm_S c n fr e s w) (hne : ps_tst c n rs e s ≠ none) : pb_ok (fm_Mod_test_b rm w) (pm_R c n fr e s w (ps_tst c n rs e s)) := by
  unfold ps_tst at hne ⊢
  unfold fm_Mod_test_b
  have n1 : rs e s ≠ none := by
    intro r
    rw [r] at hne
    exact hne rfl
  refine pb_bdm (hr _ _ _ hs hS n1) (fun v1 w1 g => ?_)
  cases hq : rs e s with
  | none => exact absurd hq n1
  | some r =>
  rw [hq] at g hne
  cases r with
  | error z =>
    have g21 : w1 181 28 = (z : Int) := g.2.1
    rw [pm_hft g21 (Nat.le_trans g.1 hn), if_pos rfl]
    exact pb_some g
  | ok y =>
  obtain ⟨a, S1⟩ := y
  have o1 := hp _ _ _ _ hs hq
  have i1 := ps_PO_SI hs o1
  obtain ⟨gl, sc, ow, ne⟩ := e
  obtain ⟨p, th, la, ins, lt, si, nd⟩ := s
  obtain ⟨p1, th1, la1, ins1, lt1, si1, nd1⟩ := S1
  have g0 := g
  obtain ⟨y1, y2, y3, y4⟩ := g
  dsimp only at y1 y2 y3 y4
  dsimp only [ps_bd] at hne ⊢
  obtain ⟨pt1, e26, l26, s26⟩ := y2.2.1
  rw [pm_hf y2.2.2.1, if_neg (by decide)]
  have tk := pm_takes (k := 60) y2.1 e26 l26 (by decide)
  rw [s26] at tk
  rw [show ((60 : Nat) : Int) = 60 from rfl] at tk
  rw [tk]
  have z := ps_sk_p hx p1 i1.1
  by_cases k1 : ps_tk c n (ps_sk c n p1) = 60
  · rw [if_pos k1] at hne ⊢
    rw [if_pos k1, pb_bds, if_pos rfl, fa_st_eq]
    have e1 : ((ps_sk c n p1 + 1 : Nat) : Int) - 1 = ((ps_sk c n p1 : Nat) : Int) := by omega
    have lx : pm_lx w1 (fa_st (pm_bl w1 (ps_sk c n p1)) 181 26 ((ps_sk c n p1 + 1 : Nat) : Int)) (ps_sk c n p1 + 1) := pm_lx_tr (pm_lx_bl w1 _) (pm_lx_st _)
    have zz := ps_sign hx i1.1 (by decide) (by decide) k1
    have S2 := pm_S_lx (p' := ps_sk c n p1 + 1) y2 lx (Nat.succ_le_of_lt zz.2.1) rfl
    have f2 : pm_fr la1 ins1.length si1 nd1 sc.length w1 _ := pm_fr_lx (pm_fr_refl _ _ _ _ _ _) lx
    generalize fa_st (pm_bl w1 (ps_sk c n p1)) 181 26 ((ps_sk c n p1 + 1 : Nat) : Int) = w2 at S2 f2 ⊢
    rw [e1, pm_begins S2.2.2.1 S2.2.2.2.2.1 (ps_SI_x i1).2.1]
    by_cases c2 : th1 = 100
    · rw [if_pos c2, if_pos c2]
      exact pb_some (pm_R_er z.2.1 (by dsimp only; exact fa_st_eq _ _ _ _) (pm_fo_s (pm_fo_tr y4.1 f2.1) rfl) (pm_po_s (pm_po_S S2) (Or.inr (by decide))))
    rw [if_neg c2] at hne
    rw [if_neg c2, if_neg c2]
    dsimp only [fa_l2]
    rw [if_pos rfl]
    have S3 := pm_S_th S2
    have f3 : pm_fr la1 ins1.length si1 nd1 sc.length w1 (fa_st w2 181 35 ((th1 + 1 : Nat) : Int)) := pm_fr_s f2 rfl
    generalize fa_st w2 181 35 ((th1 + 1 : Nat) : Int) = w3 at S3 f3 ⊢
    have i2 : ps_SI n (gl, sc, ow, ne) (ps_sk c n p1 + 1, th1 + 1, la1, ins1, lt1, si1, nd1) := ps_SI_op (d := 0) i1 (q := ps_sk c n p1 + 1) (Nat.le_trans z.1 (Nat.le_succ _)) (Nat.succ_le_of_lt zz.2.1) c2 (by decide)
    have n2 : rs (gl, sc, ow, ne) (ps_sk c n p1 + 1, th1 + 1, la1, ins1, lt1, si1, nd1) ≠ none := by
      intro r
      rw [r] at hne
      exact hne rfl
    refine pb_bdm (hr _ _ _ i2 S3 n2) (fun v2 w4 g => ?_)
    cases hq2 : rs (gl, sc, ow, ne) (ps_sk c n p1 + 1, th1 + 1, la1, ins1, lt1, si1, nd1) with
    | none => exact absurd hq2 n2
    | some r =>
    rw [hq2] at g hne
    cases r with
    | error z2 =>
      have g21 : w4 181 28 = (z2 : Int) := g.2.1
      rw [pm_node_f g21 (Nat.le_trans g.1 hn)]
      exact pb_some (pm_R_er g.1 g21 (pm_fo_tr (pm_fo_tr y4.1 f3.1) g.2.2.1) g.2.2.2)
    | ok y =>
      obtain ⟨b, S4⟩ := y
      have o2 := hp _ _ _ _ i2 hq2
      obtain ⟨p2, th2, la2, ins2, lt2, si2, nd2⟩ := S4
      have fin := pm_op_R (o := 60) hs o1 g0 f3 i2 o2 g
      rw [show (60 : Int) = ((60 : Nat) : Int) from rfl, fin.1]
      exact pb_some fin.2
  · rw [if_neg k1] at hne ⊢
    rw [if_neg k1, pb_bds, if_neg (by decide)]
    refine pb_some ⟨y1, pm_S_lx (p' := p1) y2 (pm_lx_bl w1 _) z.2.1 (ps_sk_sk hx i1.1), ?_, pm_fr_lx y4 (pm_lx_bl w1 _)⟩
    obtain ⟨b1, b2, b3, b4, b5, b6⟩ := ps_PO_x o1
    exact pm_H_fr b2 b4 b3 (ps_SI_x hs).2.2.2.2 (pm_fr_lx (pm_fr_refl _ _ _ _ sc.length _) (pm_lx_bl w1 _)) y3
