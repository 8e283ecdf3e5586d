theorem pm_S_pop {c : Nat → Int} {n : Nat} {fr : Bool} {gl : List Nat} {b : Nat × Nat} {sc : List (Nat × Nat)} {ow : Int} {ne : Nat} {S : ps_S} {w : fa_W} (h : pm_S c n fr (gl, b :: sc, ow, ne) S w) : w 181 33 - 1 = (sc.length : Int) ∧ pm_S c n fr (gl, sc, ow, ne) S (fa_st w 181 33 (sc.length : Int)) := by
  obtain ⟨p, th, la, ins, lt, si, nd⟩ := S
  obtain ⟨h1, h2, h3, h4, h5, h6, h7, h8, h9, h10, h11, h12, h13, h14, h15⟩ := h
  have nn : ∀ o k, ¬ (o = 181 ∧ k = 33) → fa_st w 181 33 (sc.length : Int) o k = w o k := by
    intro o k r
    rw [fa_st_ne (by omega)]
  refine ⟨by rw [h14, List.length_cons]; omega, pm_tx_of h1 (nn _ _ (by decide)) (fun k => nn _ _ (by omega)), ?_, ?_, ?_, ?_, ?_, ?_, ?_, ?_, ?_, ?_, ?_, ?_, ?_, ?_⟩
  · rw [nn _ _ (by decide)]; exact h2
  · rw [nn _ _ (by decide)]; exact h3
  · rw [nn _ _ (by decide)]; exact h4
  · rw [nn _ _ (by decide)]; exact h5
  · rw [nn _ _ (by decide)]; exact h6
  · rw [nn _ _ (by decide)]; exact h7
  · rw [nn _ _ (by decide)]; exact h8
  · rw [nn _ _ (by decide)]; exact h9
  · rw [nn _ _ (by decide)]; exact h10
  · rw [nn _ _ (by decide)]; exact h11
  · rw [nn _ _ (by decide)]; exact h12
  · intro k x r
    rw [nn _ _ (by omega)]; exact h13 k x r
  · rw [fa_st_eq]
  · exact pm_sc_of sc (fun k _ => nn _ _ (by omega)) (fun b _ => nn _ _ (by omega)) h15.2.2
theorem pm_fr_push {la li si nd sl v L : Nat} {w w1 w2 : fa_W} (h : pm_fr la li si nd sl w w1) (k9 : ∀ o k, ¬ ((o = 192 ∨ o = 193) ∧ k = v) → ¬ (o = 198 ∧ k = L) → ¬ (o = 181 ∧ k = 33) → w2 o k = w1 o k) (hv : ¬ pk_lb v la li) (hl : sl ≤ L) : pm_fr la li si nd sl w w2 := by
  obtain ⟨b1, b2, b3, b4, b5, b6⟩ := h
  refine ⟨⟨fun o k r => (k9 o k (by omega) (by omega) (by omega)).trans (b1.1 o k r), fun k r => (k9 _ k (by omega) (by omega) (by omega)).trans (b1.2 k r)⟩, fun o k r s t => (k9 o k (by omega) (by omega) (by omega)).trans (b2 o k r s t), fun o k r s => (k9 o k (by omega) (by omega) (by omega)).trans (b3 o k r s), fun o k r s => (k9 o k (by omega) (by omega) (by omega)).trans (b4 o k r s), fun o k r s => (k9 o k (fun q => hv (q.2 ▸ s)) (by omega) (by omega)).trans (b5 o k r s), fun k r => (k9 198 k (by omega) (by omega) (by omega)).trans (b6 k r)⟩
theorem ps_SI_y {n : Nat} {gl : List Nat} {sc : List (Nat × Nat)} {ow : Int} {ne p th la lt si nd : Nat} {ins : List Nat} (h : ps_SI n (gl, sc, ow, ne) (p, th, la, ins, lt, si, nd)) : sc.length < 124 ∧ ¬ pk_lb (24 + ins.length) la ins.length ∧ (∀ b ∈ sc, b.1 ≠ 24 + ins.length) ∧ si ≤ 100 ∧ la ≤ 18 := by
  obtain ⟨a1, a2, a3, a4, a5, a6, a7, a8, a9, a10, a11, a12, a13, a14, a15, a16, a17⟩ := h
  have nl : ¬ pk_lb (24 + ins.length) la ins.length := by unfold pk_lb; omega
  exact ⟨by omega, nl, fun b hb q => nl (q ▸ (a12 b hb).1), by omega, a5⟩
theorem ps_let_l {n : Nat} {gl : List Nat} {sc : List (Nat × Nat)} {ow ow' : Int} {ne ne' p th la lt si nd P th' p1 th1 la1 lt1 si1 nd1 : Nat} {ins ins1 : List Nat} {a : pt_T} (hs : ps_SI n (gl, sc, ow, ne) (p, th, la, ins, lt, si, nd)) (o1 : ps_PO n (gl, sc, ow', ne') (P, th', la, ins, lt + 1, si, nd) a (p1, th1, la1, ins1, lt1, si1, nd1)) (i1 : ps_SI n (gl, sc, ow', ne') (p1, th1, la1, ins1, lt1, si1, nd1)) : 24 + ins1.length < 124 := by
  obtain ⟨a1, a2, a3, a4, a5, a6, a7, a8, a9, a10, a11, a12, a13, a14, a15, a16, a17⟩ := hs
  obtain ⟨b1, b2, b3, b4, b5, b6, b7, b8, b9, b10, b11, b12, b13, b14, b15, b16, b17⟩ := o1
  obtain ⟨c1, c2, c3, c4, c5, c6, c7, c8, c9, c10, c11, c12, c13, c14, c15, c16, c17⟩ := i1
  omega
theorem pm_let_R {c : Nat → Int} {n : Nat} {fr : Bool} {rs : ps_E → ps_S → ps_R} {rm : fa_W → Option (Int × fa_W)} (hx : ps_TX c n) (hn : n ≤ 40000) (hp : ps_RC n rs) (hr : pm_RC c n fr rs rm) (hF : ∀ (w : fa_W) (z : Nat), w 181 28 = (z : Int) → z ≤ 40000 → rm w = some (-1, w)) {e : ps_E} {s : ps_S} {w : fa_W} (hs : ps_SI n e s) (hS : pm_S c n fr e s w) (hpt : w 181 26 = (ps_sk c n s.1 : Int)) (hk : ps_tk c n (ps_sk c n s.1) = 7103860) (hne : ps_let c n fr rs e s ≠ none) : pb_ok (fm_Mod_let_b rm w) (pm_R c n fr e s w (ps_let c n fr rs e s)) := by
  obtain ⟨gl, sc, ow, ne⟩ := e
  obtain ⟨p, th, la, ins, lt, si, nd⟩ := s
  dsimp only at hpt hk
  obtain ⟨a1, a2, a3, a4, lb0⟩ := ps_SI_x hs
  have z0 : ps_te c n (ps_sk c n p) ≤ n := (ps_word_len hx (s := ps_sk c n p) (by omega)).1
  have z0' := (ps_sk_p hx p a1).2.1
  have z0'' := (ps_sk_p hx p a1).1
  have sks := ps_sk_sk hx a1
  dsimp only [ps_let] at hne ⊢
  unfold fm_Mod_let_b
  rw [hpt]
  dsimp only [fa_let]
  refine pm_open2 hn z0' hs hS _ _ (fun q => if_pos q) (fun c2 c3 So fo => ?_)
  have cc : ¬ (th = 100 ∨ ne = 20 ∧ fr = false) := fun q => q.elim c2 c3
  rw [if_neg cc] at hne ⊢
  have wd : (fa_st (fa_st w 181 35 ((th + 1 : Nat) : Int)) 181 29 ((ne + 1 : Nat) : Int)) 181 26 = ((ps_sk c n p : Nat) : Int) := by rw [fa_st_ne (by decide), fa_st_ne (by decide)]; exact hpt
  generalize fa_st (fa_st w 181 35 ((th + 1 : Nat) : Int)) 181 29 ((ne + 1 : Nat) : Int) = w4 at So fo wd ⊢
  refine pb_bindm (pm_asksWord (K := 7103860) So.1 wd z0' So.2.2.1 rfl) (fun w5 q => ?_)
  rw [sks] at q
  rcases q with ⟨_, q2⟩ | ⟨q1, _⟩
  rotate_left
  · exact absurd hk q1
  have S5 := pm_S_lx (p' := ps_te c n (ps_sk c n p)) So q2 z0 rfl
  have f5 := pm_fr_lx fo q2
  clear cc c3 So fo wd z0' a2 a3 a4
  have bad3 : ∀ (u1 u2 u3 : Int) (w' : fa_W) (z : Nat), z ≤ n → w' 181 28 = (z : Int) → pm_fo w w' → pm_po n w' → pb_ok (fa_bd (fm_Mod_node 6 u1 u2 u3 0 (fa_st (fa_st w' 181 33 ((w' 181 33) - 1)) 181 29 (((fa_st w' 181 33 ((w' 181 33) - 1)) 181 29) - 1))) fun v27 w28 => some (v27, w28)) (pm_R c n fr (gl, sc, ow, ne) (p, th, la, ins, lt, si, nd) w (ps_er z)) := by
    intro u1 u2 u3 w' z hz hf ho hpo
    rw [pm_node_f (z := z) (by rw [fa_st_ne (by decide), fa_st_ne (by decide)]; exact hf) (Nat.le_trans hz hn)]
    exact pb_some (pm_R_er hz (by dsimp only; rw [fa_st_ne (by decide), fa_st_ne (by decide)]; exact hf) (pm_fo_s (pm_fo_s ho rfl) rfl) (pm_po_s (pm_po_s hpo (Or.inr (by decide))) (Or.inr (by decide))))
  refine pb_bdm (pm_gives S5.1 q2.1 z0 S5.2.2.1) (fun v13 w6 g => ?_)
  dsimp only at g
  dsimp only [ps_nm] at hne ⊢
  rcases g with ⟨g1, g2, g3, _⟩ | ⟨g1, g2⟩
  rotate_left
  · have zz := (ps_sk_p hx _ z0).2.1
    rw [if_neg g1, pm_asks_f g2.1 (Nat.le_trans zz hn)]
    dsimp only [Option.bind_some]
    rw [hF w6 _ g2.1 (Nat.le_trans zz hn), pb_bds, pm_asksWord_f g2.1 (Nat.le_trans zz hn)]
    dsimp only [Option.bind_some]
    rw [pm_hft g2.1 (Nat.le_trans zz hn), if_pos rfl]
    exact pb_some (pm_R_er zz g2.1 (pm_fo_tr f5.1 (pm_fl_fo g2)) (pm_po_fl g2 zz))
  rw [if_pos g1] at hne ⊢
  have z1 := (ps_name hx g1).2.2.2
  have S6 := pm_S_lx (p' := ps_te c n (ps_sk c n (ps_te c n (ps_sk c n p)))) S5 g3 z1 rfl
  have f6 := pm_fr_lx f5 g3
  refine pb_bindm (pm_asks (k := 61) S6.1 g3.1 z1 S6.2.2.1 (by decide)) (fun w7 q => ?_)
  dsimp only [ps_ex] at hne ⊢
  rcases q with ⟨k1, k2⟩ | ⟨k1, k2⟩
  rotate_left
  · have zz := (ps_sk_p hx _ z1).2.1
    rw [if_neg k1]
    rw [hF w7 _ k2.1 (Nat.le_trans zz hn), pb_bds, pm_asksWord_f k2.1 (Nat.le_trans zz hn)]
    dsimp only [Option.bind_some]
    rw [pm_hft k2.1 (Nat.le_trans zz hn), if_pos rfl]
    exact pb_some (pm_R_er zz k2.1 (pm_fo_tr f6.1 (pm_fl_fo k2)) (pm_po_fl k2 zz))
  rw [if_pos k1] at hne ⊢
  obtain ⟨i1, nm, p6⟩ := ps_let_si hx hs hk c2 g1 k1
  have sg := ps_sign hx z1 (by decide) (by decide) k1
  have S7 := pm_S_lx (p' := ps_te c n (ps_sk c n (ps_te c n (ps_sk c n (ps_te c n (ps_sk c n p)))))) S6 k2 (Nat.succ_le_of_lt sg.2.1) (by rw [sg.2.2])
  have S7 : pm_S c n fr (gl, sc, ow, ne + 1) (ps_te c n (ps_sk c n (ps_te c n (ps_sk c n (ps_te c n (ps_sk c n p))))), th + 1, la, ins, lt + 1, si, nd) w7 := S7
  have f7 := pm_fr_lx f6 k2
  have n1 : rs (gl, sc, ow, ne + 1) (ps_te c n (ps_sk c n (ps_te c n (ps_sk c n (ps_te c n (ps_sk c n p))))), th + 1, la, ins, lt + 1, si, nd) ≠ none := by
    intro r
    rw [r] at hne
    exact hne rfl
  refine pb_bdm (hr _ _ _ i1 S7 n1) (fun v1 w8 g => ?_)
  have q6 : p + 6 ≤ ps_te c n (ps_sk c n (ps_te c n (ps_sk c n (ps_te c n (ps_sk c n p))))) := Nat.le_trans (Nat.add_le_add_right z0'' 6) p6
  generalize ps_te c n (ps_sk c n (ps_te c n (ps_sk c n (ps_te c n (ps_sk c n p))))) = P at i1 n1 hne g q6 ⊢
  generalize ps_tv c n (ps_sk c n (ps_te c n (ps_sk c n p))) = X at nm g2 hne ⊢
  cases hq : rs (gl, sc, ow, ne + 1) (P, th + 1, la, ins, lt + 1, si, nd) with
  | none => exact absurd hq n1
  | some r =>
  rw [hq] at g hne
  cases r with
  | error z =>
    have zz := Nat.le_trans g.1 hn
    rw [pm_asksWord_f g.2.1 zz]
    dsimp only [Option.bind_some]
    have g21 : w8 181 28 = (z : Int) := g.2.1
    rw [pm_hft g21 zz, if_pos rfl]
    exact pb_some (pm_R_er g.1 g21 (pm_fo_tr f7.1 g.2.2.1) g.2.2.2)
  | ok y =>
  obtain ⟨ta, S1⟩ := y
  have o1 := hp _ _ _ _ i1 hq
  have j1 := ps_PO_SI i1 o1
  obtain ⟨p1, th1, la1, ins1, lt1, si1, nd1⟩ := S1
  obtain ⟨b1, b2, b3, b4, b5, b6⟩ := ps_PO_x o1
  obtain ⟨y1, y2, y3, y4⟩ := g
  dsimp only at y1 y2 y3 y4
  dsimp only [ps_bd] at hne ⊢
  obtain ⟨pt1, e26, l26, s26⟩ := y2.2.1
  refine pb_bindm (pm_asksWord (K := 26990) y2.1 e26 l26 y2.2.2.1 rfl) (fun w9 q => ?_)
  rw [s26] at q
  have f8 := pm_fr_k f7 y4 (pk_ge_refl _) (Nat.le_refl _)
  have zs1 := (ps_sk_p hx p1 b1).2.1
  rcases q with ⟨q1, q3⟩ | ⟨q1, q3⟩
  rotate_left
  · rw [if_neg q1]
    rw [pm_hft q3.1 (Nat.le_trans zs1 hn), if_pos rfl]
    exact pb_some (pm_R_er zs1 q3.1 (pm_fo_tr f8.1 (pm_fl_fo q3)) (pm_po_fl q3 zs1))
  rw [if_pos q1] at hne ⊢
  obtain ⟨i2, el⟩ := ps_let_sj hx hs q6 i1 o1 nm q1
  have S9 := pm_S_lx (p' := ps_te c n (ps_sk c n p1)) y2 q3 (ps_SI_x i2).1 rfl
  have f9 := pm_fr_lx f8 q3
  rw [pm_hf S9.2.2.1, if_neg (by decide)]
  obtain ⟨l2, l3, l4, _, _⟩ := ps_SI_y j1
  have l1 := ps_let_l hs o1 j1
  have e19 : w9 181 19 = (ins1.length : Int) := S9.2.2.2.2.2.2.1
  have e30 : w9 181 30 = ow := S9.2.2.2.2.2.2.2.2.2.1
  obtain ⟨w10, e10, S10, n10, m10, k10⟩ := pm_S_push (x := X) (hm := ow) S9 l1 l2 l4
  have e24 : (24 : Int) + (ins1.length : Int) = ((24 + ins1.length : Nat) : Int) := rfl
  rw [e19, e24, e30, g2, e10, pb_bds]
  have f10 : pm_fr la1 ins1.length si1 nd1 sc.length w8 w10 := pm_fr_push (pm_fr_lx (pm_fr_refl _ _ _ _ _ _) q3) k10 l3 (Nat.le_refl _)
  have e19' : w10 181 19 + 1 = ((ins1.length + 1 : Nat) : Int) := by
    rw [k10 181 19 (by omega) (by omega) (by omega), e19]
    rfl
  rw [e19']
  have f11 : pm_fr la1 ins1.length si1 nd1 sc.length w8 (fa_st w10 181 19 ((ins1.length + 1 : Nat) : Int)) := pm_fr_s f10 rfl
  have S11 : pm_S c n fr (gl, (24 + ins1.length, X) :: sc, ow, ne + 1) (ps_te c n (ps_sk c n p1), th1, la1, ins1 ++ [24 + lt], lt1, si1, nd1) (fa_st w10 181 19 ((ins1.length + 1 : Nat) : Int)) := by
    obtain ⟨h1, h2, h3, h4, h5, h6, h7, h8, h9, h10, h11, h12, h13, h14, h15⟩ := id S10
    have nn : ∀ o k, ¬ (o = 181 ∧ k = 19) → fa_st w10 181 19 ((ins1.length + 1 : Nat) : Int) o k = w10 o k := by
      intro o k r
      rw [fa_st_ne (by omega)]
    refine pm_S_up S10 (fun k => nn _ _ (by omega)) (fun k => nn _ _ (by omega)) (fun k _ => nn _ _ (by omega)) (fun b _ => nn _ _ (by omega)) (nn _ _ (by decide)) (nn _ _ (by decide)) (nn _ _ (by decide)) (nn _ _ (by decide)) ?_ ?_ ?_ ?_ ?_ ?_ ?_ ?_ ?_
    · rw [nn _ _ (by decide)]; exact h2
    · rw [nn _ _ (by decide)]; exact h3
    · rw [nn _ _ (by decide)]; exact h4
    · rw [nn _ _ (by decide)]; exact h5
    · rw [nn _ _ (by decide)]; exact h6
    · rw [fa_st_eq, el]
    · rw [nn _ _ (by decide)]; exact h8
    · rw [nn _ _ (by decide)]; exact h9
    · rw [nn _ _ (by decide)]; exact h10
  have n11 : fa_st w10 181 19 ((ins1.length + 1 : Nat) : Int) 192 (24 + ins1.length) = ((pm_cv X : Nat) : Int) := by rw [fa_st_ne (by omega)]; exact n10
  have m11 : fa_st w10 181 19 ((ins1.length + 1 : Nat) : Int) 193 (24 + ins1.length) = ow := by rw [fa_st_ne (by omega)]; exact m10
  generalize fa_st w10 181 19 ((ins1.length + 1 : Nat) : Int) = w11 at S11 f11 n11 m11 ⊢
  have f12 := pm_fr_k f8 f11 b5 (Nat.le_refl _)
  have n2 : rs (gl, (24 + ins1.length, X) :: sc, ow, ne + 1) (ps_te c n (ps_sk c n p1), th1, la1, ins1 ++ [24 + lt], lt1, si1, nd1) ≠ none := by
    intro r
    rw [r] at hne
    exact hne rfl
  refine pb_bdm (hr _ _ _ i2 S11 n2) (fun v2 w12 g => ?_)
  cases hq2 : rs (gl, (24 + ins1.length, X) :: sc, ow, ne + 1) (ps_te c n (ps_sk c n p1), th1, la1, ins1 ++ [24 + lt], lt1, si1, nd1) with
  | none => exact absurd hq2 n2
  | some r =>
  rw [hq2] at g hne
  cases r with
  | error z => exact bad3 v1 v2 _ w12 z g.1 g.2.1 (pm_fo_tr f12.1 g.2.2.1) g.2.2.2
  | ok y =>
  obtain ⟨tb, S2⟩ := y
  have o2 := hp _ _ _ _ i2 hq2
  have j2 := ps_PO_SI i2 o2
  obtain ⟨p2, th2, la2, ins2, lt2, si2, nd2⟩ := S2
  obtain ⟨d1, d2, d3, d4, d5, d6⟩ := ps_PO_x o2
  obtain ⟨x1, x2, x3, x4⟩ := g
  dsimp only at x1 x2 x3 x4
  rw [el] at d4 d5 x4
  have d5' : pk_ge (la1, ins1.length, si1, nd1) (la2, ins2.length, si2, nd2) := ⟨d5.1, Nat.le_trans (Nat.le_succ _) d5.2.1, d5.2.2⟩
  have x4' : pm_fr la1 (ins1.length + 1) si1 nd1 (sc.length + 1) w11 w12 := x4
  have x5 : pm_fr la1 ins1.length si1 nd1 sc.length w11 w12 := pm_fr_mono x4' (Nat.le_refl _) (Nat.le_succ _) (Nat.le_refl _) (Nat.le_refl _) (Nat.le_succ _)
  obtain ⟨po1, po2⟩ := pm_S_pop x2
  have gA : pm_fr la2 ins2.length si2 nd2 sc.length w12 (fa_st w12 181 33 (sc.length : Int)) := pm_fr_s (pm_fr_refl _ _ _ _ _ _) rfl
  dsimp only
  rw [po1]
  generalize fa_st w12 181 33 (sc.length : Int) = w13 at po2 gA ⊢
  obtain ⟨cl1, cl2⟩ := pm_S_close po2
  have gB : pm_fr la2 ins2.length si2 nd2 sc.length w12 (fa_st w13 181 29 (ne : Int)) := pm_fr_s gA rfl
  rw [cl1]
  generalize fa_st w13 181 29 (ne : Int) = w14 at cl2 gB ⊢
  rw [pm_node (nd := nd2) cl2.2.2.1 cl2.2.2.2.1 (ps_SI_x j2).2.2.1]
  have gC := pm_nw_fr gB (Nat.le_refl nd2) 6 v1 v2 ((24 + ins1.length : Nat) : Int) 0
  have l5' := pk_ge_tr b5 d5'
  refine pb_some ⟨rfl, pm_S_node cl2 _ _ _ _ _, ?_, pm_nw_fr (pm_fr_k (pm_fr_k f12 x5 b5 (Nat.le_refl _)) gB l5' (Nat.le_refl _)) l5'.2.2.2 _ _ _ _ _⟩
  have k := pm_nw_k w14 nd2 6 v1 v2 ((24 + ins1.length : Nat) : Int) 0
  have lv : pk_lb (24 + ins1.length) la1 (ins1.length + 1) := Or.inr ⟨Nat.le_add_right _ _, Nat.lt_succ_self _⟩
  have lb1 : ∀ b ∈ (24 + ins1.length, X) :: sc, pk_lb b.1 la1 (ins1.length + 1) := by
    intro b hb
    rcases List.mem_cons.mp hb with rfl | hb
    · exact lv
    · exact pk_lb_mono (lb0 b hb) b5.1 (Nat.le_trans b5.2.1 (Nat.le_succ _))
  refine ⟨?_, ?_, ?_, ?_, ?_, ?_, ?_, ?_⟩
  · exact pm_H_fr b2 b4 b3 lb0 (pm_fr_k (pm_fr_k f11 x5 (pk_ge_refl _) (Nat.le_refl _)) gC d5' (Nat.le_refl _)) y3
  · rw [b6]; exact pm_H_fr d2 d4 d3 lb1 gC x3
  · rw [b6, d6]; exact k.1
  · rw [b6, d6]; exact k.2.1.trans y1
  · rw [b6, d6]; exact k.2.2.1.trans x1
  · rw [b6, d6]; exact k.2.2.2.1
  · have a := (pm_fr_k (pm_fr_mono x4' (Nat.le_refl _) (Nat.le_refl _) (Nat.le_refl _) (Nat.le_refl _) (Nat.le_succ _) : pm_fr la1 (ins1.length + 1) si1 nd1 sc.length w11 w12) gC d5 (Nat.le_refl _)).2.2.2.2.1 192 _ (Or.inl rfl) lv
    exact a.trans n11
  · have a := (pm_fr_k (pm_fr_mono x4' (Nat.le_refl _) (Nat.le_refl _) (Nat.le_refl _) (Nat.le_refl _) (Nat.le_succ _) : pm_fr la1 (ins1.length + 1) si1 nd1 sc.length w11 w12) gC d5 (Nat.le_refl _)).2.2.2.2.1 193 _ (Or.inr rfl) lv
    exact a.trans m11
