theorem ps_di_in {x : Int} (h : ps_di x = true) : 48 ≤ x ∧ x ≤ 57 := by unfold ps_di at h; exact of_decide_eq_true h
theorem pm_num_l {c : Nat → Int} {n s : Nat} {w : fa_W} (ht : pm_tx c n w) (hs : s ≤ n) : ∀ (d j F : Nat), j + d = ps_de c n s - s → d < F → fm_Mod_number_l7 F (s : Int) ((ps_dv c s (min j 4) : Nat) : Int) (fa_st w 181 26 ((s + j : Nat) : Int)) = if ps_de c n s - s ≤ 4 then (fa_l2 (fm_Mod_begins (s : Int) (fa_st w 181 26 ((ps_de c n s : Nat) : Int))) fun v7 w8 => if v7 = true then (fa_bd (fm_Mod_node 0 (-1) (-1) (-1) ((ps_dv c s (ps_de c n s - s) : Nat) : Int) w8) fun v11 w12 => some (v11, w12)) else some (-1, w8)) else (fa_l2 (fm_Mod_fails (s : Int) (fa_st w 181 26 ((ps_de c n s : Nat) : Int))) fun v14 w15 => some (v14, w15)) := by
  have tn := ht.2.1
  have q := ps_de_p ht.1 s hs
  intro d
  induction d with
  | zero =>
    intro j F hj hF
    obtain ⟨F, rfl⟩ : ∃ z, F = z + 1 := ⟨F - 1, by omega⟩
    have ej : s + j = ps_de c n s := by omega
    rw [ej]
    unfold fm_Mod_number_l7
    have nd := q.2.2.1
    unfold ps_di at nd
    have nd := of_decide_eq_false nd
    rw [pm_isAt (pm_tx_st ht (by decide)) (fa_st_eq _ _ _ _) q.2.1 (by omega) (by omega) (by omega), decide_eq_false nd, fa_st_eq]
    dsimp only [Option.bind_some]
    rw [if_neg (by decide)]
    have e1 : ((ps_de c n s : Nat) : Int) - (s : Int) = ((ps_de c n s - s : Nat) : Int) := by omega
    rw [e1, pb_wr (by omega)]
    by_cases h4 : ps_de c n s - s ≤ 4
    · rw [if_pos h4, if_pos (by omega), show min j 4 = ps_de c n s - s by omega]
    · rw [if_neg h4, if_neg (by omega)]
  | succ d ih =>
    intro j F hj hF
    obtain ⟨F, rfl⟩ : ∃ z, F = z + 1 := ⟨F - 1, by omega⟩
    have hc := ps_di_in (q.2.2.2 (s + j) (by omega) (by omega))
    unfold fm_Mod_number_l7 fm_Mod_number_j46
    rw [pm_isAt (pm_tx_st ht (by decide)) (fa_st_eq _ _ _ _) (show s + j ≤ n by omega) (by omega) (by omega) (by omega), decide_eq_true hc, fa_st_eq]
    dsimp only [Option.bind_some, fa_let]
    rw [if_pos rfl, pb_st_st]
    have e1 : ((s + j : Nat) : Int) - (s : Int) = ((j : Nat) : Int) := by omega
    have e2 : ((s + j : Nat) : Int) + 1 = ((s + (j + 1) : Nat) : Int) := by omega
    rw [e1, e2, pb_wr (by omega), pb_ix (show s + j < 40000 by omega) (by decide)]
    have i := ih (j + 1) F (by omega) (by omega)
    by_cases h4 : 4 ≤ j
    · rw [if_pos (by omega)]
      rw [show min (j + 1) 4 = min j 4 by omega] at i
      exact i
    · rw [if_neg (by omega)]
      dsimp only [Option.bind_some]
      have e3 : (fa_st w 181 26 ((s + j : Nat) : Int)) 196 (s + j) = c (s + j) := by
        rw [fa_st_ne (by omega), ht.2.2.2 _ (by omega)]
        unfold pm_sb
        rw [if_pos (by omega)]
      rw [e3]
      rw [show min (j + 1) 4 = min j 4 + 1 by omega] at i
      have e4 : ((ps_dv c s (min j 4 + 1) : Nat) : Int) = 10 * ((ps_dv c s (min j 4) : Nat) : Int) + c (s + j) - 48 := by
        show ((10 * ps_dv c s (min j 4) + ((c (s + min j 4)).toNat - 48) : Nat) : Int) = _
        rw [show min j 4 = j by omega]
        omega
      rw [e4] at i
      exact i
theorem pm_atom_R {c : Nat → Int} {n : Nat} {fr : Bool} {rs : ps_E → ps_S → ps_R} {rm : fa_W → Option (Int × fa_W)} (hx : ps_TX c n) (hn : n ≤ 40000) (hp : ps_RC n rs) (hr : pm_RC c n fr rs rm) {e : ps_E} {s : ps_S} {w : fa_W} (hs : ps_SI n e s) (hS : pm_S c n fr e s w) (hne : ps_atom c n fr rs e s ≠ none) : pb_ok (fm_Mod_atom_b rm w) (pm_R c n fr e s w (ps_atom c n fr rs e s)) := by
  obtain ⟨gl, sc, ow, ne⟩ := e
  obtain ⟨p, th, la, ins, lt, si, nd⟩ := s
  obtain ⟨a1, a2, a3, a4, lb0⟩ := ps_SI_x hs
  have z := ps_sk_p hx p a1
  have ss := ps_sk_sk hx a1
  obtain ⟨pt, e26, l26, s26⟩ := hS.2.1
  unfold fm_Mod_atom_b
  rw [pm_hf hS.2.2.1, if_neg (by decide), pm_blanks hS.1 e26 l26, s26]
  dsimp only [Option.bind_some]
  have lx := pm_lx_bl w (ps_sk c n p)
  have S1 := pm_S_lx (p' := p) hS lx z.2.1 ss
  have f1 : pm_fr la ins.length si nd sc.length w (pm_bl w (ps_sk c n p)) := pm_fr_lx (pm_fr_refl _ _ _ _ _ _) lx
  have k26 := lx.1
  generalize pm_bl w (ps_sk c n p) = w1 at S1 f1 k26 ⊢
  clear lx
  rw [pm_isAt S1.1 k26 z.2.1 (by omega) (by omega) (by omega), pm_isAt S1.1 k26 z.2.1 (by omega) (by omega) (by omega)]
  dsimp only [Option.bind_some]
  have sg := ps_tk_sign (c := c) (n := n) (s := ps_sk c n p) (k := 40) (by decide)
  dsimp only [ps_atom] at hne ⊢
  by_cases k1 : ps_tk c n (ps_sk c n p) = 40
  · rw [if_pos k1] at hne ⊢
    have cs := sg.mp k1
    rw [if_pos (decide_eq_true (by omega)), k26, pm_opens (ne := ne) (fr := fr) S1.2.2.1 S1.2.2.2.2.2.2.2.2.1 (by omega) S1.2.2.2.2.2.2.2.2.2.2.1]
    by_cases c3 : ne = 20 ∧ fr = false
    · rw [if_pos c3, if_pos c3]
      exact pb_some (pm_R_er z.2.1 (by dsimp only; exact fa_st_eq _ _ _ _) (pm_fo_s f1.1 rfl) (pm_po_s (pm_po_S S1) (Or.inr (by decide))))
    rw [if_neg c3] at hne
    rw [if_neg c3, if_neg c3]
    dsimp only [fa_l2, fa_let]
    rw [if_pos rfl]
    have zz := ps_sign hx a1 (by decide) (by decide) k1
    have e26' : fa_st w1 181 29 ((ne + 1 : Nat) : Int) 181 26 + 1 = ((ps_sk c n p + 1 : Nat) : Int) := by rw [fa_st_ne (by decide), k26]; rfl
    rw [e26']
    have f2 : pm_fr la ins.length si nd sc.length w (fa_st (fa_st w1 181 29 ((ne + 1 : Nat) : Int)) 181 26 ((ps_sk c n p + 1 : Nat) : Int)) := pm_fr_s (pm_fr_s f1 rfl) rfl
    have S2 : pm_S c n fr (gl, sc, ow, ne + 1) (ps_sk c n p + 1, th, la, ins, lt, si, nd) (fa_st (fa_st w1 181 29 ((ne + 1 : Nat) : Int)) 181 26 ((ps_sk c n p + 1 : Nat) : Int)) := by
      obtain ⟨h1, h2, h3, h4, h5, h6, h7, h8, h9, h10, h11, h12, h13, h14, h15⟩ := id S1
      have nn : ∀ o k, ¬ (o = 181 ∧ (k = 29 ∨ k = 26)) → fa_st (fa_st w1 181 29 ((ne + 1 : Nat) : Int)) 181 26 ((ps_sk c n p + 1 : Nat) : Int) o k = w1 o k := by
        intro o k r
        rw [fa_st_ne (by omega), fa_st_ne (by omega)]
      refine pm_S_up S1 (fun k => nn 196 k (by omega)) (fun k => nn 190 k (by omega)) (fun k _ => nn 198 k (by omega)) (fun b _ => nn 192 _ (by omega)) (nn 181 _ (by decide)) (nn 181 _ (by decide)) (nn 181 _ (by decide)) (nn 181 _ (by decide)) ⟨ps_sk c n p + 1, fa_st_eq _ _ _ _, Nat.succ_le_of_lt zz.2.1, rfl⟩ ?_ ?_ ?_ ?_ ?_ ?_ ?_ ?_
      · rw [nn 181 _ (by decide)]; exact h3
      · rw [nn 181 _ (by decide)]; exact h4
      · rw [nn 181 _ (by decide)]; exact h5
      · rw [nn 181 _ (by decide)]; exact h6
      · rw [nn 181 _ (by decide)]; exact h7
      · rw [nn 181 _ (by decide)]; exact h8
      · rw [fa_st_ne (by decide), fa_st_eq]
      · rw [nn 181 _ (by decide)]; exact h10
    generalize fa_st (fa_st w1 181 29 ((ne + 1 : Nat) : Int)) 181 26 ((ps_sk c n p + 1 : Nat) : Int) = w2 at S2 f2 ⊢
    have i2 : ps_SI n (gl, sc, ow, ne + 1) (ps_sk c n p + 1, th, la, ins, lt, si, nd) := by
      obtain ⟨a1, a2, a3, a4, a5, a6, a7, a8, a9, a10, a11, a12, a13, a14, a15, a16, a17⟩ := hs
      exact ⟨by omega, a2, a3, a4, a5, a6, a7, by omega, by omega, by omega, a11, a12, a13, a14, a15, a16, by omega⟩
    have n2 : rs (gl, sc, ow, ne + 1) (ps_sk c n p + 1, th, la, ins, lt, si, nd) ≠ none := by
      intro r
      rw [r] at hne
      exact hne rfl
    refine pb_bdm (hr _ _ _ i2 S2 n2) (fun v3 w3 g => ?_)
    cases hq2 : rs (gl, sc, ow, ne + 1) (ps_sk c n p + 1, th, la, ins, lt, si, nd) with
    | none => exact absurd hq2 n2
    | some r =>
    rw [hq2] at g hne
    cases r with
    | error z2 =>
      have g21 : w3 181 28 = (z2 : Int) := g.2.1
      rw [pm_asks_f g21 (Nat.le_trans g.1 hn)]
      exact pb_some (pm_R_er g.1 (by dsimp only; rw [fa_st_ne (by decide)]; exact g21) (pm_fo_s (pm_fo_tr f2.1 g.2.2.1) rfl) (pm_po_s g.2.2.2 (Or.inr (by decide))))
    | ok y =>
      obtain ⟨b, S3⟩ := y
      have o2 := hp _ _ _ _ i2 hq2
      obtain ⟨p2, th2, la2, ins2, lt2, si2, nd2⟩ := S3
      obtain ⟨x1, x2, x3, x4⟩ := g
      dsimp only at x1 x2 x3 x4
      obtain ⟨d1, d2, d3, d4, d5, d6⟩ := ps_PO_x o2
      dsimp only [ps_bd, ps_ex]
      obtain ⟨pt2, f26, m26, t26⟩ := x2.2.1
      refine pb_bindm (pm_asks (k := 41) x2.1 f26 m26 x2.2.2.1 (by decide)) (fun w4 q => ?_)
      rw [t26] at q
      have f3 := pm_fr_k f2 x4 (pk_ge_refl _) (Nat.le_refl _)
      rcases q with ⟨q1, q3⟩ | ⟨q1, q3⟩
      · rw [if_pos q1]
        have zz2 := ps_sign hx d1 (by decide) (by decide) q1
        have S4 := pm_S_lx (p' := ps_te c n (ps_sk c n p2)) x2 q3 (Nat.succ_le_of_lt zz2.2.1) (by rw [zz2.2.2])
        obtain ⟨cl1, cl2⟩ := pm_S_close S4
        rw [cl1]
        have g4 : pm_fr la2 ins2.length si2 nd2 sc.length w3 (fa_st w4 181 29 (ne : Int)) := pm_fr_s (pm_fr_lx (pm_fr_refl _ _ _ _ _ _) q3) rfl
        exact pb_some ⟨x1, cl2, pm_H_fr d2 d4 d3 lb0 g4 x3, pm_fr_k f3 g4 d5 (Nat.le_refl _)⟩
      · rw [if_neg q1]
        exact pb_some (pm_R_er (ps_sk_p hx p2 d1).2.1 (by dsimp only; rw [fa_st_ne (by decide)]; exact q3.1) (pm_fo_s (pm_fo_tr f3.1 (pm_fl_fo q3)) rfl) (pm_po_s (pm_po_fl q3 (ps_sk_p hx p2 d1).2.1) (Or.inr (by decide))))
  rw [if_neg k1] at hne ⊢
  rw [if_neg (fun d => k1 (sg.mpr (by have := of_decide_eq_true d; omega)))]
  by_cases kd : ps_di (c (ps_sk c n p)) = true
  · have hd := ps_di_in kd
    have nl : ps_le (c (ps_sk c n p)) = false := by unfold ps_le; exact decide_eq_false (by omega)
    have snl : ps_sk c n p < n := by
      rcases Nat.lt_or_ge (ps_sk c n p) n with h | h
      · exact h
      · have := hx.1 _ h; omega
    rw [if_pos (decide_eq_true hd)]
    unfold fm_Mod_number
    rw [k26]
    dsimp only [fa_let]
    have dq := ps_de_p hx (ps_sk c n p) z.2.1
    have l7 := pm_num_l S1.1 z.2.1 (ps_de c n (ps_sk c n p) - ps_sk c n p) 0 fa_FU (by omega) (by unfold fa_FU; omega)
    have e0 : fa_st w1 181 26 ((ps_sk c n p + 0 : Nat) : Int) = w1 := pb_st_id k26
    rw [e0] at l7
    have e00 : ((ps_dv c (ps_sk c n p) (min 0 4) : Nat) : Int) = 0 := rfl
    rw [e00] at l7
    rw [l7]
    have tk : ps_tk c n (ps_sk c n p) = if 4 < ps_de c n (ps_sk c n p) - ps_sk c n p then 3 else 1 := by
      unfold ps_tk
      rw [nl, kd]
      rfl
    have lx2 : pm_lx w1 (fa_st w1 181 26 ((ps_de c n (ps_sk c n p) : Nat) : Int)) (ps_de c n (ps_sk c n p)) := pm_lx_st _
    have S2 := pm_S_lx (p' := ps_de c n (ps_sk c n p)) S1 lx2 dq.2.1 rfl
    have f2 := pm_fr_lx f1 lx2
    generalize fa_st w1 181 26 ((ps_de c n (ps_sk c n p) : Nat) : Int) = w2 at S2 f2 ⊢
    by_cases h4 : ps_de c n (ps_sk c n p) - ps_sk c n p ≤ 4
    · rw [if_neg (by omega)] at tk
      rw [if_pos h4, tk, if_pos rfl]
      have te : ps_te c n (ps_sk c n p) = ps_de c n (ps_sk c n p) := by
        unfold ps_te
        rw [nl, kd]
        rfl
      have tv : ps_tv c n (ps_sk c n p) = ps_dv c (ps_sk c n p) (ps_de c n (ps_sk c n p) - ps_sk c n p) := by
        unfold ps_tv
        rw [nl]
        rfl
      dsimp only [ps_leaf]
      rw [pm_begins S2.2.2.1 S2.2.2.2.2.1 a2]
      by_cases c2 : th = 100
      · rw [if_pos c2, if_pos c2]
        exact pb_some (pm_R_er z.2.1 (by dsimp only; exact fa_st_eq _ _ _ _) (pm_fo_s f2.1 rfl) (pm_po_s (pm_po_S S2) (Or.inr (by decide))))
      rw [if_neg c2, if_neg c2]
      dsimp only [fa_l2]
      rw [if_pos rfl, te, tv]
      have S3 := pm_S_th S2
      have f3 := pm_fr_s (k := 35) (v := ((th + 1 : Nat) : Int)) f2 rfl
      generalize fa_st w2 181 35 ((th + 1 : Nat) : Int) = w3 at S3 f3 ⊢
      have k := pm_nw_k w3 nd 0 (-1) (-1) (-1) ((ps_dv c (ps_sk c n p) (ps_de c n (ps_sk c n p) - ps_sk c n p) : Nat) : Int)
      refine pb_bdm (pm_leaf_R (p := p) (t := pt_num (ps_dv c (ps_sk c n p) (ps_de c n (ps_sk c n p) - ps_sk c n p))) (v := ((ps_dv c (ps_sk c n p) (ps_de c n (ps_sk c n p) - ps_sk c n p) : Nat) : Int)) a3 S3 f3 ⟨k.1, k.2.2.2.2⟩) (fun a b q => pb_some q)
    · rw [if_pos (by omega)] at tk
      rw [if_neg h4, tk, if_neg (by decide), if_neg (by decide), if_neg (by decide), pm_fails S2.2.2.1]
      exact pb_some (pm_R_er z.2.1 (by dsimp only; exact fa_st_eq _ _ _ _) (pm_fo_s f2.1 rfl) (pm_po_s (pm_po_S S2) (Or.inr (by decide))))
  have kd := Bool.eq_false_iff.mpr kd
  rw [if_neg (fun d => by
    have := of_decide_eq_true d
    unfold ps_di at kd
    exact absurd this (of_decide_eq_false kd))]
  rw [pm_word S1.1 k26 z.2.1, ss]
  have own := pm_own (s := ps_sk c n p) hx z.2.1 hn
  have hD := pm_WK (s := ps_sk c n p) (K := 1684365668) hx z.2.1 hn rfl
  rw [show pm_cv 1684365668 = 82408 from rfl] at hD
  have n1 : ps_tk c n (ps_sk c n p) ≠ 1 := by
    intro q
    have := (ps_num hx q).2.1
    rw [kd] at this
    cases this
  rw [if_neg n1] at hne ⊢
  have lx2 : pm_lx w1 (fa_st (pm_bl w1 (ps_sk c n p)) 181 34 ((ps_we c n (ps_sk c n p) - ps_sk c n p : Nat) : Int)) (ps_sk c n p) := by
    refine ⟨by rw [fa_st_ne (by decide), pm_bl_26], fun o k r => ?_⟩
    rw [fa_st_ne (by omega), pm_bl_ne _ _ (by omega)]
  have e34 : fa_st (pm_bl w1 (ps_sk c n p)) 181 34 ((ps_we c n (ps_sk c n p) - ps_sk c n p : Nat) : Int) 181 34 = ((ps_we c n (ps_sk c n p) - ps_sk c n p : Nat) : Int) := fa_st_eq _ _ _ _
  have S2 := pm_S_lx (p' := p) S1 lx2 z.2.1 ss
  have f2 := pm_fr_lx f1 lx2
  have k26' := lx2.1
  rw [pb_bds]
  generalize fa_st (pm_bl w1 (ps_sk c n p)) 181 34 ((ps_we c n (ps_sk c n p) - ps_sk c n p : Nat) : Int) = w2 at S2 f2 k26' e34 ⊢
  obtain ⟨FU, hFU⟩ : ∃ F, F = fa_FU := ⟨_, rfl⟩
  have bad : pb_ok (fm_Mod_atom_j115 rm w2) (pm_R c n fr (gl, sc, ow, ne) (p, th, la, ins, lt, si, nd) w (ps_er (ps_sk c n p))) := by
    unfold fm_Mod_atom_j115
    rw [pm_fails S2.2.2.1, k26']
    exact pb_some (pm_R_er z.2.1 (by dsimp only; exact fa_st_eq _ _ _ _) (pm_fo_s f2.1 rfl) (pm_po_s (pm_po_S S2) (Or.inr (by decide))))
  have good : ∀ (R : ps_R), ps_te c n (ps_sk c n p) = ps_we c n (ps_sk c n p) → (th = 100 → R = ps_er (ps_sk c n p)) → (th ≠ 100 → ∀ w3, pm_S c n fr (gl, sc, ow, ne) (ps_te c n (ps_sk c n p), th + 1, la, ins, lt, si, nd) w3 → pm_fr la ins.length si nd sc.length w w3 → pb_ok (if fa_wr ((pm_W c n (ps_sk c n p) : Nat) : Int) = 82408 then (fa_bd (fm_Mod_node 3 (-1) (-1) (-1) 0 w3) fun v49 w50 => some (v49, w50)) else fm_Mod_atom_l179 rm FU ((pm_W c n (ps_sk c n p) : Nat) : Int) ((ps_sk c n p : Nat) : Int) ((w3 181 33) - 1) w3) (pm_R c n fr (gl, sc, ow, ne) (p, th, la, ins, lt, si, nd) w R)) → pb_ok (fm_Mod_atom_j124 rm ((pm_W c n (ps_sk c n p) : Nat) : Int) w2) (pm_R c n fr (gl, sc, ow, ne) (p, th, la, ins, lt, si, nd) w R) := by
    intro R te h1 h2
    unfold fm_Mod_atom_j124
    rw [← hFU, k26', pm_begins S2.2.2.1 S2.2.2.2.2.1 a2]
    by_cases c2 : th = 100
    · rw [if_pos c2, h1 c2]
      exact pb_some (pm_R_er z.2.1 (by dsimp only; exact fa_st_eq _ _ _ _) (pm_fo_s f2.1 rfl) (pm_po_s (pm_po_S S2) (Or.inr (by decide))))
    rw [if_neg c2]
    dsimp only [fa_l2, fa_let]
    rw [if_pos rfl]
    have S3 := pm_S_th S2
    have f3 := pm_fr_s (k := 35) (v := ((th + 1 : Nat) : Int)) f2 rfl
    have j26 : fa_st w2 181 35 ((th + 1 : Nat) : Int) 181 26 = ((ps_sk c n p : Nat) : Int) := by rw [fa_st_ne (by decide)]; exact k26'
    have j34 : fa_st w2 181 35 ((th + 1 : Nat) : Int) 181 34 = ((ps_we c n (ps_sk c n p) - ps_sk c n p : Nat) : Int) := by rw [fa_st_ne (by decide)]; exact e34
    rw [j26, j34]
    generalize fa_st w2 181 35 ((th + 1 : Nat) : Int) = w3 at S3 f3 ⊢
    have wq := ps_we_p hx (ps_sk c n p) z.2.1
    have e5 : ((ps_sk c n p : Nat) : Int) + ((ps_we c n (ps_sk c n p) - ps_sk c n p : Nat) : Int) = ((ps_we c n (ps_sk c n p) : Nat) : Int) := by omega
    rw [e5]
    have lx3 : pm_lx w3 (fa_st w3 181 26 ((ps_we c n (ps_sk c n p) : Nat) : Int)) (ps_we c n (ps_sk c n p)) := pm_lx_st _
    exact h2 c2 _ (pm_S_lx (p' := ps_te c n (ps_sk c n p)) S3 lx3 wq.2.1 (by rw [te])) (pm_fr_lx f3 lx3)
  have hb : pm_W c n (ps_sk c n p) ≤ 1088576 := by
    rcases pm_Wk hx z.2.1 hn with ⟨h1, h2, _⟩ | ⟨h1, h2, h3, h4⟩ | ⟨h1, h2, h3, h4, h5⟩
    · omega
    · omega
    · have := pm_cv_lt h2; omega
  rw [pb_wr (by omega)] at good
  rw [pb_wr (by omega), own]
  rcases pm_Wk hx z.2.1 hn with ⟨h1, h2, h3⟩ | ⟨h1, h2, h3, h4⟩ | ⟨h1, h2, h3, h4, h5⟩
  · rw [if_pos (by omega)]
    have := ps_tk_nle (n := n) h1
    rw [if_neg (by omega), if_neg this.2]
    exact bad
  · rw [if_neg (by omega), if_pos (by omega)]
    rw [if_neg (by omega), if_neg (by omega)]
    exact bad
  · have l1 := pm_cv_lt h2
    have l2 := pm_cv_pos h2 h3
    rw [if_neg (by omega), if_neg (by omega)]
    have gnm : ∀ b ∈ sc, b.1 < 124 ∧ pk_nm b.2 := by
      obtain ⟨a1, a2, a3, a4, a5, a6, a7, a8, a9, a10, a11, a12, a13, a14, a15, a16, a17⟩ := hs
      intro b hb
      have := (a12 b hb).1
      unfold pk_lb at this
      exact ⟨by omega, (a12 b hb).2⟩
    rcases h5 with ⟨h5, h6⟩ | ⟨h5, h6⟩
    · have w93 := pk_kw_vw h5
      rw [if_pos (decide_eq_true (by omega))]
      by_cases hd : ps_tk c n (ps_sk c n p) = 1684365668
      · rw [if_pos (by have := hD.mpr hd; omega), if_pos hd]
        dsimp only [ps_leaf]
        have te := (ps_tk_word (c := c) (n := n) (s := ps_sk c n p) (by omega)).2.2.2.2
        refine good _ te (fun q => if_pos q) (fun c2 w3 S3 f3 => ?_)
        rw [if_neg c2, if_pos (by have := hD.mpr hd; omega)]
        have k := pm_nw_k w3 nd 3 (-1) (-1) (-1) 0
        exact pm_leaf_R (t := pt_dead nd) a3 S3 f3 ⟨k.1, rfl⟩
      · rw [if_neg (fun q => hd (hD.mp (by omega))), if_neg hd, if_neg (by omega)]
        exact bad
    · rw [if_neg (fun d => by have := of_decide_eq_true d; omega), if_neg (by omega), if_pos h6]
      have t2 := ps_kw_tk2 h6
      have nm := (ps_name hx h6).1
      have i15 := (ps_SI_y hs)
      refine good _ t2.2.2.2.2 (fun q => ?_) (fun c2 w3 S3 f3 => ?_)
      · unfold ps_word
        dsimp only [ps_leaf]
        cases ps_lk sc (ps_tv c n (ps_sk c n p)) with
        | some v => exact if_pos q
        | none =>
          cases ps_gx gl (ps_tv c n (ps_sk c n p)) 0 with
          | some g => exact if_pos q
          | none => rfl
      · rw [if_neg (fun q => by have := hD.mp (by omega); omega), h4]
        obtain ⟨e1, e2, e3, e4, e5, e6, e7, e8, e9, e10, e11, e12, e13, e14, e15⟩ := id S3
        rw [e14, pm_seen nm sc FU e15 gnm i15.1 (by have := i15.1; rw [hFU]; unfold fa_FU; omega), ← hFU]
        obtain ⟨a1', a2', a3', a4', a5', a6', a7', a8', a9', a10', a11', a12', a13', a14', a15', a16', a17'⟩ := id hs
        have gg := pm_glos (rm := rm) (at' := ((ps_sk c n p : Nat) : Int)) nm e12 a15' a16' e13 gl 0 FU rfl (by omega) (by rw [hFU]; unfold fa_FU; omega)
        rw [show (((0 : Nat) : Int)) = 0 from rfl] at gg
        rw [gg]
        unfold ps_word
        dsimp only [ps_leaf]
        cases hlk : ps_lk sc (ps_tv c n (ps_sk c n p)) with
        | some v =>
          dsimp only
          rw [if_neg c2]
          have k := pm_nw_k w3 nd 1 (v : Int) (-1) (-1) 0
          refine pm_leaf_R (t := pt_var v (ps_tv c n (ps_sk c n p))) a3 S3 f3 ⟨k.1, k.2.1, ?_⟩
          rw [pm_nw_o _ _ _ _ _ _ _ (Or.inl (by decide))]
          have scn : ∀ (sc : List (Nat × Nat)) (x v : Nat), ps_lk sc x = some v → pm_sc sc w3 → w3 192 v = ((pm_cv x : Nat) : Int) := by
            intro sc
            induction sc with
            | nil => intro x v h _; cases h
            | cons b r ih =>
              intro x v h hh
              unfold ps_lk at h
              split at h
              · rename_i e; cases h; rw [← e]; exact hh.2.1
              · exact ih x v h hh.2.2
          exact scn sc _ v hlk e15
        | none =>
          dsimp only
          cases hgx : ps_gx gl (ps_tv c n (ps_sk c n p)) 0 with
          | some g =>
            dsimp only
            rw [if_neg c2]
            have k := pm_nw_k w3 nd 2 (g : Int) (-1) (-1) 0
            refine pm_leaf_R (t := pt_glo g (ps_tv c n (ps_sk c n p))) a3 S3 f3 ⟨k.1, k.2.1, ?_⟩
            rw [pm_nw_o _ _ _ _ _ _ _ (Or.inl (by decide))]
            have gm := (ps_gx_mem gl _ 0 g hgx).2.2
            exact e13 g _ gm
          | none =>
            dsimp only
            rw [pm_fails e3]
            exact pb_some (pm_R_er z.2.1 (by dsimp only; exact fa_st_eq _ _ _ _) (pm_fo_s f3.1 rfl) (pm_po_s (pm_po_S S3) (Or.inr (by decide))))
