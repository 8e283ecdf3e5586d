theorem px_ht_tr {o V lt : Nat} {k k' : pk_K} {w w1 w2 : fa_W} (h1 : px_ht o V lt k k' w w1) (h2 : px_ht o V lt k k' w1 w2) : px_ht o V lt k k' w w2 := ⟨fun i j q r s => (h2.1 i j q r s).trans (h1.1 i j q r s), fun j r s => (h2.2.1 j r s).trans (h1.2.1 j r s), fun j r s => (h2.2.2.1 j r s).trans (h1.2.2.1 j r s), fun i j q r s => (h2.2.2.2.1 i j q r s).trans (h1.2.2.2.1 i j q r s), fun j r s => (h2.2.2.2.2.1 j r s).trans (h1.2.2.2.2.1 j r s), fun j => (h2.2.2.2.2.2 j).trans (h1.2.2.2.2.2 j)⟩
theorem pk_inx_get {i0 i1 : List Nat} {l0 l1 j : Nat} (h : pk_inx i0 l0 i1 l1) (a : i0.length ≤ j) (b : j < i1.length) : 24 + l0 ≤ i1.getD j 0 := by
  obtain ⟨l, rfl, hl⟩ := h
  rw [List.length_append] at b
  rw [List.getD_eq_getElem?_getD, List.getElem?_append_right a, List.getElem?_eq_getElem (by omega)]
  exact (hl _ (List.getElem_mem _)).1
theorem ps_PO_inx {n : Nat} {gl : List Nat} {sc : List (Nat × Nat)} {ow : Int} {ne p th la lt si nd p' th' la' lt' si' nd' : Nat} {ins ins' : List Nat} {t : pt_T} (h : ps_PO n (gl, sc, ow, ne) (p, th, la, ins, lt, si, nd) t (p', th', la', ins', lt', si', nd')) : pk_inx ins lt ins' lt' := h.2.2.2.2.2.2.2.2.2.2.2.2.1
theorem px_S_kv {c : Nat → Int} {n : Nat} {gl : List Nat} {sc : List (Nat × Nat)} {ow : Int} {ne p p' th la lt si nd v : Nat} {ins : List Nat} {w w' : fa_W} (h : px_S c n (gl, sc, ow, ne) (p, th, la, ins, lt, si, nd) w) (k : ∀ o j, ¬ (o = 7 ∧ 3 ≤ j ∧ j ≤ 6) → ¬ (o = 22 ∧ j = v) → w' o j = w o j) (t : px_tok c n (ps_sk c n p') w') (hv : ∀ b ∈ sc, px_xi ins b.1 ≠ v) : px_S c n (gl, sc, ow, ne) (p', th, la, ins, lt, si, nd) w' := by
  obtain ⟨e1, e2, e3, e4, e5, e6, e7, e8, e9, e10, e11, e12, e13, e14⟩ := h
  obtain ⟨z1, z2, z3, z4, z5, z6, z7, z8, z9⟩ := e10
  refine ⟨px_tx_of e1 (k 1 1 (by omega) (by omega)) (fun j => k 2 j (by omega) (by omega)), t, (k 7 7 (by omega) (by omega)).trans e3, (k 7 8 (by omega) (by omega)).trans e4, (k 7 9 (by omega) (by omega)).trans e5, (k 7 10 (by omega) (by omega)).trans e6, (k 7 11 (by omega) (by omega)).trans e7, (k 7 12 (by omega) (by omega)).trans e8, (k 8 15 (by omega) (by omega)).trans e9, ⟨?_, ?_, ?_, ?_, ?_, ?_, ?_, ?_, ?_⟩, px_gl_of e11 (k 8 13 (by omega) (by omega)) (k 25 1 (by omega) (by omega)) (fun j => k 26 j (by omega) (by omega)), (k 35 1 (by omega) (by omega)).trans e12, px_sc_of sc (fun j _ => k 36 j (by omega) (by omega)) (fun b hb => ⟨rfl, k 22 _ (by omega) (by have := hv b hb; omega)⟩) e13, e14⟩
  all_goals (rw [k _ 1 (by omega) (by omega)]; assumption)
/-- one more VAR in scope -/
theorem px_S_push {c : Nat → Int} {n : Nat} {gl : List Nat} {sc : List (Nat × Nat)} {ow : Int} {ne p th la lt si nd v x xv : Nat} {ins l : List Nat} {w : fa_W} (h : px_S c n (gl, sc, ow, ne) (p, th, la, ins, lt, si, nd) w) (hxi : px_xi (ins ++ l) v = xv) (hxv : xv < 74) (h22 : w 22 xv = (x : Int)) (hsc : sc.length < 21) (hb : ∀ b ∈ sc, px_xi (ins ++ l) b.1 = px_xi ins b.1) : px_S c n (gl, (v, x) :: sc, ow, ne) (p, th, la, ins ++ l, lt, si, nd) (fr_add 35 (xv : Int) w) ∧ ∀ o k, ¬ (o = 35 ∧ k = 1) → ¬ (o = 36 ∧ k = sc.length) → fr_add 35 (xv : Int) w o k = w o k := by
  obtain ⟨e1, e2, e3, e4, e5, e6, e7, e8, e9, e10, e11, e12, e13, e14⟩ := h
  obtain ⟨z1, z2, z3, z4, z5, z6, z7, z8, z9⟩ := e10
  have sa := px_ad1 (r := 35) (v := (xv : Int)) (w := w) rfl e12 (by show sc.length < 21; exact hsc)
  have nn := sa.2.2
  refine ⟨⟨px_tx_of e1 (nn 1 1 (by omega) (by omega)) (fun j => nn 2 j (by omega) (by omega)), ⟨by rw [nn 7 3 (by omega) (by omega)]; exact e2.1, by rw [nn 7 4 (by omega) (by omega)]; exact e2.2.1, by rw [nn 7 5 (by omega) (by omega)]; exact e2.2.2.1, by rw [nn 7 6 (by omega) (by omega)]; exact e2.2.2.2⟩, (nn 7 7 (by omega) (by omega)).trans e3, (nn 7 8 (by omega) (by omega)).trans e4, (nn 7 9 (by omega) (by omega)).trans e5, (nn 7 10 (by omega) (by omega)).trans e6, (nn 7 11 (by omega) (by omega)).trans e7, (nn 7 12 (by omega) (by omega)).trans e8, (nn 8 15 (by omega) (by omega)).trans e9, ⟨?_, ?_, ?_, ?_, ?_, ?_, ?_, ?_, ?_⟩, px_gl_of e11 (nn 8 13 (by omega) (by omega)) (nn 25 1 (by omega) (by omega)) (fun j => nn 26 j (by omega) (by omega)), by rw [sa.1, List.length_cons], ⟨?_, ?_, ?_, px_sc_of sc (fun j q => nn 36 j (by omega) (by omega)) (fun b q => ⟨hb b q, nn 22 _ (by omega) (by omega)⟩) e13⟩, e14⟩, nn⟩
  · rw [nn 9 1 (by omega) (by omega)]; exact z1
  · rw [nn 11 1 (by omega) (by omega)]; exact z2
  · rw [nn 13 1 (by omega) (by omega)]; exact z3
  · rw [nn 15 1 (by omega) (by omega)]; exact z4
  · rw [nn 17 1 (by omega) (by omega)]; exact z5
  · rw [nn 19 1 (by omega) (by omega)]; exact z6
  · rw [nn 21 1 (by omega) (by omega)]; exact z7
  · rw [nn 23 1 (by omega) (by omega)]; exact z8
  · rw [nn 27 1 (by omega) (by omega)]; exact z9
  · dsimp only; rw [hxi]; exact sa.2.1
  · dsimp only; rw [hxi]; exact hxv
  · dsimp only; rw [hxi, nn 22 _ (by omega) (by omega)]; exact h22
/-- the innermost VAR goes -/
theorem px_S_pop {c : Nat → Int} {n : Nat} {gl : List Nat} {b : Nat × Nat} {sc : List (Nat × Nat)} {ow : Int} {ne : Nat} {S : ps_S} {w : fa_W} (h : px_S c n (gl, b :: sc, ow, ne) S w) (hsc : sc.length < 21) : fr_drop 35 w = (w 36 sc.length, fa_st w 35 1 (sc.length : Int)) ∧ px_S c n (gl, sc, ow, ne) S (fa_st w 35 1 (sc.length : Int)) := by
  obtain ⟨p, th, la, ins, lt, si, nd⟩ := S
  obtain ⟨e1, e2, e3, e4, e5, e6, e7, e8, e9, e10, e11, e12, e13, e14⟩ := h
  obtain ⟨z1, z2, z3, z4, z5, z6, z7, z8, z9⟩ := e10
  rw [List.length_cons] at e12
  have nn : ∀ o k, ¬ (o = 35 ∧ k = 1) → fa_st w 35 1 (sc.length : Int) o k = w o k := fun o k q => fa_st_ne q
  refine ⟨by rw [pb_drop (r := 35) (n := sc.length) e12 (by show sc.length + 1 ≤ 21; omega), show fa_rf 35 0 = 36 from rfl], px_tx_of e1 (nn 1 1 (by omega)) (fun j => nn 2 j (by omega)), ⟨by rw [nn 7 3 (by omega)]; exact e2.1, by rw [nn 7 4 (by omega)]; exact e2.2.1, by rw [nn 7 5 (by omega)]; exact e2.2.2.1, by rw [nn 7 6 (by omega)]; exact e2.2.2.2⟩, (nn 7 7 (by omega)).trans e3, (nn 7 8 (by omega)).trans e4, (nn 7 9 (by omega)).trans e5, (nn 7 10 (by omega)).trans e6, (nn 7 11 (by omega)).trans e7, (nn 7 12 (by omega)).trans e8, (nn 8 15 (by omega)).trans e9, ⟨?_, ?_, ?_, ?_, ?_, ?_, ?_, ?_, ?_⟩, px_gl_of e11 (nn 8 13 (by omega)) (nn 25 1 (by omega)) (fun j => nn 26 j (by omega)), fa_st_eq _ _ _ _, px_sc_of sc (fun j q => nn 36 j (by omega)) (fun b q => ⟨rfl, nn 22 _ (by omega)⟩) e13.2.2.2, e14⟩
  all_goals (rw [nn _ 1 (by omega)]; assumption)
theorem ps_let_74 {n : Nat} {gl gl' : List Nat} {sc sc' : List (Nat × Nat)} {ow ow' : Int} {ne p1 p3 th1 th3 la1 la3 lt lt1 si1 nd1 si3 nd3 : Nat} {ins1 : List Nat} (hn : n ≤ 400) (hne : ne < 20) (hl : lt + 1 ≤ lt1) (j1 : ps_SI n (gl, sc, ow, ne + 1) (p1, th1, la1, ins1, lt1, si1, nd1)) (i2 : ps_SI n (gl', sc', ow', ne + 1) (p3, th3, la3, ins1 ++ [24 + lt], lt1, si3, nd3)) : 24 + lt < 74 := by
  obtain ⟨a1, a2, a3, a4, a5, a6, a7, a8, a9, _⟩ := j1
  obtain ⟨b1, b2, b3, b4, b5, b6, b7, b8, b9, _⟩ := i2
  rw [List.length_append, List.length_singleton] at b9
  omega
theorem px_let_R {c : Nat → Int} {n : Nat} {rs : ps_E → ps_S → ps_R} {rm : fa_W → Option (Int × fa_W)} (hx : ps_TX c n) (hn : n ≤ 400) (hp : ps_RC n rs) (hr : px_RC c n rs rm) (hD : px_DF rm) {e : ps_E} {s : ps_S} {w : fa_W} (hs : ps_SI n e s) (hS : px_S c n e s w) (hk : ps_tk c n (ps_sk c n s.1) = 7103860) (hne : ps_let c n false rs e s ≠ none) : pb_ok (fm_Reader_let_b rm w) (px_R c n e s w (ps_let c n false rs e s)) := by
  obtain ⟨gl, sc, ow, ne⟩ := e
  obtain ⟨p, th, la, ins, lt, si, nd⟩ := s
  dsimp only at hk
  have z0 : ps_te c n (ps_sk c n p) ≤ n := (ps_word_len hx (s := ps_sk c n p) (by omega)).1
  have zz := (ps_sk_p hx p hs.1).2.1
  have zp := (ps_sk_p hx p hs.1).1
  obtain ⟨s1, s2, lb0, ss1, s5, s6, s7, s8, s9⟩ := ps_SI_z hs
  dsimp only [ps_let] at hne ⊢
  unfold fm_Reader_let_b
  dsimp only [fa_let]
  rw [show w 7 11 = (lt : Int) from hS.2.2.2.2.2.2.1, show (24 : Int) + (lt : Int) = ((24 + lt : Nat) : Int) from rfl]
  have T3 : ∀ (z : Nat) (u1 u2 : Int) (w' : fa_W), px_D z w' → px_fo w w' → pb_ok (fa_l2 (fr_drop 35 w') fun v26 w27 => fa_l2 (fm_Program_add 8 7 ((24 + lt : Nat) : Int) ((fa_st w27 7 8 ((w27 7 8) - 1)) 7 12) u1 u2 (-1) (fa_st w27 7 8 ((w27 7 8) - 1))) fun v30 w31 => some (v30, w31)) (fun q => px_D z q.2 ∧ px_fo w q.2) := by
    intro z u1 u2 w' hd ho
    have d1 := px_sdrop_D hd
    have d2 := px_D_7 (k := 8) (v := ((fr_drop 35 w').2 7 8) - 1) d1.1 (by decide)
    have d3 := px_padd_D d2 7 ((24 + lt : Nat) : Int) ((fa_st (fr_drop 35 w').2 7 8 (((fr_drop 35 w').2 7 8) - 1)) 7 12) u1 u2 (-1)
    exact pb_some ⟨d3.1, px_fo_tr (px_fo_st (px_fo_tr ho d1.2) (by decide)) d3.2⟩
  have T3s : ∀ (z : Nat) (u1 : Int) (w' : fa_W), px_D z w' → px_fo w w' → pb_ok (fa_bd (rm (fr_add 35 ((24 + lt : Nat) : Int) w')) fun v23 w24 => fa_l2 (fr_drop 35 w24) fun v26 w27 => fa_l2 (fm_Program_add 8 7 ((24 + lt : Nat) : Int) ((fa_st w27 7 8 ((w27 7 8) - 1)) 7 12) u1 v23 (-1) (fa_st w27 7 8 ((w27 7 8) - 1))) fun v30 w31 => some (v30, w31)) (fun q => px_D z q.2 ∧ px_fo w q.2) := by
    intro z u1 w' hd ho
    have d := px_sadd_D hd ((24 + lt : Nat) : Int)
    exact pb_bdm (hD _ z d.1) (fun v w2 q => T3 z u1 v w2 q.1 (px_fo_tr (px_fo_tr ho d.2) q.2))
  have T2 : ∀ (z : Nat) (u1 : Int) (w' : fa_W), px_D z w' → px_fo w w' → pb_ok ((fm_Reader_expect 26990 w').bind fun w19 => fa_bd (rm (fr_add 35 ((24 + lt : Nat) : Int) w19)) fun v23 w24 => fa_l2 (fr_drop 35 w24) fun v26 w27 => fa_l2 (fm_Program_add 8 7 ((24 + lt : Nat) : Int) ((fa_st w27 7 8 ((w27 7 8) - 1)) 7 12) u1 v23 (-1) (fa_st w27 7 8 ((w27 7 8) - 1))) fun v30 w31 => some (v30, w31)) (fun q => px_D z q.2 ∧ px_fo w q.2) := by
    intro z u1 w' hd ho
    exact pb_bindm (px_expect_D (k := 26990) hd (by decide) (by decide)) (fun w2 q => T3s z u1 w2 q.1 (px_fo_tr ho q.2))
  have T2r : ∀ (z : Nat) (w' : fa_W), px_D z w' → px_fo w w' → pb_ok (fa_bd (rm w') fun v16 w17 => (fm_Reader_expect 26990 w17).bind fun w19 => fa_bd (rm (fr_add 35 ((24 + lt : Nat) : Int) w19)) fun v23 w24 => fa_l2 (fr_drop 35 w24) fun v26 w27 => fa_l2 (fm_Program_add 8 7 ((24 + lt : Nat) : Int) ((fa_st w27 7 8 ((w27 7 8) - 1)) 7 12) v16 v23 (-1) (fa_st w27 7 8 ((w27 7 8) - 1))) fun v30 w31 => some (v30, w31)) (fun q => px_D z q.2 ∧ px_fo w q.2) := by
    intro z w' hd ho
    exact pb_bdm (hD w' z hd) (fun v w2 q => T2 z v w2 q.1 (px_fo_tr ho q.2))
  have T1 : ∀ (z : Nat) (w' : fa_W), px_D z w' → px_fo w w' → pb_ok ((fm_Reader_expect 61 w').bind fun w14 => fa_bd (rm w14) fun v16 w17 => (fm_Reader_expect 26990 w17).bind fun w19 => fa_bd (rm (fr_add 35 ((24 + lt : Nat) : Int) w19)) fun v23 w24 => fa_l2 (fr_drop 35 w24) fun v26 w27 => fa_l2 (fm_Program_add 8 7 ((24 + lt : Nat) : Int) ((fa_st w27 7 8 ((w27 7 8) - 1)) 7 12) v16 v23 (-1) (fa_st w27 7 8 ((w27 7 8) - 1))) fun v30 w31 => some (v30, w31)) (fun q => px_D z q.2 ∧ px_fo w q.2) := by
    intro z w' hd ho
    exact pb_bindm (px_expect_D (k := 61) hd (by decide) (by decide)) (fun w2 q => T2r z w2 q.1 (px_fo_tr ho q.2))
  refine px_open2 hn hs hS (fun w5 => (fm_Reader_advance (fa_st w5 7 11 ((w5 7 11) + 1))).bind fun w10 => (fm_Reader_nameVariable ((24 + lt : Nat) : Int) w10).bind fun w12 => (fm_Reader_expect 61 w12).bind fun w14 => fa_bd (rm w14) fun v16 w17 => (fm_Reader_expect 26990 w17).bind fun w19 => fa_bd (rm (fr_add 35 ((24 + lt : Nat) : Int) w19)) fun v23 w24 => fa_l2 (fr_drop 35 w24) fun v26 w27 => fa_l2 (fm_Program_add 8 7 ((24 + lt : Nat) : Int) ((fa_st w27 7 8 ((w27 7 8) - 1)) 7 12) v16 v23 (-1) (fa_st w27 7 8 ((w27 7 8) - 1))) fun v30 w31 => some (v30, w31)) _ (fun q => if_pos (q.elim Or.inl (fun z => Or.inr ⟨z, rfl⟩))) (fun w5 d5 e7 o5 => ?_) (fun c2 c3 So fo => ?_)
  · rw [px_adv_D (z := ps_sk c n p) (by rw [fa_st_ne (by decide)]; exact e7) (by omega)]
    dsimp only [Option.bind_some]
    exact pb_bindm (px_nameV_D (px_D_7 d5 (by decide)) _) (fun w2 q => T1 _ w2 q.1 (px_fo_tr (px_fo_st o5 (by decide)) q.2))
  have cc : ¬ (th = 100 ∨ ne = 20 ∧ (false = false)) := fun q => q.elim (by omega) (fun z => by omega)
  rw [if_neg cc] at hne ⊢
  generalize fa_st (fa_st w 7 9 ((th + 1 : Nat) : Int)) 7 8 ((ne + 1 : Nat) : Int) = w5 at So fo ⊢
  have r5 : px_r c n (ps_sk c n p) w5 := ⟨So.1, So.2.1, So.2.2.1, sc.length, by omega, So.2.2.2.2.2.2.2.2.2.2.2.1⟩
  rw [show w5 7 11 = (lt : Int) from So.2.2.2.2.2.2.1, show (lt : Int) + 1 = ((lt + 1 : Nat) : Int) from rfl]
  have S6 : px_S c n (gl, sc, ow, ne + 1) (p, th + 1, la, ins, lt + 1, si, nd) (fa_st w5 7 11 ((lt + 1 : Nat) : Int)) := by
    obtain ⟨h1, h2, h3, h4, h5, h6, h7, h8, h9, h10, h11, h12, h13, h14⟩ := id So
    have nn : ∀ o k, ¬ (o = 7 ∧ k = 11) → fa_st w5 7 11 ((lt + 1 : Nat) : Int) o k = w5 o k := fun o k q => fa_st_ne q
    refine px_S_7 So (fun o k a b => nn o k (by omega)) ⟨by rw [nn 7 3 (by omega)]; exact h2.1, by rw [nn 7 4 (by omega)]; exact h2.2.1, by rw [nn 7 5 (by omega)]; exact h2.2.2.1, by rw [nn 7 6 (by omega)]; exact h2.2.2.2⟩ ?_ ?_ ?_ ?_ (fa_st_eq _ _ _ _) ?_ ?_ h14
    · rw [nn 7 7 (by omega)]; exact h3
    · rw [nn 7 8 (by omega)]; exact h4
    · rw [nn 7 9 (by omega)]; exact h5
    · rw [nn 7 10 (by omega)]; exact h6
    · rw [nn 7 12 (by omega)]; exact h8
    · rw [nn 8 15 (by omega)]; exact h9
  have f6 : px_fr la lt si nd sc.length w (fa_st w5 7 11 ((lt + 1 : Nat) : Int)) := px_fr_7 fo
  have r6 := px_r_7 (k := 11) (v := ((lt + 1 : Nat) : Int)) r5 (by decide)
  generalize fa_st w5 7 11 ((lt + 1 : Nat) : Int) = w6 at S6 f6 r6 ⊢
  refine pb_bindm (px_adv_r r6 z0) (fun w7 q => ?_)
  obtain ⟨r7, k7⟩ := q
  have S7 := px_S_k (p' := ps_te c n (ps_sk c n p)) S6 k7 r7.2.1
  have f7 := px_fr_tr f6 (px_k_fr (sl := sc.length) k7) (pk_ge_refl _) (Nat.le_refl _)
  have q1n := (ps_sk_p hx _ z0).2.1
  refine pb_bindm (px_nameV_R (v := 24 + lt) r7 q1n S7.2.2.2.2.2.2.2.2.2.1.2.2.2.2.2.2.1 (by omega)) (fun w8 q => ?_)
  dsimp only [ps_nm] at hne ⊢
  rcases q with ⟨g1, r8, n8, k8⟩ | ⟨g1, d8, o8⟩
  rotate_left
  · rw [if_neg g1]
    exact T1 _ w8 d8 (px_fo_tr f7.1 o8)
  rw [if_pos g1] at hne ⊢
  have z1 := (ps_name hx g1).2.2.2
  have nb : ∀ b ∈ sc, px_xi ins b.1 ≠ 24 + lt := fun b hb => px_lbx s1 s2 (lb0 b hb) (24 + lt) (Or.inr (Nat.le_refl _))
  have S8 := px_S_kv (p' := ps_te c n (ps_sk c n (ps_te c n (ps_sk c n p)))) S7 k8 r8.2.1 nb
  have f8 : px_fr la lt si nd sc.length w w8 := by
    refine px_fr_tr f7 (w1 := w7) (la1 := la) (lt1 := lt) (si1 := si) (nd1 := nd) (sl1 := sc.length) ⟨fun o k q => k8 o k (by omega) (by omega), fun k q => k8 8 k (by omega) (by omega), fun o k q r => k8 o k (by omega) (by omega), fun k r => k8 18 k (by omega) (by omega), fun k r => k8 20 k (by omega) (by omega), fun o k q r => k8 o k (by omega) ?_, fun k r => k8 28 k (by omega) (by omega), fun k => k8 26 k (by omega) (by omega), fun k r => k8 36 k (by omega) (by omega)⟩ (pk_ge_refl _) (Nat.le_refl _)
    unfold pk_lb at r
    omega
  have q2n := (ps_sk_p hx _ z1).2.1
  refine pb_bindm (px_expect_R (k := 61) r8 q2n (by decide) (by decide)) (fun w9 q => ?_)
  dsimp only [ps_ex] at hne ⊢
  rcases q with ⟨g2, r9, k9⟩ | ⟨g2, d9, o9⟩
  rotate_left
  · rw [if_neg g2]
    exact T2r _ w9 d9 (px_fo_tr f8.1 o9)
  rw [if_pos g2] at hne ⊢
  obtain ⟨i1, nm, p6⟩ := ps_let_si hx hs hk (by omega) g1 g2
  have q6 : p + 6 ≤ ps_te c n (ps_sk c n (ps_te c n (ps_sk c n (ps_te c n (ps_sk c n p))))) := Nat.le_trans (Nat.add_le_add_right zp 6) p6
  have S9 := px_S_k (p' := ps_te c n (ps_sk c n (ps_te c n (ps_sk c n (ps_te c n (ps_sk c n p)))))) S8 k9 r9.2.1
  have f9 := px_fr_tr f8 (px_k_fr (sl := sc.length) k9) (pk_ge_refl _) (Nat.le_refl _)
  have n9 : 24 + lt < 74 → w9 22 (24 + lt) = ((ps_tv c n (ps_sk c n (ps_te c n (ps_sk c n p))) : Nat) : Int) := fun h => (k9 22 _ (by omega)).trans (n8 h)
  clear r9 k9 r8 k8 n8 r7 k7 S7 S8 f7 f8 S6 f6 r6 So fo r5 p6 z0 zz zp q1n q2n z1
  generalize ps_te c n (ps_sk c n (ps_te c n (ps_sk c n (ps_te c n (ps_sk c n p))))) = P at i1 q6 S9 hne ⊢
  generalize ps_tv c n (ps_sk c n (ps_te c n (ps_sk c n p))) = X at nm n9 hne ⊢
  have n1 : rs (gl, sc, ow, ne + 1) (P, th + 1, la, ins, lt + 1, si, nd) ≠ none := by
    intro r
    rw [r] at hne
    exact hne rfl
  refine pb_bdm (hr _ _ _ i1 S9 n1) (fun v1 w10 g => ?_)
  cases hq : rs (gl, sc, ow, ne + 1) (P, th + 1, la, ins, lt + 1, si, nd) with
  | none => exact absurd hq n1
  | some r =>
  rw [hq] at g hne
  cases r with
  | error z => exact T2 z v1 w10 g.1 (px_fo_tr f9.1 g.2)
  | ok y =>
  obtain ⟨ta, S1⟩ := y
  have o1 := hp _ _ _ _ i1 hq
  have j1 := ps_PO_SI i1 o1
  have ix1 := ps_PO_inx (th' := S1.2.1) (la' := S1.2.2.1) (si' := S1.2.2.2.2.2.1) (nd' := S1.2.2.2.2.2.2) o1
  obtain ⟨p1, th1, la1, ins1, lt1, si1, nd1⟩ := S1
  obtain ⟨b1, b2, b3, b4, b5, b6⟩ := ps_PO_x o1
  obtain ⟨c1, ⟨l1, el1⟩, c3', c4'⟩ := ps_PO_w o1
  obtain ⟨y1, y2, y3, y4⟩ := g
  dsimp only at y1 y2 y3 y4 ix1
  dsimp only [ps_bd] at hne ⊢
  have zs1 := (ps_sk_p hx p1 b1).2.1
  have r10 : px_r c n (ps_sk c n p1) w10 := ⟨y2.1, y2.2.1, y2.2.2.1, sc.length, by omega, y2.2.2.2.2.2.2.2.2.2.2.2.1⟩
  have f10 : px_fr la lt si nd sc.length w w10 := px_fr_tr f9 y4 ⟨Nat.le_refl _, Nat.le_succ _, Nat.le_refl _, Nat.le_refl _⟩ (Nat.le_refl _)
  refine pb_bindm (px_expect_R (k := 26990) r10 zs1 (by decide) (by decide)) (fun w11 q => ?_)
  rcases q with ⟨g3, r11, k11⟩ | ⟨g3, d11, o11⟩
  rotate_left
  · rw [if_neg g3]
    exact T3s _ v1 w11 d11 (px_fo_tr f10.1 o11)
  rw [if_pos g3] at hne ⊢
  obtain ⟨i2, el⟩ := ps_let_sj hx hs q6 i1 o1 nm g3
  have l74 := ps_let_74 hn c3 c1.2.1 j1 i2
  have S11 := px_S_k (p' := ps_te c n (ps_sk c n p1)) y2 k11 r11.2.1
  have x22 : w11 22 (24 + lt) = (X : Int) := by
    rw [k11 22 _ (by omega), y4.2.2.2.2.2.1 22 _ (Or.inl rfl) (Or.inr ⟨by omega, by omega⟩)]
    exact n9 l74
  have lb1 := pk_lbs lb0 b5
  have z1 := ps_SI_z j1
  have hxi : px_xi (ins1 ++ [24 + lt]) (24 + ins1.length) = 24 + lt := by
    unfold px_xi
    rw [if_neg (by omega), show 24 + ins1.length - 24 = ins1.length by omega, List.getD_eq_getElem?_getD, List.getElem?_append_right (Nat.le_refl _), Nat.sub_self]
    rfl
  obtain ⟨S12, k12⟩ := px_S_push (l := [24 + lt]) S11 hxi l74 x22 (by omega) (fun b hb => px_xi_app (by have := lb1 b hb; have := z1.1; unfold pk_lb at *; omega))
  have f12 : px_fr la1 lt1 si1 nd1 sc.length w10 (fr_add 35 ((24 + lt : Nat) : Int) w11) := by
    refine px_fr_tr (px_k_fr (la := la1) (lt := lt1) (si := si1) (nd := nd1) (sl := sc.length) k11) (w1 := w11) (la1 := la1) (lt1 := lt1) (si1 := si1) (nd1 := nd1) (sl1 := sc.length) ⟨fun o k q => k12 o k (by omega) (by omega), fun k q => k12 8 k (by omega) (by omega), fun o k q r => k12 o k (by omega) (by omega), fun k r => k12 18 k (by omega) (by omega), fun k r => k12 20 k (by omega) (by omega), fun o k q r => k12 o k (by omega) (by omega), fun k r => k12 28 k (by omega) (by omega), fun k => k12 26 k (by omega) (by omega), fun k r => k12 36 k (by omega) (by omega)⟩ (pk_ge_refl _) (Nat.le_refl _)
  generalize fr_add 35 ((24 + lt : Nat) : Int) w11 = w12 at S12 f12 ⊢
  have n2 : rs (gl, (24 + ins1.length, X) :: sc, ow, ne + 1) (ps_te c n (ps_sk c n p1), th1, la1, ins1 ++ [24 + lt], lt1, si1, nd1) ≠ none := by
    intro r
    rw [r] at hne
    exact hne rfl
  refine pb_bdm (hr _ _ _ i2 S12 n2) (fun v2 w13 g => ?_)
  cases hq2 : rs (gl, (24 + ins1.length, X) :: sc, ow, ne + 1) (ps_te c n (ps_sk c n p1), th1, la1, ins1 ++ [24 + lt], lt1, si1, nd1) with
  | none => exact absurd hq2 n2
  | some r =>
  rw [hq2] at g hne
  cases r with
  | error z => exact T3 z v1 v2 w13 g.1 (px_fo_tr (px_fo_tr f10.1 f12.1) g.2)
  | ok y =>
  obtain ⟨tb, S2⟩ := y
  have o2 := hp _ _ _ _ i2 hq2
  have j2 := ps_PO_SI i2 o2
  have ix2 := ps_PO_inx (th' := S2.2.1) (la' := S2.2.2.1) (si' := S2.2.2.2.2.2.1) (nd' := S2.2.2.2.2.2.2) o2
  obtain ⟨p2, th2, la2, ins2, lt2, si2, nd2⟩ := S2
  obtain ⟨d1, d2, d3, d4, d5, d6⟩ := ps_PO_x o2
  obtain ⟨e1, ⟨l2, el2⟩, e3', e4'⟩ := ps_PO_w o2
  obtain ⟨x1, x2, x3, x4⟩ := g
  dsimp only at x1 x2 x3 x4 ix2
  rw [el] at d4
  obtain ⟨t1, t2, t3, t4, t5, t6, t7, t8, t9⟩ := ps_SI_z j2
  have sza := pt_sz_pos ta
  have szb := pt_sz_pos tb
  have nd99 : nd2 < 100 := by omega
  have x4' : px_fr la1 lt1 si1 nd1 sc.length w12 w13 := px_fr_tr (px_fr_refl _ _ _ _ _ _) x4 (pk_ge_refl _) (by rw [List.length_cons]; exact Nat.le_succ _)
  obtain ⟨po1, po2⟩ := px_S_pop x2 (by omega)
  rw [po1]
  dsimp only [fa_l2]
  have gA : ∀ la lt si nd, px_fr la lt si nd sc.length w13 (fa_st w13 35 1 (sc.length : Int)) := fun la lt si nd => ⟨fun o k q => fa_st_ne (by omega), fun k q => fa_st_ne (by omega), fun o k q r => fa_st_ne (by omega), fun k r => fa_st_ne (by omega), fun k r => fa_st_ne (by omega), fun o k q r => fa_st_ne (by omega), fun k r => fa_st_ne (by omega), fun k => fa_st_ne (by omega), fun k r => fa_st_ne (by omega)⟩
  generalize fa_st w13 35 1 (sc.length : Int) = w14 at po2 gA ⊢
  obtain ⟨cl1, cl2⟩ := px_S_close po2
  rw [cl1]
  have gB : ∀ la lt si nd, px_fr la lt si nd sc.length w13 (fa_st w14 7 8 (ne : Int)) := fun la lt si nd => px_fr_7 (gA la lt si nd)
  generalize fa_st w14 7 8 (ne : Int) = w15 at cl2 gB ⊢
  have ra := px_H_root b2 y3
  rw [b6] at ra
  have fAB : px_fr la1 lt1 si1 nd1 sc.length w10 w15 := px_fr_tr (px_fr_tr f12 x4' (pk_ge_refl _) (Nat.le_refl _)) (gB _ _ _ _) (pk_ge_refl _) (Nat.le_refl _)
  have ra2 : w15 16 (nd1 - 1) = (nd : Int) := (fAB.2.2.1 16 _ (by omega) (by omega)).trans ra
  obtain ⟨w16, a1, a2, a3, a4, a5, a6, a7⟩ := px_fin (K := 7) (v := 24 + lt) (st := nd) (a := v1) (b := v2) (d := -1) cl2 nd99 (Or.inr ⟨nd1 - 1, y1, by omega, ra2⟩) (by decide) (by omega) (fun _ => l74) (by omega)
  rw [show (7 : Int) = ((7 : Nat) : Int) from rfl, a1]
  have lbn : ¬ pk_lb (24 + lt) la lt := by unfold pk_lb; omega
  refine pb_some ⟨rfl, a3, ?_, px_fr_tr (px_fr_tr f10 fAB ⟨c1.1, Nat.le_trans (Nat.le_succ _) c1.2.1, c1.2.2⟩ (Nat.le_refl _)) (px_un_fr a7 (by have := c1.2.2.2; dsimp only at this; omega) (by omega) (fun _ => lbn) (by omega)) (pk_ge_refl _) (Nat.le_refl _)⟩
  have g24 : ∀ j, j < ins1.length → ins1.getD j 0 = ins2.getD j 0 := by
    intro j hj
    rw [el2, List.append_assoc, List.getD_eq_getElem?_getD, List.getD_eq_getElem?_getD, List.getElem?_append_left hj]
  have HA := px_H_tr ta b2 gl sc ow (la, ins.length, si, nd) (la1, ins1.length, si1, nd1) 8 lt1 ins1 ([24 + lt] ++ l2) w10 w16 (24 + lt) (fun j a b => by dsimp only at b; have := z1.1; omega) (fun j a b => by
    have := pk_inx_get ix1 a b
    omega) b4 b3 lb0 ⟨z1.1, Nat.le_refl _⟩ z1.2.1 (px_ht_tr (px_fr_ht fAB (Nat.le_refl _) (Nat.le_refl _) (Nat.le_refl _)) (px_un_ht a7 (by dsimp only; omega) (by omega) (fun _ => rfl) (by omega))) y3
  have gBf := gB la2 lt2 si2 nd2
  have lb2 : ∀ b ∈ (24 + ins1.length, X) :: sc, pk_lb b.1 la1 (ins1.length + 1) := by
    intro b hb
    rcases List.mem_cons.mp hb with rfl | hb
    · exact Or.inr ⟨by dsimp only; omega, by dsimp only; omega⟩
    · exact pk_lb_mono (lb1 b hb) (Nat.le_refl _) (Nat.le_succ _)
  have HB := px_H_tr tb d2 gl ((24 + ins1.length, X) :: sc) ow (la1, ins1.length + 1, si1, nd1) (la2, ins2.length, si2, nd2) 8 lt2 ins2 [] w13 w16 (24 + lt) (fun j a b => by dsimp only at b; omega) (fun j a b => by
    have := pk_inx_get ix2 (by rw [el]; exact a) b
    have := c1.2.1
    dsimp only at this
    omega) d4 d3 lb2 ⟨t1, Nat.le_refl _⟩ t2 (px_ht_tr (px_fr_ht gBf (Nat.le_refl _) (Nat.le_refl _) (Nat.le_refl _)) (px_un_ht a7 (Nat.le_refl _) (by omega) (fun _ => rfl) (by omega))) x3
  rw [List.append_nil] at HB
  rw [← List.append_assoc, ← el2] at HA
  have hxi2 : px_xi ins2 (24 + ins1.length) = 24 + lt := by
    rw [el2, px_xi_app (by rw [el]; omega)]
    exact hxi
  refine ⟨HA, ?_, ?_, ?_, ?_⟩
  · rw [b6]; exact HB
  · rw [b6, d6]
    dsimp only
    rw [hxi2, y1, x1] at *
    exact a2
  · dsimp only
    rw [hxi2]
    show w16 22 (24 + lt) = (X : Int)
    rw [a7 22 _ (by unfold px_un; omega), gBf.2.2.2.2.2.1 22 _ (Or.inl rfl) (Or.inr ⟨by omega, by have := c1.2.1; have := e1.2.1; dsimp only at *; omega⟩), x4'.2.2.2.2.2.1 22 _ (Or.inl rfl) (Or.inr ⟨by omega, by have := c1.2.1; dsimp only at *; omega⟩), f12.2.2.2.2.2.1 22 _ (Or.inl rfl) (Or.inr ⟨by omega, by have := c1.2.1; dsimp only at *; omega⟩), ← k11 22 _ (by omega)]
    exact x22
  · dsimp only
    rw [hxi2, b6, d6]
    exact a5 (Or.inl rfl)
