theorem ps_PO_w {n : Nat} {gl : List Nat} {sc : List (Nat × Nat)} {ow : Int} {ne p th la lt si nd p' th' la' lt' si' nd' : Nat} {ins ins' : List Nat} {t : pt_T} (h : ps_PO n (gl, sc, ow, ne) (p, th, la, ins, lt, si, nd) t (p', th', la', ins', lt', si', nd')) : pk_ge (la, lt, si, nd) (la', lt', si', nd') ∧ (∃ l, ins' = ins ++ l) ∧ th + nd' = th' + nd ∧ th < th' := by
  obtain ⟨b1, b2, b3, b4, b5, b6, b7, b8, b9, b10, b11, b12, b13, b14, b15, b16, b17⟩ := h
  obtain ⟨l, hl, _⟩ := b13
  exact ⟨⟨b5, b7, b9, by dsimp only; omega⟩, ⟨l, hl⟩, by omega, b4⟩
theorem px_S_k {c : Nat → Int} {n : Nat} {e : ps_E} {p p' : Nat} {r : Nat × Nat × List Nat × Nat × Nat × Nat} {w w' : fa_W} (h : px_S c n e (p, r) w) (k : px_k w w') (t : px_tok c n (ps_sk c n p') w') : px_S c n e (p', r) w' := by
  obtain ⟨gl, sc, ow, ne⟩ := e
  obtain ⟨th, la, ins, lt, si, nd⟩ := r
  obtain ⟨e1, e2, e3, e4, e5, e6, e7, e8, e9, e10, e11, e12, e13, e14⟩ := id h
  exact px_S_7 h (fun o j a b => k o j (by omega)) t ((k 7 7 (by omega)).trans e3) ((k 7 8 (by omega)).trans e4) ((k 7 9 (by omega)).trans e5) ((k 7 10 (by omega)).trans e6) ((k 7 11 (by omega)).trans e7) ((k 7 12 (by omega)).trans e8) ((k 8 15 (by omega)).trans e9) e14
theorem px_open2 {c : Nat → Int} {n : Nat} {gl : List Nat} {sc : List (Nat × Nat)} {ow : Int} {ne p th la lt si nd : Nat} {ins : List Nat} {w : fa_W} (hn : n ≤ 400) (hs : ps_SI n (gl, sc, ow, ne) (p, th, la, ins, lt, si, nd)) (hS : px_S c n (gl, sc, ow, ne) (p, th, la, ins, lt, si, nd) w) (F : fa_W → Option (Int × fa_W)) (R : ps_R) (hR : (th = 100 ∨ ne = 20) → R = ps_er (ps_sk c n p)) (hb : ∀ w5, px_D (ps_sk c n p) w5 → w5 7 7 = ((ps_sk c n p : Nat) : Int) → px_fo w w5 → pb_ok (F w5) (fun q => px_D (ps_sk c n p) q.2 ∧ px_fo w q.2)) (hg : th < 100 → ne < 20 → px_S c n (gl, sc, ow, ne + 1) (p, th + 1, la, ins, lt, si, nd) (fa_st (fa_st w 7 9 ((th + 1 : Nat) : Int)) 7 8 ((ne + 1 : Nat) : Int)) → px_fr la lt si nd sc.length w (fa_st (fa_st w 7 9 ((th + 1 : Nat) : Int)) 7 8 ((ne + 1 : Nat) : Int)) → pb_ok (F (fa_st (fa_st w 7 9 ((th + 1 : Nat) : Int)) 7 8 ((ne + 1 : Nat) : Int))) (px_R c n (gl, sc, ow, ne) (p, th, la, ins, lt, si, nd) w R)) : pb_ok (fa_l2 (fm_Reader_nest (fm_Reader_countThing w)) fun v4 w5 => if v4 = true then F w5 else some (-1, w5)) (px_R c n (gl, sc, ow, ne) (p, th, la, ins, lt, si, nd) w R) := by
  have hrr := px_S_r hs hS
  dsimp only at hrr
  obtain ⟨s1, s2, s3, s4, s5, s6, s7, s8, s9⟩ := ps_SI_z hs
  have zz := (ps_sk_p hS.1.1 p hs.1).2.1
  obtain ⟨h1, h2, h3, h4, h5, h6, h7, h8, h9, h10, h11, h12, h13, h14⟩ := id hS
  by_cases c2 : th = 100
  · rw [hR (Or.inl c2)]
    have ec := px_count_bad (w := w) (by rw [h5, c2])
    have fr := px_fail_r (px_r_7 (k := 9) (v := 101) hrr (by decide)) zz
    have fo := px_fo_tr (px_fo_st (px_fo_refl w) (o := 7) (k := 9) (v := 101) (by decide)) fr.2.1
    rw [ec]
    generalize fm_Reader_fail (fa_st w 7 9 101) = w4 at fr fo ⊢
    have f8 : ∃ b w5, fm_Reader_nest w4 = (b, w5) ∧ px_D (ps_sk c n p) w5 ∧ w5 7 7 = ((ps_sk c n p : Nat) : Int) ∧ px_fo w w5 := by
      unfold fm_Reader_nest
      split
      · exact ⟨true, _, rfl, px_D_7 fr.1 (by decide), by rw [fa_st_ne (by decide)]; exact fr.2.2, px_fo_st fo (by decide)⟩
      · exact ⟨false, _, rfl, (px_fail_D fr.1).1, px_fail_1 fr.1, px_fo_tr fo (px_fail_D fr.1).2.1⟩
    obtain ⟨b, w5, e5, d5, e7, o5⟩ := f8
    rw [e5]
    dsimp only [fa_l2]
    split
    · exact hb w5 d5 e7 o5
    · exact pb_some ⟨d5, o5⟩
  rw [px_count_ok h5 (by omega)]
  have r1 := px_r_7 (k := 9) (v := ((th + 1 : Nat) : Int)) hrr (by decide)
  have e8 : fa_st w 7 9 ((th + 1 : Nat) : Int) 7 8 = (ne : Int) := by rw [fa_st_ne (by decide)]; exact h4
  by_cases c3 : ne = 20
  · rw [hR (Or.inr c3), px_nest_bad e8 (by omega) (by omega)]
    have fr := px_fail_r r1 zz
    exact pb_some ⟨fr.1, px_fo_tr (px_fo_st (px_fo_refl w) (by decide)) fr.2.1⟩
  rw [px_nest_ok e8 (by omega)]
  dsimp only [fa_l2]
  rw [if_pos rfl]
  have nn : ∀ o k, ¬ (o = 7 ∧ (k = 8 ∨ k = 9)) → fa_st (fa_st w 7 9 ((th + 1 : Nat) : Int)) 7 8 ((ne + 1 : Nat) : Int) o k = w o k := by
    intro o k q
    rw [fa_st_ne (by omega), fa_st_ne (by omega)]
  refine hg (by omega) (by omega) (px_S_7 hS (fun o k a b => nn o k (by omega)) ?_ ?_ (fa_st_eq _ _ _ _) ?_ ?_ ?_ ?_ ?_ (by omega)) (px_fr_7 (px_fr_7 (px_fr_refl _ _ _ _ _ _)))
  · exact ⟨by rw [nn 7 3 (by omega)]; exact h2.1, by rw [nn 7 4 (by omega)]; exact h2.2.1, by rw [nn 7 5 (by omega)]; exact h2.2.2.1, by rw [nn 7 6 (by omega)]; exact h2.2.2.2⟩
  · rw [nn 7 7 (by omega)]; exact h3
  · rw [fa_st_ne (by decide), fa_st_eq]
  · rw [nn 7 10 (by omega)]; exact h6
  · rw [nn 7 11 (by omega)]; exact h7
  · rw [nn 7 12 (by omega)]; exact h8
  · rw [nn 8 15 (by omega)]; exact h9
/-- what opened is closed -/
theorem px_S_close {c : Nat → Int} {n : Nat} {gl : List Nat} {sc : List (Nat × Nat)} {ow : Int} {ne : Nat} {S : ps_S} {w : fa_W} (h : px_S c n (gl, sc, ow, ne + 1) S w) : w 7 8 - 1 = (ne : Int) ∧ px_S c n (gl, sc, ow, ne) S (fa_st w 7 8 (ne : Int)) := by
  obtain ⟨p, th, la, ins, lt, si, nd⟩ := S
  obtain ⟨h1, h2, h3, h4, h5, h6, h7, h8, h9, h10, h11, h12, h13, h14⟩ := id h
  have nn : ∀ o k, ¬ (o = 7 ∧ k = 8) → fa_st w 7 8 (ne : Int) o k = w o k := fun o k q => fa_st_ne q
  refine ⟨by rw [h4]; omega, px_S_7 h (fun o k a b => nn o k (by omega)) ⟨by rw [nn 7 3 (by omega)]; exact h2.1, by rw [nn 7 4 (by omega)]; exact h2.2.1, by rw [nn 7 5 (by omega)]; exact h2.2.2.1, by rw [nn 7 6 (by omega)]; exact h2.2.2.2⟩ ?_ (fa_st_eq _ _ _ _) ?_ ?_ ?_ ?_ ?_ (by omega)⟩
  · rw [nn 7 7 (by omega)]; exact h3
  · rw [nn 7 9 (by omega)]; exact h5
  · rw [nn 7 10 (by omega)]; exact h6
  · rw [nn 7 11 (by omega)]; exact h7
  · rw [nn 7 12 (by omega)]; exact h8
  · rw [nn 8 15 (by omega)]; exact h9
theorem px_H_fr {t : pt_T} (tt : pt_tw t) {gl : List Nat} {sc : List (Nat × Nat)} {h : Int} {la li si nd la' li' si' nd' lt' sl : Nat} {ins : List Nat} (l : List Nat) {w w' : fa_W} (hc : pk_can t (la, li, si, nd) (la', li', si', nd')) (hw : pk_wfs t gl sc) (hs : ∀ b ∈ sc, pk_lb b.1 la li) (h18 : la' ≤ 18 ∧ li' ≤ ins.length) (hi : ∀ x ∈ ins, 24 ≤ x ∧ x < 24 + lt') (hf : px_fr la' lt' si' nd' sl w w') (H : px_H 8 ins t h nd w) : px_H 8 (ins ++ l) t h nd w' := by
  refine px_H_tr t tt gl sc h (la, li, si, nd) (la', li', si', nd') 8 lt' ins l w w' (24 + lt') (fun j a b => by dsimp only at b; omega) (fun j a b => ?_) hc hw hs h18 hi (px_fr_ht hf (Nat.le_refl _) (Nat.le_refl _) (Nat.le_refl _)) H
  dsimp only at b
  have e : ins.getD j 0 ∈ ins := by
    rw [List.getD_eq_getElem?_getD, List.getElem?_eq_getElem (by omega)]
    exact List.getElem_mem _
  have := hi _ e
  omega
theorem px_cho_R {c : Nat → Int} {n : Nat} {rs : ps_E → ps_S → ps_R} {rm : fa_W → Option (Int × fa_W)} (hx : ps_TX c n) (hn : n ≤ 400) (hp : ps_RC n rs) (hr : px_RC c n rs rm) (hD : px_DF rm) {e : ps_E} {s : ps_S} {w : fa_W} (hs : ps_SI n e s) (hS : px_S c n e s w) (hk : ps_tk c n (ps_sk c n s.1) = 26982) (hne : ps_cho c n false rs e s ≠ none) : pb_ok (fm_Reader_choice_b rm w) (px_R c n e s w (ps_cho c n false rs e s)) := by
  obtain ⟨gl, sc, ow, ne⟩ := e
  obtain ⟨p, th, la, ins, lt, si, nd⟩ := s
  dsimp only at hk
  have z0 : ps_te c n (ps_sk c n p) ≤ n := (ps_word_len hx (s := ps_sk c n p) (by omega)).1
  have zz := (ps_sk_p hx p hs.1).2.1
  have lb0 := (ps_SI_z hs).2.2.1
  have ss1 := (ps_SI_z hs).2.2.2.1
  dsimp only [ps_cho] at hne ⊢
  unfold fm_Reader_choice_b
  dsimp only [fa_let]
  have T3 : ∀ (z : Nat) (u1 u2 u3 : Int) (w' : fa_W), px_D z w' → px_fo w w' → pb_ok (fa_l2 (fm_Program_add 8 6 0 ((fa_st w' 7 8 ((w' 7 8) - 1)) 7 12) u1 u2 u3 (fa_st w' 7 8 ((w' 7 8) - 1))) fun v24 w25 => some (v24, w25)) (fun q => px_D z q.2 ∧ px_fo w q.2) := by
    intro z u1 u2 u3 w' hd ho
    have d2 := px_D_7 (k := 8) (v := (w' 7 8) - 1) hd (by decide)
    have d3 := px_padd_D d2 6 0 ((fa_st w' 7 8 ((w' 7 8) - 1)) 7 12) u1 u2 u3
    exact pb_some ⟨d3.1, px_fo_tr (px_fo_st ho (by decide)) d3.2⟩
  have T3r : ∀ (z : Nat) (u1 u2 : Int) (w' : fa_W), px_D z w' → px_fo w w' → pb_ok (fa_bd (rm w') fun v20 w21 => fa_l2 (fm_Program_add 8 6 0 ((fa_st w21 7 8 ((w21 7 8) - 1)) 7 12) u1 u2 v20 (fa_st w21 7 8 ((w21 7 8) - 1))) fun v24 w25 => some (v24, w25)) (fun q => px_D z q.2 ∧ px_fo w q.2) := by
    intro z u1 u2 w' hd ho
    exact pb_bdm (hD w' z hd) (fun v w2 q => T3 z u1 u2 v w2 q.1 (px_fo_tr ho q.2))
  have T2 : ∀ (z : Nat) (u1 u2 : Int) (w' : fa_W), px_D z w' → px_fo w w' → pb_ok ((fm_Reader_expect 1701606245 w').bind fun w18 => fa_bd (rm w18) fun v20 w21 => fa_l2 (fm_Program_add 8 6 0 ((fa_st w21 7 8 ((w21 7 8) - 1)) 7 12) u1 u2 v20 (fa_st w21 7 8 ((w21 7 8) - 1))) fun v24 w25 => some (v24, w25)) (fun q => px_D z q.2 ∧ px_fo w q.2) := by
    intro z u1 u2 w' hd ho
    exact pb_bindm (px_expect_D (k := 1701606245) hd (by decide) (by decide)) (fun w2 q => T3r z u1 u2 w2 q.1 (px_fo_tr ho q.2))
  have T2r : ∀ (z : Nat) (u1 : Int) (w' : fa_W), px_D z w' → px_fo w w' → pb_ok (fa_bd (rm w') fun v15 w16 => (fm_Reader_expect 1701606245 w16).bind fun w18 => fa_bd (rm w18) fun v20 w21 => fa_l2 (fm_Program_add 8 6 0 ((fa_st w21 7 8 ((w21 7 8) - 1)) 7 12) u1 v15 v20 (fa_st w21 7 8 ((w21 7 8) - 1))) fun v24 w25 => some (v24, w25)) (fun q => px_D z q.2 ∧ px_fo w q.2) := by
    intro z u1 w' hd ho
    exact pb_bdm (hD w' z hd) (fun v w2 q => T2 z u1 v w2 q.1 (px_fo_tr ho q.2))
  have T1 : ∀ (z : Nat) (u1 : Int) (w' : fa_W), px_D z w' → px_fo w w' → pb_ok ((fm_Reader_expect 1952998766 w').bind fun w13 => fa_bd (rm w13) fun v15 w16 => (fm_Reader_expect 1701606245 w16).bind fun w18 => fa_bd (rm w18) fun v20 w21 => fa_l2 (fm_Program_add 8 6 0 ((fa_st w21 7 8 ((w21 7 8) - 1)) 7 12) u1 v15 v20 (fa_st w21 7 8 ((w21 7 8) - 1))) fun v24 w25 => some (v24, w25)) (fun q => px_D z q.2 ∧ px_fo w q.2) := by
    intro z u1 w' hd ho
    exact pb_bindm (px_expect_D (k := 1952998766) hd (by decide) (by decide)) (fun w2 q => T2r z u1 w2 q.1 (px_fo_tr ho q.2))
  refine px_open2 hn hs hS (fun w5 => (fm_Reader_advance w5).bind fun w8 => fa_bd (rm w8) fun v10 w11 => (fm_Reader_expect 1952998766 w11).bind fun w13 => fa_bd (rm w13) fun v15 w16 => (fm_Reader_expect 1701606245 w16).bind fun w18 => fa_bd (rm w18) fun v20 w21 => fa_l2 (fm_Program_add 8 6 0 ((fa_st w21 7 8 ((w21 7 8) - 1)) 7 12) v10 v15 v20 (fa_st w21 7 8 ((w21 7 8) - 1))) fun v24 w25 => some (v24, w25)) _ (fun q => if_pos (q.elim Or.inl (fun z => Or.inr ⟨z, rfl⟩))) (fun w5 d5 e7 o5 => ?_) (fun c2 c3 So fo => ?_)
  · rw [px_adv_D e7 (by omega)]
    exact pb_bdm (hD w5 _ d5) (fun v w2 q => T1 _ v w2 q.1 (px_fo_tr o5 q.2))
  have cc : ¬ (th = 100 ∨ ne = 20 ∧ (false = false)) := fun q => q.elim (by omega) (fun z => by omega)
  rw [if_neg cc] at hne ⊢
  have i1 : ps_SI n (gl, sc, ow, ne + 1) (ps_te c n (ps_sk c n p), th + 1, la, ins, lt, si, nd) := ps_word_si hx (d := 1) hs hk (by decide) (Or.inr (by omega)) (Nat.le_refl 1)
  generalize fa_st (fa_st w 7 9 ((th + 1 : Nat) : Int)) 7 8 ((ne + 1 : Nat) : Int) = w5 at So fo ⊢
  have r5 : px_r c n (ps_sk c n p) w5 := ⟨So.1, So.2.1, So.2.2.1, sc.length, by omega, So.2.2.2.2.2.2.2.2.2.2.2.1⟩
  refine pb_bindm (px_adv_r r5 z0) (fun w8 q => ?_)
  obtain ⟨r8, k8⟩ := q
  have S8 := px_S_k (p' := ps_te c n (ps_sk c n p)) So k8 r8.2.1
  have f8 := px_fr_tr fo (px_k_fr (sl := sc.length) k8) (pk_ge_refl _) (Nat.le_refl _)
  have n1 : rs (gl, sc, ow, ne + 1) (ps_te c n (ps_sk c n p), th + 1, la, ins, lt, si, nd) ≠ none := by
    intro r
    rw [r] at hne
    exact hne rfl
  refine pb_bdm (hr _ _ _ i1 S8 n1) (fun v1 w9 g => ?_)
  cases hq : rs (gl, sc, ow, ne + 1) (ps_te c n (ps_sk c n p), th + 1, la, ins, lt, si, nd) with
  | none => exact absurd hq n1
  | some r =>
  rw [hq] at g hne
  cases r with
  | error z => exact T1 z v1 w9 g.1 (px_fo_tr f8.1 g.2)
  | ok y =>
  obtain ⟨ta, S1⟩ := y
  have o1 := hp _ _ _ _ i1 hq
  have j1 := ps_PO_SI i1 o1
  obtain ⟨p1, th1, la1, ins1, lt1, si1, nd1⟩ := S1
  obtain ⟨b1, b2, b3, b4, b5, b6⟩ := ps_PO_x o1
  obtain ⟨c1, ⟨l1, el1⟩, c3', c4'⟩ := ps_PO_w o1
  obtain ⟨y1, y2, y3, y4⟩ := g
  dsimp only at y1 y2 y3 y4
  dsimp only [ps_bd, ps_ex] at hne ⊢
  have zs1 := (ps_sk_p hx p1 b1).2.1
  have r9 : px_r c n (ps_sk c n p1) w9 := ⟨y2.1, y2.2.1, y2.2.2.1, sc.length, by omega, y2.2.2.2.2.2.2.2.2.2.2.2.1⟩
  have f9 := px_fr_tr f8 y4 (pk_ge_refl _) (Nat.le_refl _)
  refine pb_bindm (px_expect_R (k := 1952998766) r9 zs1 (by decide) (by decide)) (fun w10 q => ?_)
  rcases q with ⟨q1, r10, k10⟩ | ⟨q1, d10, o10⟩
  rotate_left
  · rw [if_neg q1]
    exact T2r _ v1 w10 d10 (px_fo_tr f9.1 o10)
  rw [if_pos q1] at hne ⊢
  have i2 : ps_SI n (gl, sc, ow, ne + 1) (ps_te c n (ps_sk c n p1), th1, la1, ins1, lt1, si1, nd1) := ps_word_si hx (d := 0) j1 q1 (by decide) (Or.inl rfl) (by decide)
  have S10 := px_S_k (p' := ps_te c n (ps_sk c n p1)) y2 k10 r10.2.1
  have n2 : rs (gl, sc, ow, ne + 1) (ps_te c n (ps_sk c n p1), th1, la1, ins1, lt1, si1, nd1) ≠ none := by
    intro r
    rw [r] at hne
    exact hne rfl
  refine pb_bdm (hr _ _ _ i2 S10 n2) (fun v2 w11 g => ?_)
  cases hq2 : rs (gl, sc, ow, ne + 1) (ps_te c n (ps_sk c n p1), th1, la1, ins1, lt1, si1, nd1) with
  | none => exact absurd hq2 n2
  | some r =>
  rw [hq2] at g hne
  cases r with
  | error z => exact T2 z v1 v2 w11 g.1 (px_fo_tr (px_fo_tr f9.1 (px_k_fo k10)) g.2)
  | ok y =>
  obtain ⟨tb, S2⟩ := y
  have o2 := hp _ _ _ _ i2 hq2
  have j2 := ps_PO_SI i2 o2
  obtain ⟨p2, th2, la2, ins2, lt2, si2, nd2⟩ := S2
  obtain ⟨d1, d2, d3, d4, d5, d6⟩ := ps_PO_x o2
  obtain ⟨e1, ⟨l2, el2⟩, e3', e4'⟩ := ps_PO_w o2
  obtain ⟨x1, x2, x3, x4⟩ := g
  dsimp only at x1 x2 x3 x4
  dsimp only at hne ⊢
  have zs2 := (ps_sk_p hx p2 d1).2.1
  have r11 : px_r c n (ps_sk c n p2) w11 := ⟨x2.1, x2.2.1, x2.2.2.1, sc.length, by omega, x2.2.2.2.2.2.2.2.2.2.2.2.1⟩
  have g11 := px_fr_tr (px_k_fr (la := la1) (lt := lt1) (si := si1) (nd := nd1) (sl := sc.length) k10) x4 (pk_ge_refl _) (Nat.le_refl _)
  refine pb_bindm (px_expect_R (k := 1701606245) r11 zs2 (by decide) (by decide)) (fun w12 q => ?_)
  rcases q with ⟨u1, r12, k12⟩ | ⟨u1, d12, o12⟩
  rotate_left
  · rw [if_neg u1]
    exact T3r _ v1 v2 w12 d12 (px_fo_tr (px_fo_tr f9.1 g11.1) o12)
  rw [if_pos u1] at hne ⊢
  have i3 : ps_SI n (gl, sc, ow, ne + 1) (ps_te c n (ps_sk c n p2), th2, la2, ins2, lt2, si2, nd2) := ps_word_si hx (d := 0) j2 u1 (by decide) (Or.inl rfl) (by decide)
  have S12 := px_S_k (p' := ps_te c n (ps_sk c n p2)) x2 k12 r12.2.1
  have n3 : rs (gl, sc, ow, ne + 1) (ps_te c n (ps_sk c n p2), th2, la2, ins2, lt2, si2, nd2) ≠ none := by
    intro r
    rw [r] at hne
    exact hne rfl
  refine pb_bdm (hr _ _ _ i3 S12 n3) (fun v3 w13 g => ?_)
  cases hq3 : rs (gl, sc, ow, ne + 1) (ps_te c n (ps_sk c n p2), th2, la2, ins2, lt2, si2, nd2) with
  | none => exact absurd hq3 n3
  | some r =>
  rw [hq3] at g hne
  cases r with
  | error z => exact T3 z v1 v2 v3 w13 g.1 (px_fo_tr (px_fo_tr (px_fo_tr f9.1 g11.1) (px_k_fo k12)) g.2)
  | ok y =>
  obtain ⟨tc, S3⟩ := y
  have o3 := hp _ _ _ _ i3 hq3
  have j3 := ps_PO_SI i3 o3
  obtain ⟨p3, th3, la3, ins3, lt3, si3, nd3⟩ := S3
  obtain ⟨t1, t2, t3, t4, t5, t6⟩ := ps_PO_x o3
  obtain ⟨k1, ⟨l3, el3⟩, k3', k4'⟩ := ps_PO_w o3
  obtain ⟨v1', v2', v3', v4'⟩ := g
  dsimp only at v1' v2' v3' v4'
  obtain ⟨s1, s2, s3, s4, s5, s6, s7, s8, s9⟩ := ps_SI_z j3
  have hnd := (ps_SI_z hs).2.2.2.2.1
  have sza := pt_sz_pos ta
  have szb := pt_sz_pos tb
  have szc := pt_sz_pos tc
  have nd99 : nd3 < 100 := by omega
  have g13 := px_fr_tr (px_k_fr (la := la2) (lt := lt2) (si := si2) (nd := nd2) (sl := sc.length) k12) v4' (pk_ge_refl _) (Nat.le_refl _)
  obtain ⟨cl1, cl2⟩ := px_S_close v2'
  rw [cl1]
  have gc : px_fr la3 lt3 si3 nd3 sc.length w13 (fa_st w13 7 8 (ne : Int)) := px_fr_7 (px_fr_refl _ _ _ _ _ _)
  generalize fa_st w13 7 8 (ne : Int) = w14 at cl2 gc ⊢
  have ra := px_H_root b2 y3
  rw [b6] at ra
  have ra2 : w14 16 (nd1 - 1) = (nd : Int) := by
    rw [gc.2.2.1 16 _ (by omega) (by have := e1.2.2.2; have := k1.2.2.2; dsimp only at *; omega), g13.2.2.1 16 _ (by omega) (by have := e1.2.2.2; dsimp only at *; omega), g11.2.2.1 16 _ (by omega) (by omega)]
    exact ra
  obtain ⟨w15, a1, a2, a3, a4, a5, a6, a7⟩ := px_fin (K := 6) (v := 0) (st := nd) (a := v1) (b := v2) (d := v3) cl2 nd99 (Or.inr ⟨nd1 - 1, y1, by have := e1.2.2.2; have := k1.2.2.2; dsimp only at *; omega, ra2⟩) (by decide) (by omega) (by omega) (by omega)
  rw [show (6 : Int) = ((6 : Nat) : Int) from rfl, show (0 : Int) = ((0 : Nat) : Int) from rfl, a1]
  have ge12 := pk_ge_tr e1 k1
  have ge0 := pk_ge_tr c1 ge12
  have gf : ∀ la lt si nd, nd ≤ nd3 → px_fr la lt si nd sc.length w14 w15 := fun la lt si nd q => px_un_fr a7 q (by omega) (by omega) (by omega)
  have hC : px_fr la3 lt3 si3 nd3 sc.length w13 w15 := px_fr_tr gc (gf _ _ _ _ (Nat.le_refl _)) (pk_ge_refl _) (Nat.le_refl _)
  have hB : px_fr la2 lt2 si2 nd2 sc.length w11 w15 := px_fr_tr g13 hC k1 (Nat.le_refl _)
  have hA : px_fr la1 lt1 si1 nd1 sc.length w9 w15 := px_fr_tr g11 hB e1 (Nat.le_refl _)
  refine pb_some ⟨rfl, a3, ?_, px_fr_tr f9 hA c1 (Nat.le_refl _)⟩
  have lb1 := pk_lbs lb0 b5
  have lb2 := pk_lbs lb1 d5
  have z1 := ps_SI_z j1
  have z2 := ps_SI_z j2
  have HA := px_H_fr b2 (l2 ++ l3) b4 b3 lb0 ⟨z1.1, Nat.le_refl _⟩ z1.2.1 hA y3
  have HB := px_H_fr d2 l3 d4 d3 lb1 ⟨z2.1, Nat.le_refl _⟩ z2.2.1 hB x3
  have HC := px_H_fr t2 [] t4 t3 lb2 ⟨s1, Nat.le_refl _⟩ s2 hC v3'
  rw [List.append_nil] at HC
  rw [← List.append_assoc, ← el2, ← el3] at HA
  rw [← el3] at HB
  refine ⟨HA, ?_, ?_, ?_⟩
  · rw [b6]; exact HB
  · rw [b6, d6]; exact HC
  · rw [b6, d6, t6]
    rw [y1, x1, v1'] at a2
    exact a2
