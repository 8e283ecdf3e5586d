theorem px_S_nn {c : Nat → Int} {n : Nat} {gl : List Nat} {sc : List (Nat × Nat)} {ow : Int} {ne p th la lt si nd : Nat} {ins : List Nat} {w w' : fa_W} (h : px_S c n (gl, sc, ow, ne) (p, th, la, ins, lt, si, nd) w) (nn : ∀ o k, o ≠ 28 → ¬ (o = 8 ∧ k = 16) → w' o k = w o k) : px_S c n (gl, sc, ow, ne) (p, th, la, ins, lt, si, nd) w' := by
  obtain ⟨e1, e2, e3, e4, e5, e6, e7, e8, e9, e10, e11, e12, e13, e14⟩ := h
  obtain ⟨z1, z2, z3, z4, z5, z6, z7, z8, z9⟩ := e10
  refine ⟨px_tx_of e1 (nn 1 1 (by omega) (by omega)) (fun j => nn 2 j (by omega) (by omega)), ⟨by rw [nn 7 3 (by omega) (by omega)]; exact e2.1, by rw [nn 7 4 (by omega) (by omega)]; exact e2.2.1, by rw [nn 7 5 (by omega) (by omega)]; exact e2.2.2.1, by rw [nn 7 6 (by omega) (by omega)]; exact e2.2.2.2⟩, (nn 7 7 (by omega) (by omega)).trans e3, (nn 7 8 (by omega) (by omega)).trans e4, (nn 7 9 (by omega) (by omega)).trans e5, (nn 7 10 (by omega) (by omega)).trans e6, (nn 7 11 (by omega) (by omega)).trans e7, (nn 7 12 (by omega) (by omega)).trans e8, (nn 8 15 (by omega) (by omega)).trans e9, ⟨?_, ?_, ?_, ?_, ?_, ?_, ?_, ?_, ?_⟩, px_gl_of e11 (nn 8 13 (by omega) (by omega)) (nn 25 1 (by omega) (by omega)) (fun j => nn 26 j (by omega) (by omega)), (nn 35 1 (by omega) (by omega)).trans e12, px_sc_of sc (fun j _ => nn 36 j (by omega) (by omega)) (fun b _ => ⟨rfl, nn 22 _ (by omega) (by omega)⟩) e13, e14⟩
  all_goals (rw [nn _ 1 (by omega) (by omega)]; assumption)
theorem px_S_28 {c : Nat → Int} {n : Nat} {gl : List Nat} {sc : List (Nat × Nat)} {ow : Int} {ne p th la lt si nd : Nat} {ins : List Nat} {w : fa_W} (h : px_S c n (gl, sc, ow, ne) (p, th, la, ins, lt, si, nd) w) (g : Nat) (v : Int) : px_S c n (gl, sc, ow, ne) (p, th, la, ins, lt, si, nd) (fa_st w 28 g v) := px_S_nn h (fun o k q _ => fa_st_ne (fun z => q z.1))
set_option maxHeartbeats 1000000 in
/-- a GLOBAL, as the class reads it -/
theorem px_global_R {c : Nat → Int} {n : Nat} (hx : ps_TX c n) (hn : n ≤ 400) {gs : ps_G} {p th la lt si nd : Nat} {ins : List Nat} {w : fa_W} (hg : gs.length ≤ 6) (hs : ps_SI n (pk_gn gs, [], -1, 0) (p, th, la, ins, lt, si, nd)) (hth : th = nd) (hT : px_T c n gs (p, th, la, ins, lt, si, nd) w) (hk : ps_tk c n (ps_sk c n p) = 6714734) (f : Nat) (R : fa_W → Prop) (hE : ∀ z w', px_D z w' → px_fo w w' → ps_all c n false (f + 1) gs (p, th, la, ins, lt, si, nd) = some (.error z) → R w') (hK : ∀ gs' s' w', gs'.length = gs.length + 1 → gs'.length ≤ 6 → ps_SI n (pk_gn gs', [], -1, 0) s' → s'.2.1 = s'.2.2.2.2.2.2 → px_T c n gs' s' w' → px_fo w w' → ps_all c n false (f + 1) gs (p, th, la, ins, lt, si, nd) = ps_all c n false f gs' s' → R w') : pb_ok (fm_Reader_global w) R := by
  obtain ⟨hS, hGH, hGW⟩ := hT
  have gl := pk_gn_len gs
  refine px_ghead hx hn hg hs hS hk f R hE (fun w4 q1 hq1 g6 t2 nx r4 k4 S4 spec => ?_)
  have nm := ps_name hx t2
  have ga := px_S_gadd S4 (by rw [gl]; exact g6) (ps_tv c n q1)
  rw [gl] at ga
  dsimp only [fa_let]
  have e13 : fr_add 25 ((ps_tv c n q1 : Nat) : Int) w4 8 13 = (gs.length : Int) := by
    rw [px_add_o (by decide) (by decide), ← gl]
    exact S4.2.2.2.2.2.2.2.2.2.2.1.1
  rw [e13, show (gs.length : Int) + 1 = ((gs.length + 1 : Nat) : Int) from rfl]
  generalize fa_st (fr_add 25 ((ps_tv c n q1 : Nat) : Int) w4) 8 13 ((gs.length + 1 : Nat) : Int) = w12 at ga ⊢
  obtain ⟨S12, n26, nn12⟩ := ga
  have fo12 : px_fo w w12 := fun o k q => (nn12 o k (by omega) (by omega) (by omega)).trans (px_k_fo k4 o k q)
  have pq1 : p ≤ q1 := by
    have z1 := (ps_sk_p hx p hs.1).1
    have z2 := ps_te_p hx (ps_lt hx (s := ps_sk c n p) (by omega))
    have z3 := (ps_sk_p hx _ z2.2).1
    omega
  have r12 : px_r c n q1 w12 := by rw [hq1]; exact px_S_r2 S12 (by decide)
  refine pb_bindm (px_adv_r r12 nm.2.2.2) (fun w14 q => ?_)
  obtain ⟨r14, k14⟩ := q
  have S14 := px_S_k (p' := ps_te c n q1) S12 k14 r14.2.1
  have S15 := px_S_ow S14 (gs.length : Int)
  have nn15 : ∀ o k, ¬ (o = 7 ∧ k = 12) → fa_st w14 7 12 (gs.length : Int) o k = w14 o k := fun o k q => fa_st_ne q
  generalize fa_st w14 7 12 (gs.length : Int) = w15 at S15 nn15 ⊢
  have fo15 : px_fo w w15 := fun o k q => (nn15 o k (by omega)).trans ((px_k_fo k14 o k q).trans (fo12 o k q))
  have zq2 := (ps_sk_p hx _ nm.2.2.2)
  have h21 : w15 21 1 = ((74 : Nat) : Int) := S15.2.2.2.2.2.2.2.2.2.1.2.2.2.2.2.2.1
  refine pb_bindm (px_nameV_R (v := gs.length) (px_S_r2 S15 (by decide)) zq2.2.1 h21 (by omega)) (fun w17 q => ?_)
  rcases q with ⟨v2, r17, n22, nn17⟩ | ⟨v2, d17, o17⟩
  rotate_left
  · have d := px_sadd_D d17 (gs.length : Int)
    refine pb_bindm (px_expect_D (k := 61) d.1 (by decide) (by decide)) (fun w2 u => ?_)
    exact pb_mono (px_gexp_D u.1 (px_fo_tr (px_fo_tr (px_fo_tr fo15 o17) d.2) u.2) (gs.length : Int)) (fun w' q => hE _ w' q.1 q.2 (by rw [spec]; unfold ps_glo; exact if_pos v2))
  have n22 := n22 (by omega)
  have fo17 : px_fo w w17 := fun o k q => (nn17 o k (by omega) (by omega)).trans (fo15 o k q)
  have nm2 := ps_name hx v2
  have S17 := px_S_kv (p' := ps_te c n (ps_sk c n (ps_te c n q1))) S15 nn17 r17.2.1 (fun b hb => by cases hb)
  have pu := px_S_push (l := []) (v := gs.length) (x := ps_tv c n (ps_sk c n (ps_te c n q1))) (xv := gs.length) S17 (by unfold px_xi; rw [if_pos (by omega)]) (by omega) n22 (by decide) (fun b hb => by cases hb)
  rw [List.append_nil] at pu
  obtain ⟨S19, nn19⟩ := pu
  generalize fr_add 35 (gs.length : Int) w17 = w19 at S19 nn19 ⊢
  have fo19 : px_fo w w19 := fun o k q => (nn19 o k (by omega) (by omega)).trans (fo17 o k q)
  have zq3 := (ps_sk_p hx _ nm2.2.2.2)
  refine pb_bindm (px_expect_R (k := 61) (px_S_r2 S19 (by show 1 ≤ 21; decide)) zq3.2.1 (by decide) (by decide)) (fun w21 q => ?_)
  rcases q with ⟨v3, r21, k21⟩ | ⟨v3, d21, o21⟩
  rotate_left
  · exact pb_mono (px_gexp_D d21 (px_fo_tr fo19 o21) (gs.length : Int)) (fun w' q => hE _ w' q.1 q.2 (by rw [spec]; unfold ps_glo; rw [if_neg (fun q => q v2)]; exact if_pos v3))
  have fo21 : px_fo w w21 := px_fo_tr fo19 (px_k_fo k21)
  have z3 := ps_sign hx nm2.2.2.2 (by decide) (by decide) v3
  have S21 := px_S_k (p' := ps_te c n (ps_sk c n (ps_te c n (ps_sk c n (ps_te c n q1))))) S19 k21 r21.2.1
  have i6 := ps_glo_si hx hs (by omega) (ps_te c n (ps_sk c n (ps_te c n (ps_sk c n (ps_te c n q1))))) (by omega) (by omega) nm.1 nm2.1
  rw [gl] at i6
  have c21 : ∀ o k, o ≠ 7 → o ≠ 8 → o ≠ 25 → ¬ (o = 26 ∧ k = gs.length) → ¬ (o = 22 ∧ k = gs.length) → o ≠ 35 → o ≠ 36 → w21 o k = w o k := by
    intro o k h1 h2 h3 h4 h5 h6 h7
    rw [k21 o k (by omega), nn19 o k (by omega) (by omega), nn17 o k (by omega) h5, nn15 o k (by omega), k14 o k (by omega), nn12 o k (by omega) h4 (by omega), k4 o k (by omega)]
  have m26 : w21 26 gs.length = ((ps_tv c n q1 : Nat) : Int) := by
    rw [k21 26 _ (by omega), nn19 26 _ (by omega) (by omega), nn17 26 _ (by omega) (by omega), nn15 26 _ (by omega), k14 26 _ (by omega)]
    exact n26
  have m22 : w21 22 gs.length = ((ps_tv c n (ps_sk c n (ps_te c n q1)) : Nat) : Int) := by
    rw [k21 22 _ (by omega), nn19 22 _ (by omega) (by omega)]
    exact n22
  clear nn12 nn15 nn17 nn19 k14 S12 S14 S15 S17 S19 S4 k4 r4 r14 r17 e13 n26 n22 h21
  obtain ⟨y1, y2, y3, y4, y5, y6, y7, y8, y9⟩ := ps_SI_z hs
  have tg1 : px_tg 8 gs.length w w21 := ⟨fun i j q => c21 i j (by omega) (by omega) (by omega) (by omega) (by omega) (by omega) (by omega), fun j q => c21 22 j (by omega) (by omega) (by omega) (by omega) (by omega) (by omega) (by omega), fun j q => c21 28 j (by omega) (by omega) (by omega) (by omega) (by omega) (by omega) (by omega), fun j q => c21 26 j (by omega) (by omega) (by omega) (by omega) (by omega) (by omega) (by omega)⟩
  have GH21 : px_GH 8 ins gs 0 0 w21 := px_GH_tg g6 (fun x hx => (y2 x hx).1) tg1 gs [] (0, 0, 0, 0) _ 0 (by simp) hGW y1 (Nat.le_refl _) hGH
  refine pb_bdm (px_e_R hx hn i6 (Nat.zero_le _) S21) (fun v23 w24 g => ?_)
  cases hq : ps_t c n false 899 0 (pk_gn gs ++ [ps_tv c n q1], [(gs.length, ps_tv c n (ps_sk c n (ps_te c n q1)))], (gs.length : Int), 0) (ps_te c n (ps_sk c n (ps_te c n (ps_sk c n (ps_te c n q1)))), th, la, ins, lt, si, nd) with
  | none => rw [hq] at g; exact g.elim
  | some rs =>
  rw [hq] at g
  have sp2 : ps_all c n false (f + 1) gs (p, th, la, ins, lt, si, nd) = ps_qb (some rs) fun t s1 => if ps_tk c n (ps_sk c n s1.1) = 59 then ps_all c n false f (gs ++ [(ps_tv c n q1, ps_tv c n (ps_sk c n (ps_te c n q1)), t)]) (ps_te c n (ps_sk c n s1.1), s1.2) else some (.error (ps_sk c n s1.1)) := by
    rw [spec, ← hq]
    unfold ps_glo
    rw [if_neg (fun q => q v2), if_neg (fun q => q v3)]
    rfl
  cases rs with
  | error z => exact pb_mono (px_gend_D g.1 (px_fo_tr fo21 g.2) (gs.length : Int) v23) (fun w' q => hE _ w' q.1 q.2 sp2)
  | ok y =>
    obtain ⟨t, s1⟩ := y
    have o1 := ps_t_po hx 899 0 _ _ _ _ (by omega) (by omega) (by omega) i6 hq
    have j1 := ps_PO_SI i6 o1
    obtain ⟨p1, th1, la1, ins1, lt1, si1, nd1⟩ := s1
    obtain ⟨b1, b2, b3, b4, b5, b6⟩ := ps_PO_x o1
    have hth1 : th1 = nd1 := by
      obtain ⟨c1, c2, c3, _⟩ := o1
      omega
    obtain ⟨x1, x2, x3, x4⟩ := g
    dsimp only at x1 x2 x3 x4
    obtain ⟨l, el, hl⟩ := ps_PO_inx o1
    obtain ⟨y1', y2', y3', y4', y5', y6', y7', y8', y9'⟩ := ps_SI_z j1
    have GH24 : px_GH 8 ins1 gs 0 0 w24 := by
      rw [el]
      exact px_GH_fr (l := l) y1 y2 x4 gs [] (0, 0, 0, 0) _ (by simp; omega) (Nat.le_refl _) (Nat.le_refl _) (Nat.le_refl _) (Nat.le_refl _) hGW GH21
    have z27 : w24 27 1 = ((24 : Nat) : Int) := x2.2.2.2.2.2.2.2.2.2.1.2.2.2.2.2.2.2.2
    rw [show fa_rf 8 9 = 27 from rfl, pb_set z27 (by omega) (by decide), show fa_rf 27 0 = 28 from rfl]
    have S25 := px_S_28 x2 gs.length v23
    have nn25 : ∀ o k, ¬ (o = 28 ∧ k = gs.length) → fa_st w24 28 gs.length v23 o k = w24 o k := fun o k q => fa_st_ne q
    have m28 : fa_st w24 28 gs.length v23 28 gs.length = v23 := fa_st_eq _ _ _ _
    generalize fa_st w24 28 gs.length v23 = w25 at S25 nn25 m28 ⊢
    have fo25 : px_fo w w25 := fun o k q => (nn25 o k (by omega)).trans ((x4.1 o k q).trans (fo21 o k q))
    have zq4 := ps_sk_p hx p1 b1
    refine pb_bindm (px_expect_R (k := 59) (px_S_r2 S25 (by show 1 ≤ 21; decide)) zq4.2.1 (by decide) (by decide)) (fun w28 q => ?_)
    rcases q with ⟨v4, r28, k28⟩ | ⟨v4, d28, o28⟩
    rotate_left
    · have d := px_D_sc d28
      exact pb_some (hE _ _ (px_D_7 d.1 (by decide)) (px_fo_st (px_fo_tr (px_fo_tr fo25 o28) d.2) (by decide)) (by rw [sp2]; exact if_neg v4))
    have z4 := ps_sign hx b1 (by decide) (by decide) v4
    have S28 := px_S_k (p' := ps_te c n (ps_sk c n p1)) S25 k28 r28.2.1
    have S31 := px_S_ow (px_S_sc0 S28) (-1)
    have nn31 : ∀ o k, o ≠ 7 → ¬ (o = 35 ∧ k = 1) → ¬ (o = 28 ∧ k = gs.length) → fa_st (fm_Row_clear 35 w28) 7 12 (-1) o k = w24 o k := by
      intro o k h1 h2 h3
      rw [fa_st_ne (fun z => h1 z.1), show fm_Row_clear 35 w28 = fa_st w28 35 1 0 from rfl, fa_st_ne h2, k28 o k (by omega), nn25 o k h3]
    have k31 : fa_st (fm_Row_clear 35 w28) 7 12 (-1) 28 gs.length = v23 := by
      rw [fa_st_ne (by omega), show fm_Row_clear 35 w28 = fa_st w28 35 1 0 from rfl, fa_st_ne (by omega), k28 28 _ (by omega)]
      exact m28
    generalize fa_st (fm_Row_clear 35 w28) 7 12 (-1) = w31 at S31 nn31 k31 ⊢
    have i2 := ps_glo_sj hx i6 o1 (q := ps_te c n (ps_sk c n p1)) (by omega) (by omega)
    rw [← pk_gn_snoc gs (ps_tv c n q1) (ps_tv c n (ps_sk c n (ps_te c n q1))) t] at i2 S31
    refine pb_some (hK (gs ++ [(ps_tv c n q1, ps_tv c n (ps_sk c n (ps_te c n q1)), t)]) (ps_te c n (ps_sk c n p1), th1, la1, ins1, lt1, si1, nd1) w31 (by simp) (by simp; omega) i2 hth1 ⟨S31, ?_, ?_⟩ (fun o k q => (nn31 o k (by omega) (by omega) (by omega)).trans ((x4.1 o k q).trans (fo21 o k q))) (by rw [sp2]; exact if_pos v4))
    · have tg2 : px_tg 8 gs.length w24 w31 := ⟨fun i j q => nn31 i j (by omega) (by omega) (by omega), fun j q => nn31 22 j (by omega) (by omega) (by omega), fun j q => nn31 28 j (by omega) (by omega) (by omega), fun j q => nn31 26 j (by omega) (by omega) (by omega)⟩
      have old : px_GH 8 ins1 gs 0 0 w31 := px_GH_tg g6 (fun x hx => (y2' x hx).1) tg2 gs [] (0, 0, 0, 0) _ 0 (by simp) hGW y1 (by show ins.length ≤ _; rw [el, List.length_append]; omega) GH24
      refine px_GH_snoc gs [] 0 (0, 0, 0, 0) (la, ins.length, si, nd) _ _ t w31 hGW old ?_
      rw [Nat.zero_add]
      refine ⟨?_, ?_, ?_, ?_, trivial⟩
      · rw [nn31 26 _ (by omega) (by omega) (by omega), x4.2.2.2.2.2.2.2.1 _]; exact m26
      · rw [nn31 22 _ (by omega) (by omega) (by omega), x4.2.2.2.2.2.1 22 _ (Or.inl rfl) (Or.inl (by omega))]; exact m22
      · rw [k31, x1, ← b6]
      · have := px_H_tr t b2 _ _ (gs.length : Int) (la, ins.length, si, nd) (la1, ins1.length, si1, nd1) 8 lt1 ins1 [] w24 w31 0 (fun j a b => by omega) (fun j a b => by
          dsimp only at b
          rw [List.getD_eq_getElem?_getD, List.getElem?_eq_getElem b]
          have := (y2' _ (List.getElem_mem b)).1
          show ins1[j] ≠ 0
          omega) b4 b3 (fun b hb => by
          rw [List.mem_singleton] at hb
          subst hb
          exact Or.inl (by dsimp only; omega)) ⟨y1', Nat.le_refl _⟩ y2' ⟨fun i j q _ _ => nn31 i j (by omega) (by omega) (by omega), fun j _ _ => nn31 18 j (by omega) (by omega) (by omega), fun j _ _ => nn31 20 j (by omega) (by omega) (by omega), fun i j q _ _ => nn31 i j (by omega) (by omega) (by omega), fun j a _ => nn31 28 j (by omega) (by omega) (by dsimp only at a; omega), fun j => nn31 26 j (by omega) (by omega) (by omega)⟩ x3
        rw [List.append_nil] at this
        exact this
    · exact pk_GW_snoc gs [] _ _ _ _ _ _ hGW nm.1 nx nm2.1 b2 (by rw [List.nil_append, gl]; exact b3) b4
