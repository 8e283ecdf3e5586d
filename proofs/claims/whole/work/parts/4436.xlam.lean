theorem ps_SI_z {n : Nat} {gl : List Nat} {sc : List (Nat × Nat)} {ow : Int} {ne p th la lt si nd : Nat} {ins : List Nat} (h : ps_SI n (gl, sc, ow, ne) (p, th, la, ins, lt, si, nd)) : la ≤ 18 ∧ (∀ x ∈ ins, 24 ≤ x ∧ x < 24 + lt) ∧ (∀ b ∈ sc, pk_lb b.1 la ins.length) ∧ sc.length ≤ ne + 1 ∧ nd ≤ th ∧ si ≤ th ∧ lt ≤ th ∧ th ≤ 100 ∧ ins.length ≤ lt := by
  obtain ⟨a1, a2, a3, a4, a5, a6, a7, a8, a9, a10, a11, a12, a13, a14, a15, a16, a17⟩ := h
  exact ⟨a5, a13, fun b hb => (a12 b hb).1, a10, a3, a4, by omega, a2, a7⟩
theorem px_lam_R {c : Nat → Int} {n : Nat} {rs : ps_E → ps_S → ps_R} {rm : fa_W → Option (Int × fa_W)} (hx : ps_TX c n) (hn : n ≤ 400) (hp : ps_RC n rs) (hr : px_RC c n rs rm) (hD : px_DF rm) {e : ps_E} {s : ps_S} {w : fa_W} (hs : ps_SI n e s) (hS : px_S c n e s w) (hk : ps_tk c n (ps_sk c n s.1) = 92) (hne : ps_lam c n false rs e s ≠ none) : pb_ok (fm_Reader_lambda_b rm w) (px_R c n e s w (ps_lam c n false rs e s)) := by
  have hrr := px_S_r hs hS
  obtain ⟨gl, sc, ow, ne⟩ := e
  obtain ⟨p, th, la, ins, lt, si, nd⟩ := s
  dsimp only at hk hrr
  obtain ⟨s1, s2, s3, s4, s5, s6, s7, s8, s9⟩ := ps_SI_z hs
  have hp1 := hs.1
  have zz := (ps_sk_p hx p hp1).2.1
  have z0 := ps_sign hx hp1 (by decide) (by decide) hk
  obtain ⟨h1, h2, h3, h4, h5, h6, h7, h8, h9, h10, h11, h12, h13, h14⟩ := id hS
  dsimp only [ps_lam] at hne ⊢
  unfold fm_Reader_lambda_b
  dsimp only [fa_let]
  rw [h6, h8, show (6 : Int) + (la : Int) = ((6 + la : Nat) : Int) from rfl]
  -- behind a fault
  have T3 : ∀ (z : Nat) (v : Int) (w' : fa_W), px_D z w' → px_fo w w' → pb_ok (fa_l2 (fr_drop 35 (fa_st w' 7 12 ow)) fun v25 w26 => fa_l2 (fm_Program_add 8 5 ((6 + la : Nat) : Int) ((fa_st w26 7 8 ((w26 7 8) - 1)) 7 12) v (-1) (-1) (fa_st w26 7 8 ((w26 7 8) - 1))) fun v29 w30 => some (v29, w30)) (fun q => px_D z q.2 ∧ px_fo w q.2) := by
    intro z v w' hd ho
    have d1 := px_sdrop_D (px_D_7 (k := 12) (v := ow) hd (by decide))
    have d2 := px_D_7 (k := 8) (v := ((fr_drop 35 (fa_st w' 7 12 ow)).2 7 8) - 1) d1.1 (by decide)
    have d3 := px_padd_D d2 5 ((6 + la : Nat) : Int) ((fa_st (fr_drop 35 (fa_st w' 7 12 ow)).2 7 8 (((fr_drop 35 (fa_st w' 7 12 ow)).2 7 8) - 1)) 7 12) v (-1) (-1)
    exact pb_some ⟨d3.1, px_fo_tr (px_fo_st (px_fo_tr (px_fo_st ho (by decide)) d1.2) (by decide)) d3.2⟩
  have T2 : ∀ (z : Nat) (w' : fa_W), px_D z w' → px_fo w w' → pb_ok (fa_bd (rm w') fun v21 w22 => fa_l2 (fr_drop 35 (fa_st w22 7 12 ow)) fun v25 w26 => fa_l2 (fm_Program_add 8 5 ((6 + la : Nat) : Int) ((fa_st w26 7 8 ((w26 7 8) - 1)) 7 12) v21 (-1) (-1) (fa_st w26 7 8 ((w26 7 8) - 1))) fun v29 w30 => some (v29, w30)) (fun q => px_D z q.2 ∧ px_fo w q.2) := by
    intro z w' hd ho
    exact pb_bdm (hD w' z hd) (fun v w2 q => T3 z v w2 q.1 (px_fo_tr ho q.2))
  have T1 : ∀ (z : Nat) (w' : fa_W), px_D z w' → px_fo w w' → pb_ok ((fm_Reader_expect 46 w').bind fun w16 => fa_bd (rm (fa_st (fr_add 35 ((6 + la : Nat) : Int) w16) 7 12 ((6 + la : Nat) : Int))) fun v21 w22 => fa_l2 (fr_drop 35 (fa_st w22 7 12 ow)) fun v25 w26 => fa_l2 (fm_Program_add 8 5 ((6 + la : Nat) : Int) ((fa_st w26 7 8 ((w26 7 8) - 1)) 7 12) v21 (-1) (-1) (fa_st w26 7 8 ((w26 7 8) - 1))) fun v29 w30 => some (v29, w30)) (fun q => px_D z q.2 ∧ px_fo w q.2) := by
    intro z w' hd ho
    refine pb_bindm (px_expect_D (k := 46) hd (by decide) (by decide)) (fun w2 q => ?_)
    have d := px_sadd_D q.1 ((6 + la : Nat) : Int)
    exact T2 z _ (px_D_7 d.1 (by decide)) (px_fo_st (px_fo_tr (px_fo_tr ho q.2) d.2) (by decide))
  have T0 : ∀ (z : Nat) (w' : fa_W), px_D z w' → px_fo w w' → pb_ok ((fm_Reader_nameVariable ((6 + la : Nat) : Int) w').bind fun w14 => (fm_Reader_expect 46 w14).bind fun w16 => fa_bd (rm (fa_st (fr_add 35 ((6 + la : Nat) : Int) w16) 7 12 ((6 + la : Nat) : Int))) fun v21 w22 => fa_l2 (fr_drop 35 (fa_st w22 7 12 ow)) fun v25 w26 => fa_l2 (fm_Program_add 8 5 ((6 + la : Nat) : Int) ((fa_st w26 7 8 ((w26 7 8) - 1)) 7 12) v21 (-1) (-1) (fa_st w26 7 8 ((w26 7 8) - 1))) fun v29 w30 => some (v29, w30)) (fun q => px_D z q.2 ∧ px_fo w q.2) := by
    intro z w' hd ho
    exact pb_bindm (px_nameV_D hd _) (fun w2 q => T1 z w2 q.1 (px_fo_tr ho q.2))
  by_cases c2 : th = 100
  · rw [if_pos (Or.inr (Or.inl c2))]
    have ec := px_count_bad (w := w) (by rw [h5, c2])
    have fr := px_fail_r (px_r_7 (k := 9) (v := 101) hrr (by decide)) zz
    have fo := px_fo_tr (px_fo_st (px_fo_refl w) (o := 7) (k := 9) (v := 101) (by decide)) fr.2.1
    rw [ec]
    generalize fm_Reader_fail (fa_st w 7 9 101) = w4 at fr fo ⊢
    split
    · have f8 : ∃ b w5, fm_Reader_nest w4 = (b, w5) ∧ px_D (ps_sk c n p) w5 ∧ w5 7 7 = ((ps_sk c n p : Nat) : Int) ∧ px_fo w w5 := by
        unfold fm_Reader_nest
        split
        · exact ⟨true, _, rfl, px_D_7 fr.1 (by decide), by rw [fa_st_ne (by decide)]; exact fr.2.2, px_fo_st fo (by decide)⟩
        · exact ⟨false, _, rfl, (px_fail_D fr.1).1, px_fail_1 fr.1, px_fo_tr fo (px_fail_D fr.1).2.1⟩
      obtain ⟨b, w5, e5, d5, e7, o5⟩ := f8
      rw [e5]
      dsimp only [fa_l2]
      split
      · rw [px_adv_D (z := ps_sk c n p) (by rw [fa_st_ne (by decide)]; exact e7) (by omega)]
        exact T0 _ _ (px_D_7 d5 (by decide)) (px_fo_st o5 (by decide))
      · exact pb_some ⟨d5, o5⟩
    · exact pb_some ⟨(px_fail_D fr.1).1, px_fo_tr fo (px_fail_D fr.1).2.1⟩
  rw [px_count_ok h5 (by omega)]
  have e10 : fa_st w 7 9 ((th + 1 : Nat) : Int) 7 10 = (la : Int) := by rw [fa_st_ne (by decide)]; exact h6
  rw [e10, pb_wr (by omega)]
  have r1 := px_r_7 (k := 9) (v := ((th + 1 : Nat) : Int)) hrr (by decide)
  by_cases c1 : la = 18
  · rw [if_pos (Or.inl c1), if_neg (by omega)]
    have fr := px_fail_r r1 zz
    exact pb_some ⟨fr.1, px_fo_tr (px_fo_st (px_fo_refl w) (by decide)) fr.2.1⟩
  rw [if_pos (by omega)]
  have e8 : fa_st w 7 9 ((th + 1 : Nat) : Int) 7 8 = (ne : Int) := by rw [fa_st_ne (by decide)]; exact h4
  by_cases c3 : ne = 20
  · rw [if_pos (Or.inr (Or.inr ⟨c3, rfl⟩)), px_nest_bad e8 (by omega) (by omega)]
    have fr := px_fail_r r1 zz
    exact pb_some ⟨fr.1, px_fo_tr (px_fo_st (px_fo_refl w) (by decide)) fr.2.1⟩
  have cc : ¬ (la = 18 ∨ th = 100 ∨ ne = 20 ∧ (false = false)) := by
    intro q
    rcases q with q | q | q
    · exact c1 q
    · exact c2 q
    · exact c3 q.1
  rw [if_neg cc] at hne ⊢
  rw [px_nest_ok e8 (by omega)]
  dsimp only [fa_l2]
  rw [if_pos rfl]
  have e10' : fa_st (fa_st w 7 9 ((th + 1 : Nat) : Int)) 7 8 ((ne + 1 : Nat) : Int) 7 10 + 1 = ((la + 1 : Nat) : Int) := by rw [fa_st_ne (by decide), e10]; rfl
  rw [e10']
  have r3 := px_r_7 (k := 10) (v := ((la + 1 : Nat) : Int)) (px_r_7 (k := 8) (v := ((ne + 1 : Nat) : Int)) r1 (by decide)) (by decide)
  have nn3 : ∀ o k, ¬ (o = 7 ∧ (k = 8 ∨ k = 9 ∨ k = 10)) → fa_st (fa_st (fa_st w 7 9 ((th + 1 : Nat) : Int)) 7 8 ((ne + 1 : Nat) : Int)) 7 10 ((la + 1 : Nat) : Int) o k = w o k := by
    intro o k q
    rw [fa_st_ne (by omega), fa_st_ne (by omega), fa_st_ne (by omega)]
  have v8 : fa_st (fa_st (fa_st w 7 9 ((th + 1 : Nat) : Int)) 7 8 ((ne + 1 : Nat) : Int)) 7 10 ((la + 1 : Nat) : Int) 7 8 = ((ne + 1 : Nat) : Int) := by rw [fa_st_ne (by decide), fa_st_eq]
  have v9 : fa_st (fa_st (fa_st w 7 9 ((th + 1 : Nat) : Int)) 7 8 ((ne + 1 : Nat) : Int)) 7 10 ((la + 1 : Nat) : Int) 7 9 = ((th + 1 : Nat) : Int) := by rw [fa_st_ne (by decide), fa_st_ne (by decide), fa_st_eq]
  have v10 : fa_st (fa_st (fa_st w 7 9 ((th + 1 : Nat) : Int)) 7 8 ((ne + 1 : Nat) : Int)) 7 10 ((la + 1 : Nat) : Int) 7 10 = ((la + 1 : Nat) : Int) := by rw [fa_st_eq]
  generalize fa_st (fa_st (fa_st w 7 9 ((th + 1 : Nat) : Int)) 7 8 ((ne + 1 : Nat) : Int)) 7 10 ((la + 1 : Nat) : Int) = w3 at r3 nn3 v8 v9 v10 ⊢
  clear e10 e10' e8 r1 cc
  have o3 : px_fo w w3 := fun o k q => nn3 o k (by omega)
  refine pb_bindm (px_adv_r r3 (by rw [z0.2.2]; omega)) (fun w4 q => ?_)
  obtain ⟨r4, k4⟩ := q
  rw [z0.2.2] at r4
  have q1n : ps_sk c n (ps_sk c n p + 1) ≤ n := (ps_sk_p hx _ (by omega)).2.1
  refine pb_bindm (px_nameV_R (v := 6 + la) r4 q1n (by rw [k4 21 1 (by omega), nn3 21 1 (by omega)]; exact h10.2.2.2.2.2.2.1) (by omega)) (fun w5 q => ?_)
  dsimp only [ps_nm] at hne ⊢
  have o4 := px_fo_tr o3 (px_k_fo k4)
  rcases q with ⟨g1, r5, n5, k5⟩ | ⟨g1, d5, f5⟩
  rotate_left
  · rw [if_neg g1]
    exact T1 _ _ d5 (px_fo_tr o4 f5)
  rw [if_pos g1] at hne ⊢
  have n5 := n5 (by omega)
  have z1 := ps_name hx g1
  have q2n := (ps_sk_p hx _ z1.2.2.2).2.1
  have o5 : px_fo w w5 := fun o k q => (k5 o k (by omega) (by omega)).trans (o4 o k q)
  refine pb_bindm (px_expect_R (k := 46) r5 q2n (by decide) (by decide)) (fun w6 q => ?_)
  dsimp only [ps_ex] at hne ⊢
  rcases q with ⟨g2, r6, k6⟩ | ⟨g2, d6, f6⟩
  rotate_left
  · rw [if_neg g2]
    have d := px_sadd_D d6 ((6 + la : Nat) : Int)
    exact T2 _ _ (px_D_7 d.1 (by decide)) (px_fo_st (px_fo_tr (px_fo_tr o5 f6) d.2) (by decide))
  rw [if_pos g2] at hne ⊢
  have si1 := ps_lam_si hx hs hk c1 c2 g1 g2
  have kk : ∀ o k, ¬ (o = 7 ∧ 3 ≤ k ∧ k ≤ 10) → ¬ (o = 22 ∧ k = 6 + la) → w6 o k = w o k := fun o k a b => (k6 o k (by omega)).trans ((k5 o k (by omega) b).trans ((k4 o k (by omega)).trans (nn3 o k (by omega))))
  have kv : ∀ k, 8 ≤ k → w6 7 k = w3 7 k := fun k a => (k6 7 k (by omega)).trans ((k5 7 k (by omega) (by omega)).trans (k4 7 k (by omega)))
  have sa := px_ad1 (r := 35) (v := ((6 + la : Nat) : Int)) (w := w6) rfl ((kk 35 1 (by omega) (by omega)).trans h12) (by show sc.length < 21; omega)
  have m22 : w6 22 (6 + la) = ((ps_tv c n (ps_sk c n (ps_sk c n p + 1)) : Nat) : Int) := (k6 22 _ (by omega)).trans n5
  have S7 : px_S c n (gl, (6 + la, ps_tv c n (ps_sk c n (ps_sk c n p + 1))) :: sc, ((6 + la : Nat) : Int), ne + 1) (ps_te c n (ps_sk c n (ps_te c n (ps_sk c n (ps_sk c n p + 1)))), th + 1, la + 1, ins, lt, si, nd) (fa_st (fr_add 35 ((6 + la : Nat) : Int) w6) 7 12 ((6 + la : Nat) : Int)) := by
    have nn : ∀ o k, ¬ (o = 7 ∧ k = 12) → ¬ (o = 35 ∧ k = 1) → ¬ (o = 36 ∧ k = sc.length) → fa_st (fr_add 35 ((6 + la : Nat) : Int) w6) 7 12 ((6 + la : Nat) : Int) o k = w6 o k := fun o k a b d => (fa_st_ne a).trans (sa.2.2 o k b d)
    obtain ⟨z1', z2, z3, z4, z5, z6, z7, z8, z9⟩ := h10
    obtain ⟨t1, t2, t3, t4⟩ := r6.2.1
    have xi0 : px_xi ins (6 + la) = 6 + la := by unfold px_xi; rw [if_pos (by omega)]
    refine ⟨px_tx_of r6.1 (nn 1 1 (by omega) (by omega) (by omega)) (fun k => nn 2 k (by omega) (by omega) (by omega)), ⟨by rw [nn 7 3 (by omega) (by omega) (by omega)]; exact t1, by rw [nn 7 4 (by omega) (by omega) (by omega)]; exact t2, by rw [nn 7 5 (by omega) (by omega) (by omega)]; exact t3, by rw [nn 7 6 (by omega) (by omega) (by omega)]; exact t4⟩, ?_, ?_, ?_, ?_, ?_, ?_, ?_, ⟨?_, ?_, ?_, ?_, ?_, ?_, ?_, ?_, ?_⟩, px_gl_of h11 ((nn 8 13 (by omega) (by omega) (by omega)).trans (kk 8 13 (by omega) (by omega))) ((nn 25 1 (by omega) (by omega) (by omega)).trans (kk 25 1 (by omega) (by omega))) (fun k => (nn 26 k (by omega) (by omega) (by omega)).trans (kk 26 k (by omega) (by omega))), ?_, ⟨?_, ?_, ?_, ?_⟩, by omega⟩
    · rw [nn 7 7 (by omega) (by omega) (by omega)]; exact r6.2.2.1
    · rw [nn 7 8 (by omega) (by omega) (by omega), kv 8 (by omega)]; exact v8
    · rw [nn 7 9 (by omega) (by omega) (by omega), kv 9 (by omega)]; exact v9
    · rw [nn 7 10 (by omega) (by omega) (by omega), kv 10 (by omega)]; exact v10
    · rw [nn 7 11 (by omega) (by omega) (by omega), kv 11 (by omega), nn3 7 11 (by omega)]; exact h7
    · rw [fa_st_eq]
    · rw [nn 8 15 (by omega) (by omega) (by omega), kk 8 15 (by omega) (by omega)]; exact h9
    · rw [nn 9 1 (by omega) (by omega) (by omega), kk 9 1 (by omega) (by omega)]; exact z1'
    · rw [nn 11 1 (by omega) (by omega) (by omega), kk 11 1 (by omega) (by omega)]; exact z2
    · rw [nn 13 1 (by omega) (by omega) (by omega), kk 13 1 (by omega) (by omega)]; exact z3
    · rw [nn 15 1 (by omega) (by omega) (by omega), kk 15 1 (by omega) (by omega)]; exact z4
    · rw [nn 17 1 (by omega) (by omega) (by omega), kk 17 1 (by omega) (by omega)]; exact z5
    · rw [nn 19 1 (by omega) (by omega) (by omega), kk 19 1 (by omega) (by omega)]; exact z6
    · rw [nn 21 1 (by omega) (by omega) (by omega), kk 21 1 (by omega) (by omega)]; exact z7
    · rw [nn 23 1 (by omega) (by omega) (by omega), kk 23 1 (by omega) (by omega)]; exact z8
    · rw [nn 27 1 (by omega) (by omega) (by omega), kk 27 1 (by omega) (by omega)]; exact z9
    · rw [fa_st_ne (by omega), sa.1, List.length_cons]
    · dsimp only; rw [xi0, fa_st_ne (by omega)]; exact sa.2.1
    · dsimp only; rw [xi0]; omega
    · dsimp only; rw [xi0, nn 22 _ (by omega) (by omega) (by omega)]; exact m22
    · refine px_sc_of sc (fun k hk => ?_) (fun b hb => ⟨rfl, ?_⟩) h13
      · rw [nn 36 k (by omega) (by omega) (by omega), kk 36 k (by omega) (by omega)]
      · have hb := px_lbx s1 s2 (s3 b hb) (6 + la) (Or.inl ⟨rfl, by omega⟩)
        rw [nn 22 _ (by omega) (by omega) (by omega), kk 22 _ (by omega) (by omega)]
  have f7 : px_fr la lt si nd sc.length w (fa_st (fr_add 35 ((6 + la : Nat) : Int) w6) 7 12 ((6 + la : Nat) : Int)) := by
    have nn : ∀ o k, ¬ (o = 7) → ¬ (o = 35 ∧ k = 1) → ¬ (o = 36 ∧ k = sc.length) → ¬ (o = 22 ∧ k = 6 + la) → fa_st (fr_add 35 ((6 + la : Nat) : Int) w6) 7 12 ((6 + la : Nat) : Int) o k = w o k := fun o k a b d e => (fa_st_ne (by omega)).trans ((sa.2.2 o k b d).trans (kk o k (by omega) e))
    refine ⟨fun o k q => nn o k (by omega) (by omega) (by omega) (by omega), fun k q => nn 8 k (by omega) (by omega) (by omega) (by omega), fun o k q r => nn o k (by omega) (by omega) (by omega) (by omega), fun k r => nn 18 k (by omega) (by omega) (by omega) (by omega), fun k r => nn 20 k (by omega) (by omega) (by omega) (by omega), fun o k q r => nn o k (by omega) (by omega) (by omega) ?_, fun k r => nn 28 k (by omega) (by omega) (by omega) (by omega), fun k => nn 26 k (by omega) (by omega) (by omega) (by omega), fun k r => nn 36 k (by omega) (by omega) (by omega) (by omega)⟩
    unfold pk_lb at r
    omega
  have m7 : fa_st (fr_add 35 ((6 + la : Nat) : Int) w6) 7 12 ((6 + la : Nat) : Int) 22 (6 + la) = ((ps_tv c n (ps_sk c n (ps_sk c n p + 1)) : Nat) : Int) := by
    rw [fa_st_ne (by omega), sa.2.2 22 _ (by omega) (by omega)]; exact m22
  generalize fa_st (fr_add 35 ((6 + la : Nat) : Int) w6) 7 12 ((6 + la : Nat) : Int) = w7 at S7 f7 m7 ⊢
  clear sa kk kv m22 n5 k6 r6 k5 r5 k4 r4 nn3 v8 v9 v10 r3 o3 o4 o5
  generalize ps_te c n (ps_sk c n (ps_te c n (ps_sk c n (ps_sk c n p + 1)))) = P at S7 si1 hne ⊢
  generalize ps_tv c n (ps_sk c n (ps_sk c n p + 1)) = X at S7 si1 hne m7 ⊢
  have hne' : rs (gl, (6 + la, X) :: sc, ((6 + la : Nat) : Int), ne + 1) (P, th + 1, la + 1, ins, lt, si, nd) ≠ none := by
    intro r
    rw [r] at hne
    exact hne rfl
  refine pb_bdm (hr _ _ _ si1 S7 hne') (fun v8 w8 g => ?_)
  cases hq : rs (gl, (6 + la, X) :: sc, ((6 + la : Nat) : Int), ne + 1) (P, th + 1, la + 1, ins, lt, si, nd) with
  | none => exact absurd hq hne'
  | some r =>
  rw [hq] at g
  cases r with
  | error z => exact T3 z v8 w8 g.1 (px_fo_tr f7.1 g.2)
  | ok y =>
  obtain ⟨t, S2⟩ := y
  have o1 := hp _ _ _ _ si1 hq
  have j1 := ps_PO_SI si1 o1
  obtain ⟨p2, th2, la2, ins2, lt2, si2, nd2⟩ := S2
  obtain ⟨b1, b2, b3, b4, b5, b6⟩ := ps_PO_x o1
  obtain ⟨y1, y2, y3, y4⟩ := g
  dsimp only at y1 y2 y3 y4
  obtain ⟨m1, m2, m3, m4, m5, m6, m7', m8, m9⟩ := ps_SI_z j1
  have nd99 : nd2 < 100 := by
    have t1 := o1.2.2.1
    omega
  have ge2 : la + 1 ≤ la2 ∧ ins.length ≤ ins2.length ∧ si ≤ si2 ∧ nd ≤ nd2 := b5
  have szp := pt_sz_pos t
  obtain ⟨g1, g2, g3, g4, g5, g6, g7, g8, g9, g10, g11, g12, g13, g14⟩ := id y2
  have lex : lt ≤ lt2 := o1.2.2.2.2.2.2.1
  have ixx : pk_inx ins lt ins2 lt2 := o1.2.2.2.2.2.2.2.2.2.2.2.2.1
  -- the scope is left
  rw [List.length_cons] at g12
  have dr : fr_drop 35 (fa_st w8 7 12 ow) = (w8 36 sc.length, fa_st (fa_st w8 7 12 ow) 35 1 (sc.length : Int)) := by
    rw [pb_drop (r := 35) (n := sc.length) (by rw [fa_st_ne (by decide)]; exact g12) (by show sc.length + 1 ≤ 21; omega), show fa_rf 35 0 = 36 from rfl, fa_st_ne (by omega)]
  rw [dr]
  dsimp only [fa_l2]
  have e8 : fa_st (fa_st w8 7 12 ow) 35 1 (sc.length : Int) 7 8 - 1 = (ne : Int) := by
    rw [fa_st_ne (by decide), fa_st_ne (by decide), g4]; omega
  rw [e8]
  have nn : ∀ o k, ¬ (o = 7 ∧ (k = 12 ∨ k = 8)) → ¬ (o = 35 ∧ k = 1) → fa_st (fa_st (fa_st w8 7 12 ow) 35 1 (sc.length : Int)) 7 8 (ne : Int) o k = w8 o k := fun o k q r => by
    rw [fa_st_ne (by omega), fa_st_ne (by omega), fa_st_ne (by omega)]
  have x12 : fa_st (fa_st (fa_st w8 7 12 ow) 35 1 (sc.length : Int)) 7 8 (ne : Int) 7 12 = ow := by rw [fa_st_ne (by decide), fa_st_ne (by decide), fa_st_eq]
  have x8 : fa_st (fa_st (fa_st w8 7 12 ow) 35 1 (sc.length : Int)) 7 8 (ne : Int) 7 8 = (ne : Int) := by rw [fa_st_eq]
  have x35 : fa_st (fa_st (fa_st w8 7 12 ow) 35 1 (sc.length : Int)) 7 8 (ne : Int) 35 1 = (sc.length : Int) := by rw [fa_st_ne (by decide), fa_st_eq]
  generalize fa_st (fa_st (fa_st w8 7 12 ow) 35 1 (sc.length : Int)) 7 8 (ne : Int) = w9 at nn x12 x8 x35 ⊢
  have S9 : px_S c n (gl, sc, ow, ne) (p2, th2, la2, ins2, lt2, si2, nd2) w9 := by
    obtain ⟨z1', z2, z3, z4, z5, z6, z7, z8, z9⟩ := g10
    obtain ⟨t1, t2, t3, t4⟩ := g2
    refine ⟨px_tx_of g1 (nn 1 1 (by omega) (by omega)) (fun k => nn 2 k (by omega) (by omega)), ⟨by rw [nn 7 3 (by omega) (by omega)]; exact t1, by rw [nn 7 4 (by omega) (by omega)]; exact t2, by rw [nn 7 5 (by omega) (by omega)]; exact t3, by rw [nn 7 6 (by omega) (by omega)]; exact t4⟩, by rw [nn 7 7 (by omega) (by omega)]; exact g3, x8, by rw [nn 7 9 (by omega) (by omega)]; exact g5, by rw [nn 7 10 (by omega) (by omega)]; exact g6, by rw [nn 7 11 (by omega) (by omega)]; exact g7, x12, by rw [nn 8 15 (by omega) (by omega)]; exact g9, ⟨?_, ?_, ?_, ?_, ?_, ?_, ?_, ?_, ?_⟩, px_gl_of g11 (nn 8 13 (by omega) (by omega)) (nn 25 1 (by omega) (by omega)) (fun k => nn 26 k (by omega) (by omega)), x35, px_sc_of sc (fun k _ => nn 36 k (by omega) (by omega)) (fun b _ => ⟨rfl, nn 22 _ (by omega) (by omega)⟩) g13.2.2.2, h14⟩
    all_goals (rw [nn _ 1 (by omega) (by omega)]; assumption)
  have f9 : px_fr (la + 1) lt si nd sc.length w8 w9 := ⟨fun o k q => nn o k (by omega) (by omega), fun k q => nn 8 k (by omega) (by omega), fun o k q r => nn o k (by omega) (by omega), fun k r => nn 18 k (by omega) (by omega), fun k r => nn 20 k (by omega) (by omega), fun o k q r => nn o k (by omega) (by omega), fun k r => nn 28 k (by omega) (by omega), fun k => nn 26 k (by omega) (by omega), fun k r => nn 36 k (by omega) (by omega)⟩
  have rt := px_H_root b2 y3
  rw [b6] at rt
  obtain ⟨w10, a1, a2, a3, a4, a5, a6, a7⟩ := px_fin (K := 5) (v := 6 + la) (st := nd) (a := v8) (b := -1) (d := -1) S9 nd99 (Or.inr ⟨nd2 - 1, y1, by omega, by rw [nn 16 _ (by omega) (by omega)]; exact rt⟩) (by decide) (by omega) (by omega) (by omega)
  rw [show (5 : Int) = ((5 : Nat) : Int) from rfl, a1]
  have ht : px_ht 8 (6 + la) lt2 (la + 1, ins.length, si, nd) (la2, ins2.length, si2, nd2) w8 w10 := by
    have u1 := px_un_ht (lt := lt2) (V := 6 + la) (k := (la + 1, ins.length, si, nd)) (k' := (la2, ins2.length, si2, nd2)) a7 (Nat.le_refl _) (by omega) (fun _ => rfl) (fun _ => Or.inl (by dsimp only; omega))
    exact ⟨fun i j q r s => (u1.1 i j q r s).trans (nn i j (by omega) (by omega)), fun j r s => (u1.2.1 j r s).trans (nn 18 j (by omega) (by omega)), fun j r s => (u1.2.2.1 j r s).trans (nn 20 j (by omega) (by omega)), fun i j q r s => (u1.2.2.2.1 i j q r s).trans (nn i j (by omega) (by omega)), fun j r s => (u1.2.2.2.2.1 j r s).trans (nn 28 j (by omega) (by omega)), fun j => (u1.2.2.2.2.2 j).trans (nn 26 j (by omega) (by omega))⟩
  have lbn : ¬ pk_lb (6 + la) la lt := by unfold pk_lb; omega
  refine pb_some ⟨rfl, a3, ?_, px_fr_tr (px_fr_tr f7 (px_fr_tr (px_fr_tr (px_fr_refl (la + 1) lt si nd sc.length w7) y4 (pk_ge_refl _) (by rw [List.length_cons]; exact Nat.le_succ _)) f9 (pk_ge_refl _) (Nat.le_refl _)) ⟨Nat.le_succ _, Nat.le_refl _, Nat.le_refl _, Nat.le_refl _⟩ (Nat.le_refl _)) (px_un_fr a7 ge2.2.2.2 (by omega) (fun _ => lbn) (fun _ => Nat.le_refl _)) (pk_ge_refl _) (Nat.le_refl _)⟩
  have H := px_H_tr t b2 gl ((6 + la, X) :: sc) ((6 + la : Nat) : Int) (la + 1, ins.length, si, nd) (la2, ins2.length, si2, nd2) 8 lt2 ins2 [] w8 w10 (6 + la) (fun j q r => by dsimp only at q; omega) (fun j q r => by
    dsimp only at r
    have e : ins2.getD j 0 ∈ ins2 := by
      rw [List.getD_eq_getElem?_getD, List.getElem?_eq_getElem r]
      exact List.getElem_mem _
    have := m2 _ e
    omega) b4 b3 (ps_SI_z si1).2.2.1 ⟨m1, Nat.le_refl _⟩ m2 ht y3
  rw [List.append_nil] at H
  refine ⟨H, ?_, ?_, ?_, ?_⟩
  · rw [b6]
    rw [y1] at a2
    exact a2
  · show w10 22 (6 + la) = (X : Int)
    rw [a7 22 _ (by unfold px_un; omega), nn 22 _ (by omega) (by omega), y4.2.2.2.2.2.1 22 _ (Or.inl rfl) (Or.inl (by omega))]
    exact m7
  · rw [b6]; exact a5 (Or.inr rfl)
  · rw [b6]
    exact (a6 rfl).trans y1
