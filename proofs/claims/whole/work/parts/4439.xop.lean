/-- an operator's THING, as px_R has it -/
theorem px_op_R {c : Nat → Int} {n : Nat} {gl : List Nat} {sc : List (Nat × Nat)} {ow : Int} {ne p th la lt si nd p1 th1 la1 lt1 si1 nd1 p2 th2 la2 lt2 si2 nd2 q o : Nat} {ins ins1 ins2 : List Nat} {a b : pt_T} {v1 v2 : Int} {w w1 w2 w3 : fa_W} (hs : ps_SI n (gl, sc, ow, ne) (p, th, la, ins, lt, si, nd)) (o1 : ps_PO n (gl, sc, ow, ne) (p, th, la, ins, lt, si, nd) a (p1, th1, la1, ins1, lt1, si1, nd1)) (g1 : px_R c n (gl, sc, ow, ne) (p, th, la, ins, lt, si, nd) w (ps_re a (p1, th1, la1, ins1, lt1, si1, nd1)) (v1, w1)) (f : px_fr la1 lt1 si1 nd1 sc.length w1 w2) (i2 : ps_SI n (gl, sc, ow, ne) (q, th1 + 1, la1, ins1, lt1, si1, nd1)) (o2 : ps_PO n (gl, sc, ow, ne) (q, th1 + 1, la1, ins1, lt1, si1, nd1) b (p2, th2, la2, ins2, lt2, si2, nd2)) (g2 : px_R c n (gl, sc, ow, ne) (q, th1 + 1, la1, ins1, lt1, si1, nd1) w2 (ps_re b (p2, th2, la2, ins2, lt2, si2, nd2)) (v2, w3)) : ∃ w', fm_Program_add 8 8 (o : Int) (w3 7 12) v1 v2 (-1) w3 = ((nd2 : Int), w') ∧ px_R c n (gl, sc, ow, ne) (p, th, la, ins, lt, si, nd) w (ps_re (pt_op o a b) (p2, th2, la2, ins2, lt2, si2, nd2 + 1)) ((nd2 : Int), w') := by
  obtain ⟨b1, b2, b3, b4, b5, b6⟩ := ps_PO_x o1
  obtain ⟨d1, d2, d3, d4, d5, d6⟩ := ps_PO_x o2
  obtain ⟨c1, _, c3', c4'⟩ := ps_PO_w o1
  obtain ⟨e1, ⟨l2, el2⟩, e3', e4'⟩ := ps_PO_w o2
  have j1 := ps_SI_z (ps_PO_SI hs o1)
  have j2 := ps_SI_z (ps_PO_SI i2 o2)
  have lb0 := (ps_SI_z hs).2.2.1
  obtain ⟨y1, y2, y3, y4⟩ := g1
  obtain ⟨x1, x2, x3, x4⟩ := g2
  dsimp only at y1 y2 y3 y4 x1 x2 x3 x4
  have sza := pt_sz_pos a
  have szb := pt_sz_pos b
  have nd99 : nd2 < 100 := by
    have := j1.2.2.2.2.1
    have := j2.2.2.2.2.2.2.2.1
    omega
  have n12 : nd1 ≤ nd2 := by omega
  have ra := px_H_root b2 y3
  rw [b6] at ra
  have fA := px_fr_tr f x4 (pk_ge_refl _) (Nat.le_refl _)
  have ra2 : w3 16 (nd1 - 1) = (nd : Int) := (fA.2.2.1 16 _ (by omega) (by omega)).trans ra
  obtain ⟨w', a1, a2, a3, a4, a5, a6, a7⟩ := px_fin (K := 8) (v := o) (st := nd) (a := v1) (b := v2) (d := -1) x2 nd99 (Or.inr ⟨nd1 - 1, y1, by omega, ra2⟩) (by decide) (by omega) (by omega) (by omega)
  have gf : ∀ la lt si nd, nd ≤ nd2 → px_fr la lt si nd sc.length w3 w' := fun la lt si nd q => px_un_fr a7 q (by omega) (by omega) (by omega)
  have fB := px_fr_tr fA (gf la2 lt2 si2 nd2 (Nat.le_refl _)) e1 (Nat.le_refl _)
  refine ⟨w', a1, rfl, a3, ?_, px_fr_tr y4 fB c1 (Nat.le_refl _)⟩
  have HA := px_H_fr b2 l2 b4 b3 lb0 ⟨j1.1, Nat.le_refl _⟩ j1.2.1 fB y3
  have HB := px_H_fr d2 [] d4 d3 (pk_lbs lb0 b5) ⟨j2.1, Nat.le_refl _⟩ j2.2.1 (gf la2 lt2 si2 nd2 (Nat.le_refl _)) x3
  rw [List.append_nil] at HB
  rw [← el2] at HA
  refine ⟨HA, ?_, ?_⟩
  · rw [b6]; exact HB
  · rw [b6, d6]
    rw [y1, x1] at a2
    exact a2
/-- the THING of a call, as px_R has it -/
theorem px_site_R {c : Nat → Int} {n : Nat} {gl : List Nat} {sc : List (Nat × Nat)} {ow : Int} {ne p th la lt si nd p1 th1 la1 lt1 si1 nd1 p2 th2 la2 lt2 si2 nd2 q : Nat} {ins ins1 ins2 : List Nat} {a b : pt_T} {v1 v2 : Int} {w w1 w2 w3 : fa_W} (hs : ps_SI n (gl, sc, ow, ne) (p, th, la, ins, lt, si, nd)) (o1 : ps_PO n (gl, sc, ow, ne) (p, th, la, ins, lt, si, nd) a (p1, th1, la1, ins1, lt1, si1, nd1)) (g1 : px_R c n (gl, sc, ow, ne) (p, th, la, ins, lt, si, nd) w (ps_re a (p1, th1, la1, ins1, lt1, si1, nd1)) (v1, w1)) (f : px_fr la1 lt1 si1 nd1 sc.length w1 w2) (i2 : ps_SI n (gl, sc, ow, ne) (q, th1 + 1, la1, ins1, lt1, si1 + 1, nd1)) (o2 : ps_PO n (gl, sc, ow, ne) (q, th1 + 1, la1, ins1, lt1, si1 + 1, nd1) b (p2, th2, la2, ins2, lt2, si2, nd2)) (g2 : px_R c n (gl, sc, ow, ne) (q, th1 + 1, la1, ins1, lt1, si1 + 1, nd1) w2 (ps_re b (p2, th2, la2, ins2, lt2, si2, nd2)) (v2, w3)) : ∃ w', fm_Program_add 8 9 (si1 : Int) (w3 7 12) v1 v2 (-1) w3 = ((nd2 : Int), w') ∧ px_R c n (gl, sc, ow, ne) (p, th, la, ins, lt, si, nd) w (ps_re (pt_site si1 a b) (p2, th2, la2, ins2, lt2, si2, nd2 + 1)) ((nd2 : Int), w') := by
  obtain ⟨b1, b2, b3, b4, b5, b6⟩ := ps_PO_x o1
  obtain ⟨d1, d2, d3, d4, d5, d6⟩ := ps_PO_x o2
  obtain ⟨c1, _, c3', c4'⟩ := ps_PO_w o1
  obtain ⟨e1, ⟨l2, el2⟩, e3', e4'⟩ := ps_PO_w o2
  have j1 := ps_SI_z (ps_PO_SI hs o1)
  have j2 := ps_SI_z (ps_PO_SI i2 o2)
  have lb0 := (ps_SI_z hs).2.2.1
  obtain ⟨y1, y2, y3, y4⟩ := g1
  obtain ⟨x1, x2, x3, x4⟩ := g2
  dsimp only at y1 y2 y3 y4 x1 x2 x3 x4
  have sza := pt_sz_pos a
  have szb := pt_sz_pos b
  have nd99 : nd2 < 100 := by
    have := j1.2.2.2.2.1
    have := j2.2.2.2.2.2.2.2.1
    omega
  have si99 : si1 < 100 := by
    have := j1.2.2.2.2.2.1
    have := (ps_SI_z i2).2.2.2.2.2.2.2.1
    omega
  have n12 : nd1 ≤ nd2 := by omega
  have ra := px_H_root b2 y3
  rw [b6] at ra
  have x4' : px_fr la1 lt1 si1 nd1 sc.length w2 w3 := px_fr_tr (px_fr_refl _ _ _ _ _ _) x4 ⟨Nat.le_refl _, Nat.le_refl _, Nat.le_succ _, Nat.le_refl _⟩ (Nat.le_refl _)
  have fA := px_fr_tr f x4' (pk_ge_refl _) (Nat.le_refl _)
  have ra2 : w3 16 (nd1 - 1) = (nd : Int) := (fA.2.2.1 16 _ (by omega) (by omega)).trans ra
  obtain ⟨w', a1, a2, a3, a4, a5, a6, a7⟩ := px_fin (K := 9) (v := si1) (st := nd) (a := v1) (b := v2) (d := -1) x2 nd99 (Or.inr ⟨nd1 - 1, y1, by omega, ra2⟩) (by decide) (fun _ => si99) (by omega) (by omega)
  have fB := px_fr_tr fA (px_un_fr a7 n12 (fun _ => Nat.le_refl _) (by omega) (by omega)) (pk_ge_refl (la1, lt1, si1, nd1)) (Nat.le_refl _)
  have s12 : si1 + 1 ≤ si2 := e1.2.2.1
  refine ⟨w', a1, rfl, a3, ?_, px_fr_tr y4 fB c1 (Nat.le_refl _)⟩
  have HA := px_H_fr b2 l2 b4 b3 lb0 ⟨j1.1, Nat.le_refl _⟩ j1.2.1 fB y3
  have HB := px_H_tr b d2 gl sc ow (la1, ins1.length, si1 + 1, nd1) (la2, ins2.length, si2, nd2) 8 lt2 ins2 [] w3 w' 1000 (fun j x y => by have := j2.1; dsimp only at y; omega) (fun j x y => by
    dsimp only at y
    have h : ins2.getD j 0 ∈ ins2 := by
      rw [List.getD_eq_getElem?_getD, List.getElem?_eq_getElem y]
      exact List.getElem_mem _
    have := j2.2.1 _ h
    have := j2.2.2.2.2.2.2.1
    have := j2.2.2.2.2.2.2.2.1
    omega) d4 d3 (pk_lbs lb0 b5) ⟨j2.1, Nat.le_refl _⟩ j2.2.1 (px_un_ht a7 (Nat.le_refl _) (fun _ => Or.inl (Nat.lt_succ_self _)) (by omega) (by omega)) x3
  rw [List.append_nil] at HB
  rw [← el2] at HA
  refine ⟨HA, ?_, ?_, ?_⟩
  · rw [b6]; exact HB
  · rw [b6, d6]
    rw [y1, x1] at a2
    exact a2
  · rw [b6, d6]
    exact a4 rfl
/-- an operator begins -/
theorem px_startop {c : Nat → Int} {n : Nat} {gl : List Nat} {sc : List (Nat × Nat)} {ow : Int} {ne p th la lt si nd : Nat} {ins : List Nat} {w : fa_W} (hx : ps_TX c n) (hn : n ≤ 400) (hs : ps_SI n (gl, sc, ow, ne) (p, th, la, ins, lt, si, nd)) (hS : px_S c n (gl, sc, ow, ne) (p, th, la, ins, lt, si, nd) w) (hte : ps_te c n (ps_sk c n p) ≤ n) : pb_ok (fm_Reader_startOperator w) (fun w' => (th = 100 ∧ px_D (ps_sk c n p) w' ∧ px_fo w w') ∨ (th ≠ 100 ∧ px_S c n (gl, sc, ow, ne) (ps_te c n (ps_sk c n p), th + 1, la, ins, lt, si, nd) w' ∧ px_fr la lt si nd sc.length w w')) := by
  have hrr := px_S_r hs hS
  dsimp only at hrr
  have zz := (ps_sk_p hx p hs.1).2.1
  have t100 := (ps_SI_z hs).2.2.2.2.2.2.2.1
  unfold fm_Reader_startOperator
  dsimp only [fa_let]
  have h5 : w 7 9 = (th : Int) := hS.2.2.2.2.1
  by_cases c2 : th = 100
  · rw [px_count_bad (w := w) (by rw [h5, c2])]
    have fr := px_fail_r (px_r_7 (k := 9) (v := 101) hrr (by decide)) zz
    have fo := px_fo_tr (px_fo_st (px_fo_refl w) (o := 7) (k := 9) (v := 101) (by decide)) fr.2.1
    rw [px_adv_D fr.2.2 (by omega)]
    exact pb_some (Or.inl ⟨c2, fr.1, fo⟩)
  rw [px_count_ok h5 (by omega)]
  have r1 := px_r_7 (k := 9) (v := ((th + 1 : Nat) : Int)) hrr (by decide)
  have S1 : px_S c n (gl, sc, ow, ne) (p, th + 1, la, ins, lt, si, nd) (fa_st w 7 9 ((th + 1 : Nat) : Int)) := by
    obtain ⟨h1, h2, h3, h4, h5, h6, h7, h8, h9, h10, h11, h12, h13, h14⟩ := id hS
    have nn : ∀ o k, ¬ (o = 7 ∧ k = 9) → fa_st w 7 9 ((th + 1 : Nat) : Int) o k = w o k := fun o k q => fa_st_ne q
    refine px_S_7 hS (fun o k a b => nn o k (by omega)) r1.2.1 ?_ ?_ (fa_st_eq _ _ _ _) ?_ ?_ ?_ ?_ h14
    · rw [nn 7 7 (by omega)]; exact h3
    · rw [nn 7 8 (by omega)]; exact h4
    · rw [nn 7 10 (by omega)]; exact h6
    · rw [nn 7 11 (by omega)]; exact h7
    · rw [nn 7 12 (by omega)]; exact h8
    · rw [nn 8 15 (by omega)]; exact h9
  have f1 : px_fr la lt si nd sc.length w (fa_st w 7 9 ((th + 1 : Nat) : Int)) := px_fr_7 (px_fr_refl _ _ _ _ _ _)
  generalize fa_st w 7 9 ((th + 1 : Nat) : Int) = w5 at S1 f1 r1 ⊢
  refine pb_bindm (px_adv_r r1 hte) (fun w7 q => ?_)
  obtain ⟨r7, k7⟩ := q
  exact pb_some (Or.inr ⟨c2, px_S_k S1 k7 r7.2.1, px_fr_tr f1 (px_k_fr (sl := sc.length) k7) (pk_ge_refl _) (Nat.le_refl _)⟩)
theorem px_tst_R {c : Nat → Int} {n : Nat} {rs : ps_E → ps_S → ps_R} {rm : fa_W → Option (Int × fa_W)} (hx : ps_TX c n) (hn : n ≤ 400) (hp : ps_RC n rs) (hr : px_RC c n rs rm) (hD : px_DF rm) {e : ps_E} {s : ps_S} {w : fa_W} (hs : ps_SI n e s) (hS : px_S c n e s w) (hne : ps_tst c n rs e s ≠ none) : pb_ok (fm_Reader_test_b rm w) (px_R c n e s w (ps_tst c n rs e s)) := by
  unfold ps_tst at hne ⊢
  unfold fm_Reader_test_b
  have n1 : rs e s ≠ none := by
    intro r
    rw [r] at hne
    exact hne rfl
  refine pb_bdm (hr _ _ _ hs hS n1) (fun v1 w1 g => ?_)
  cases hq : rs e s with
  | none => exact absurd hq n1
  | some r =>
  rw [hq] at g hne
  obtain ⟨gl, sc, ow, ne⟩ := e
  obtain ⟨p, th, la, ins, lt, si, nd⟩ := s
  cases r with
  | error z =>
    have g2 : px_D z w1 ∧ px_fo w w1 := g
    have e3 : fa_wr (w1 7 4) = 3 := by rw [g2.1.2.1]; exact fa_wr_id (by omega) (by omega)
    rw [e3, if_neg (by decide)]
    exact pb_some g
  | ok y =>
  obtain ⟨a, S1⟩ := y
  have o1 := hp _ _ _ _ hs hq
  have i1 := ps_PO_SI hs o1
  obtain ⟨p1, th1, la1, ins1, lt1, si1, nd1⟩ := S1
  have g0 := g
  obtain ⟨y1, y2, y3, y4⟩ := g
  dsimp only at y1 y2 y3 y4
  dsimp only [ps_bd] at hne ⊢
  rw [show w1 7 4 = ((ps_tk c n (ps_sk c n p1) : Nat) : Int) from y2.2.1.2.1, pb_wr ps_tk_lt]
  have z := ps_sk_p hx p1 i1.1
  by_cases k1 : ps_tk c n (ps_sk c n p1) = 60
  · rw [if_pos k1] at hne ⊢
    rw [if_pos (by omega)]
    have zz := ps_sign hx i1.1 (by decide) (by decide) k1
    refine pb_bindm (px_startop hx hn i1 y2 (by rw [zz.2.2]; exact zz.2.1)) (fun w2 q => ?_)
    rcases q with ⟨c2, d2, f2⟩ | ⟨c2, S2, f2⟩
    · rw [if_pos c2]
      refine pb_bdm (hD w2 _ d2) (fun v w4 q => ?_)
      have d3 := px_padd_D q.1 8 60 (w4 7 12) v1 v (-1)
      exact pb_some ⟨d3.1, px_fo_tr (px_fo_tr (px_fo_tr y4.1 f2) q.2) d3.2⟩
    rw [if_neg c2] at hne ⊢
    rw [zz.2.2] at S2
    have i2 : ps_SI n (gl, sc, ow, ne) (ps_sk c n p1 + 1, th1 + 1, la1, ins1, lt1, si1, nd1) := ps_SI_op (d := 0) i1 (q := ps_sk c n p1 + 1) (Nat.le_trans z.1 (Nat.le_succ _)) (Nat.succ_le_of_lt zz.2.1) c2 (by decide)
    have n2 : rs (gl, sc, ow, ne) (ps_sk c n p1 + 1, th1 + 1, la1, ins1, lt1, si1, nd1) ≠ none := by
      intro r
      rw [r] at hne
      exact hne rfl
    refine pb_bdm (hr _ _ _ i2 S2 n2) (fun v2 w4 g => ?_)
    cases hq2 : rs (gl, sc, ow, ne) (ps_sk c n p1 + 1, th1 + 1, la1, ins1, lt1, si1, nd1) with
    | none => exact absurd hq2 n2
    | some r =>
    rw [hq2] at g hne
    cases r with
    | error z2 =>
      have d3 := px_padd_D g.1 8 60 (w4 7 12) v1 v2 (-1)
      exact pb_some ⟨d3.1, px_fo_tr (px_fo_tr (px_fo_tr y4.1 f2.1) g.2) d3.2⟩
    | ok y =>
      obtain ⟨b, S4⟩ := y
      have o2 := hp _ _ _ _ i2 hq2
      obtain ⟨p2, th2, la2, ins2, lt2, si2, nd2⟩ := S4
      obtain ⟨w', fin1, fin2⟩ := px_op_R (o := 60) hs o1 g0 f2 i2 o2 g
      dsimp only
      rw [show (60 : Int) = ((60 : Nat) : Int) from rfl, fin1]
      exact pb_some fin2
  · rw [if_neg k1] at hne ⊢
    rw [if_neg (by omega)]
    exact pb_some g0
