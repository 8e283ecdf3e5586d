theorem px_sum_lD {rm : fa_W → Option (Int × fa_W)} {z : Nat} {w : fa_W} (h : px_D z w) (F : Nat) (x1 x2 : Int) : pb_ok (fm_Reader_sum_l7 rm (F + 1) x1 x2 w) (fun q => px_D z q.2 ∧ px_fo w q.2) := by
  have e3 : fa_wr (w 7 4) = 3 := by rw [h.2.1]; exact fa_wr_id (by omega) (by omega)
  unfold fm_Reader_sum_l7
  rw [e3, if_neg (show ¬ ((3 : Int) = 43) by decide), if_neg (show ¬ ((3 : Int) = 45) by decide), ite_self]
  exact pb_some ⟨h, px_fo_refl w⟩
theorem px_sum_l {c : Nat → Int} {n : Nat} {rs : ps_E → ps_S → ps_R} {rm : fa_W → Option (Int × fa_W)} (hx : ps_TX c n) (hn : n ≤ 400) (hp : ps_RC n rs) (hr : px_RC c n rs rm) (hD : px_DF rm) {e : ps_E} {s : ps_S} {w : fa_W} (hs : ps_SI n e s) : ∀ (f F j : Nat) (a : pt_T) (S1 : ps_S) (v1 : Int) (w1 : fa_W), f < F → j + 1 ≤ S1.2.1 → ps_PO n e s a S1 → px_R c n e s w (ps_re a S1) (v1, w1) → ps_lp c n 43 45 rs e f a S1 ≠ none → pb_ok (fm_Reader_sum_l7 rm F v1 (j : Int) w1) (px_R c n e s w (ps_lp c n 43 45 rs e f a S1)) := by
  intro f
  induction f with
  | zero => intro F j a S1 v1 w1 _ _ _ _ hne; exact absurd rfl hne
  | succ f ih =>
  intro F j a S1 v1 w1 hF hj o1 g hne
  obtain ⟨F, rfl⟩ : ∃ z, F = z + 1 := ⟨F - 1, by omega⟩
  have hF : f < F := by omega
  have i1 := ps_PO_SI hs o1
  unfold ps_lp at hne ⊢
  unfold fm_Reader_sum_l7
  obtain ⟨gl, sc, ow, ne⟩ := e
  obtain ⟨p, th, la, ins, lt, si, nd⟩ := s
  obtain ⟨p1, th1, la1, ins1, lt1, si1, nd1⟩ := S1
  have g0 := g
  obtain ⟨y1, y2, y3, y4⟩ := g
  dsimp only at y1 y2 y3 y4 hj
  have t100 := (ps_SI_z i1).2.2.2.2.2.2.2.1
  rw [pb_wr (show j < 2147483648 by omega), if_neg (by omega)]
  have e4 : w1 7 4 = ((ps_tk c n (ps_sk c n p1) : Nat) : Int) := y2.2.1.2.1
  dsimp only at hne ⊢
  have z := ps_sk_p hx p1 i1.1
  have go : ∀ (o : Nat), (o = 43 ∨ o = 45) → ps_tk c n (ps_sk c n p1) = o → pb_ok (fm_Reader_sum_j31 rm (fun x1 x2 w9 => fm_Reader_sum_l7 rm F x1 x2 w9) v1 (j : Int) w1) (px_R c n (gl, sc, ow, ne) (p, th, la, ins, lt, si, nd) w (if th1 = 100 then ps_er (ps_sk c n p1) else ps_bd (ps_bd (rs (gl, sc, ow, ne) (ps_sk c n p1 + 1, th1 + 1, la1, ins1, lt1, si1, nd1)) fun b s2 => ps_nd (pt_op (ps_tk c n (ps_sk c n p1)) a b) s2) fun t s3 => ps_lp c n 43 45 rs (gl, sc, ow, ne) f t s3)) := by
    intro o ho k1
    rw [if_pos (by omega)] at hne
    have zz := ps_sign hx i1.1 (by omega) (by omega) k1
    unfold fm_Reader_sum_j31
    dsimp only [fa_let]
    rw [e4, k1]
    have tail : ∀ (z2 : Nat) (v2 : Int) (w4 : fa_W), px_D z2 w4 → px_fo w w4 → pb_ok (fa_l2 (fm_Program_add 8 8 ((o : Nat) : Int) (w4 7 12) v1 v2 (-1) w4) fun v13 w14 => fm_Reader_sum_l7 rm F v13 ((j : Int) + 1) w14) (fun q => px_D z2 q.2 ∧ px_fo w q.2) := by
      intro z2 v2 w4 d4 f4
      have d3 := px_padd_D d4 8 ((o : Nat) : Int) (w4 7 12) v1 v2 (-1)
      obtain ⟨F', rfl⟩ : ∃ z, F = z + 1 := ⟨F - 1, by omega⟩
      exact pb_mono (px_sum_lD d3.1 F' _ _) (fun _ q => ⟨q.1, px_fo_tr (px_fo_tr f4 d3.2) q.2⟩)
    refine pb_bindm (px_startop hx hn i1 y2 (by rw [zz.2.2]; exact zz.2.1)) (fun w2 q => ?_)
    rcases q with ⟨c2, d2, f2⟩ | ⟨c2, S2, f2⟩
    · rw [if_pos c2]
      exact pb_bdm (hD w2 _ d2) (fun v w4 q => tail _ v w4 q.1 (px_fo_tr (px_fo_tr y4.1 f2) q.2))
    rw [if_neg c2] at hne ⊢
    rw [zz.2.2] at S2
    have i2 : ps_SI n (gl, sc, ow, ne) (ps_sk c n p1 + 1, th1 + 1, la1, ins1, lt1, si1, nd1) := ps_SI_op (d := 0) i1 (q := ps_sk c n p1 + 1) (Nat.le_trans z.1 (Nat.le_succ _)) (Nat.succ_le_of_lt zz.2.1) c2 (by decide)
    have n2 : rs (gl, sc, ow, ne) (ps_sk c n p1 + 1, th1 + 1, la1, ins1, lt1, si1, nd1) ≠ none := by
      intro r
      rw [r] at hne
      exact hne rfl
    refine pb_bdm (hr _ _ _ i2 S2 n2) (fun v2 w4 g => ?_)
    cases hq2 : rs (gl, sc, ow, ne) (ps_sk c n p1 + 1, th1 + 1, la1, ins1, lt1, si1, nd1) with
    | none => exact absurd hq2 n2
    | some r =>
    rw [hq2] at g hne
    cases r with
    | error z2 => exact tail z2 v2 w4 g.1 (px_fo_tr (px_fo_tr y4.1 f2.1) g.2)
    | ok y =>
      obtain ⟨b, S4⟩ := y
      have o2 := hp _ _ _ _ i2 hq2
      obtain ⟨p2, th2, la2, ins2, lt2, si2, nd2⟩ := S4
      obtain ⟨w', fin1, fin2⟩ := px_op_R (o := o) hs o1 g0 f2 i2 o2 g
      have t2 := (ps_PO_w o2).2.2.2
      rw [fin1]
      have op := ps_PO_op (o := o) (by omega) o1 (Nat.le_trans z.1 (Nat.le_succ _)) o2
      rw [k1] at hne
      exact ih F (j + 1) _ _ _ _ hF (by dsimp only; omega) op fin2 hne
  rw [e4, pb_wr ps_tk_lt]
  by_cases k1 : ps_tk c n (ps_sk c n p1) = 43
  · rw [if_pos (by omega), if_pos (Or.inl k1)]
    exact go 43 (Or.inl rfl) k1
  rw [if_neg (by omega)]
  by_cases k2 : ps_tk c n (ps_sk c n p1) = 45
  · rw [if_pos (by omega), if_pos (Or.inr k2)]
    exact go 45 (Or.inr rfl) k2
  rw [if_neg (by omega), if_neg (by omega)]
  exact pb_some g0
theorem px_sum_R {c : Nat → Int} {n : Nat} {rs : ps_E → ps_S → ps_R} {rm : fa_W → Option (Int × fa_W)} (hx : ps_TX c n) (hn : n ≤ 400) (hp : ps_RC n rs) (hr : px_RC c n rs rm) (hD : px_DF rm) {e : ps_E} {s : ps_S} {w : fa_W} (hs : ps_SI n e s) (hS : px_S c n e s w) (hne : (ps_bd (rs e s) fun a s1 => ps_lp c n 43 45 rs e 200 a s1) ≠ none) : pb_ok (fm_Reader_sum_b rm w) (px_R c n e s w (ps_bd (rs e s) fun a s1 => ps_lp c n 43 45 rs e 200 a s1)) := by
  obtain ⟨FU, hFU, hF2⟩ : ∃ F, fa_FU = F + 1 ∧ 200 < F + 1 := ⟨fa_FU - 1, by unfold fa_FU; omega, by unfold fa_FU; omega⟩
  unfold fm_Reader_sum_b
  rw [hFU]
  have n1 : rs e s ≠ none := by
    intro r
    rw [r] at hne
    exact hne rfl
  refine pb_bdm (hr _ _ _ hs hS n1) (fun v1 w1 g => ?_)
  cases hq : rs e s with
  | none => exact absurd hq n1
  | some r =>
  rw [hq] at g hne
  cases r with
  | error z =>
    obtain ⟨gl, sc, ow, ne⟩ := e
    obtain ⟨p, th, la, ins, lt, si, nd⟩ := s
    have g2 : px_D z w1 ∧ px_fo w w1 := g
    exact pb_mono (px_sum_lD g2.1 FU v1 0) (fun _ q => ⟨q.1, px_fo_tr g2.2 q.2⟩)
  | ok y =>
  obtain ⟨a, S1⟩ := y
  have o1 := hp _ _ _ _ hs hq
  refine px_sum_l hx hn hp hr hD hs 200 (FU + 1) 0 a S1 v1 w1 hF2 ?_ o1 g hne
  obtain ⟨gl, sc, ow, ne⟩ := e
  obtain ⟨p, th, la, ins, lt, si, nd⟩ := s
  obtain ⟨p1, th1, la1, ins1, lt1, si1, nd1⟩ := S1
  have := (ps_PO_w o1).2.2.2
  dsimp only
  omega
theorem px_product_lD {rm : fa_W → Option (Int × fa_W)} {z : Nat} {w : fa_W} (h : px_D z w) (F : Nat) (x1 x2 : Int) : pb_ok (fm_Reader_product_l7 rm (F + 1) x1 x2 w) (fun q => px_D z q.2 ∧ px_fo w q.2) := by
  have e3 : fa_wr (w 7 4) = 3 := by rw [h.2.1]; exact fa_wr_id (by omega) (by omega)
  unfold fm_Reader_product_l7
  rw [e3, if_neg (show ¬ ((3 : Int) = 42) by decide), if_neg (show ¬ ((3 : Int) = 47) by decide), ite_self]
  exact pb_some ⟨h, px_fo_refl w⟩
theorem px_product_l {c : Nat → Int} {n : Nat} {rs : ps_E → ps_S → ps_R} {rm : fa_W → Option (Int × fa_W)} (hx : ps_TX c n) (hn : n ≤ 400) (hp : ps_RC n rs) (hr : px_RC c n rs rm) (hD : px_DF rm) {e : ps_E} {s : ps_S} {w : fa_W} (hs : ps_SI n e s) : ∀ (f F j : Nat) (a : pt_T) (S1 : ps_S) (v1 : Int) (w1 : fa_W), f < F → j + 1 ≤ S1.2.1 → ps_PO n e s a S1 → px_R c n e s w (ps_re a S1) (v1, w1) → ps_lp c n 42 47 rs e f a S1 ≠ none → pb_ok (fm_Reader_product_l7 rm F v1 (j : Int) w1) (px_R c n e s w (ps_lp c n 42 47 rs e f a S1)) := by
  intro f
  induction f with
  | zero => intro F j a S1 v1 w1 _ _ _ _ hne; exact absurd rfl hne
  | succ f ih =>
  intro F j a S1 v1 w1 hF hj o1 g hne
  obtain ⟨F, rfl⟩ : ∃ z, F = z + 1 := ⟨F - 1, by omega⟩
  have hF : f < F := by omega
  have i1 := ps_PO_SI hs o1
  unfold ps_lp at hne ⊢
  unfold fm_Reader_product_l7
  obtain ⟨gl, sc, ow, ne⟩ := e
  obtain ⟨p, th, la, ins, lt, si, nd⟩ := s
  obtain ⟨p1, th1, la1, ins1, lt1, si1, nd1⟩ := S1
  have g0 := g
  obtain ⟨y1, y2, y3, y4⟩ := g
  dsimp only at y1 y2 y3 y4 hj
  have t100 := (ps_SI_z i1).2.2.2.2.2.2.2.1
  rw [pb_wr (show j < 2147483648 by omega), if_neg (by omega)]
  have e4 : w1 7 4 = ((ps_tk c n (ps_sk c n p1) : Nat) : Int) := y2.2.1.2.1
  dsimp only at hne ⊢
  have z := ps_sk_p hx p1 i1.1
  have go : ∀ (o : Nat), (o = 42 ∨ o = 47) → ps_tk c n (ps_sk c n p1) = o → pb_ok (fm_Reader_product_j31 rm (fun x1 x2 w9 => fm_Reader_product_l7 rm F x1 x2 w9) v1 (j : Int) w1) (px_R c n (gl, sc, ow, ne) (p, th, la, ins, lt, si, nd) w (if th1 = 100 then ps_er (ps_sk c n p1) else ps_bd (ps_bd (rs (gl, sc, ow, ne) (ps_sk c n p1 + 1, th1 + 1, la1, ins1, lt1, si1, nd1)) fun b s2 => ps_nd (pt_op (ps_tk c n (ps_sk c n p1)) a b) s2) fun t s3 => ps_lp c n 42 47 rs (gl, sc, ow, ne) f t s3)) := by
    intro o ho k1
    rw [if_pos (by omega)] at hne
    have zz := ps_sign hx i1.1 (by omega) (by omega) k1
    unfold fm_Reader_product_j31
    dsimp only [fa_let]
    rw [e4, k1]
    have tail : ∀ (z2 : Nat) (v2 : Int) (w4 : fa_W), px_D z2 w4 → px_fo w w4 → pb_ok (fa_l2 (fm_Program_add 8 8 ((o : Nat) : Int) (w4 7 12) v1 v2 (-1) w4) fun v13 w14 => fm_Reader_product_l7 rm F v13 ((j : Int) + 1) w14) (fun q => px_D z2 q.2 ∧ px_fo w q.2) := by
      intro z2 v2 w4 d4 f4
      have d3 := px_padd_D d4 8 ((o : Nat) : Int) (w4 7 12) v1 v2 (-1)
      obtain ⟨F', rfl⟩ : ∃ z, F = z + 1 := ⟨F - 1, by omega⟩
      exact pb_mono (px_product_lD d3.1 F' _ _) (fun _ q => ⟨q.1, px_fo_tr (px_fo_tr f4 d3.2) q.2⟩)
    refine pb_bindm (px_startop hx hn i1 y2 (by rw [zz.2.2]; exact zz.2.1)) (fun w2 q => ?_)
    rcases q with ⟨c2, d2, f2⟩ | ⟨c2, S2, f2⟩
    · rw [if_pos c2]
      exact pb_bdm (hD w2 _ d2) (fun v w4 q => tail _ v w4 q.1 (px_fo_tr (px_fo_tr y4.1 f2) q.2))
    rw [if_neg c2] at hne ⊢
    rw [zz.2.2] at S2
    have i2 : ps_SI n (gl, sc, ow, ne) (ps_sk c n p1 + 1, th1 + 1, la1, ins1, lt1, si1, nd1) := ps_SI_op (d := 0) i1 (q := ps_sk c n p1 + 1) (Nat.le_trans z.1 (Nat.le_succ _)) (Nat.succ_le_of_lt zz.2.1) c2 (by decide)
    have n2 : rs (gl, sc, ow, ne) (ps_sk c n p1 + 1, th1 + 1, la1, ins1, lt1, si1, nd1) ≠ none := by
      intro r
      rw [r] at hne
      exact hne rfl
    refine pb_bdm (hr _ _ _ i2 S2 n2) (fun v2 w4 g => ?_)
    cases hq2 : rs (gl, sc, ow, ne) (ps_sk c n p1 + 1, th1 + 1, la1, ins1, lt1, si1, nd1) with
    | none => exact absurd hq2 n2
    | some r =>
    rw [hq2] at g hne
    cases r with
    | error z2 => exact tail z2 v2 w4 g.1 (px_fo_tr (px_fo_tr y4.1 f2.1) g.2)
    | ok y =>
      obtain ⟨b, S4⟩ := y
      have o2 := hp _ _ _ _ i2 hq2
      obtain ⟨p2, th2, la2, ins2, lt2, si2, nd2⟩ := S4
      obtain ⟨w', fin1, fin2⟩ := px_op_R (o := o) hs o1 g0 f2 i2 o2 g
      have t2 := (ps_PO_w o2).2.2.2
      rw [fin1]
      have op := ps_PO_op (o := o) (by omega) o1 (Nat.le_trans z.1 (Nat.le_succ _)) o2
      rw [k1] at hne
      exact ih F (j + 1) _ _ _ _ hF (by dsimp only; omega) op fin2 hne
  rw [e4, pb_wr ps_tk_lt]
  by_cases k1 : ps_tk c n (ps_sk c n p1) = 42
  · rw [if_pos (by omega), if_pos (Or.inl k1)]
    exact go 42 (Or.inl rfl) k1
  rw [if_neg (by omega)]
  by_cases k2 : ps_tk c n (ps_sk c n p1) = 47
  · rw [if_pos (by omega), if_pos (Or.inr k2)]
    exact go 47 (Or.inr rfl) k2
  rw [if_neg (by omega), if_neg (by omega)]
  exact pb_some g0
theorem px_product_R {c : Nat → Int} {n : Nat} {rs : ps_E → ps_S → ps_R} {rm : fa_W → Option (Int × fa_W)} (hx : ps_TX c n) (hn : n ≤ 400) (hp : ps_RC n rs) (hr : px_RC c n rs rm) (hD : px_DF rm) {e : ps_E} {s : ps_S} {w : fa_W} (hs : ps_SI n e s) (hS : px_S c n e s w) (hne : (ps_bd (rs e s) fun a s1 => ps_lp c n 42 47 rs e 200 a s1) ≠ none) : pb_ok (fm_Reader_product_b rm w) (px_R c n e s w (ps_bd (rs e s) fun a s1 => ps_lp c n 42 47 rs e 200 a s1)) := by
  obtain ⟨FU, hFU, hF2⟩ : ∃ F, fa_FU = F + 1 ∧ 200 < F + 1 := ⟨fa_FU - 1, by unfold fa_FU; omega, by unfold fa_FU; omega⟩
  unfold fm_Reader_product_b
  rw [hFU]
  have n1 : rs e s ≠ none := by
    intro r
    rw [r] at hne
    exact hne rfl
  refine pb_bdm (hr _ _ _ hs hS n1) (fun v1 w1 g => ?_)
  cases hq : rs e s with
  | none => exact absurd hq n1
  | some r =>
  rw [hq] at g hne
  cases r with
  | error z =>
    obtain ⟨gl, sc, ow, ne⟩ := e
    obtain ⟨p, th, la, ins, lt, si, nd⟩ := s
    have g2 : px_D z w1 ∧ px_fo w w1 := g
    exact pb_mono (px_product_lD g2.1 FU v1 0) (fun _ q => ⟨q.1, px_fo_tr g2.2 q.2⟩)
  | ok y =>
  obtain ⟨a, S1⟩ := y
  have o1 := hp _ _ _ _ hs hq
  refine px_product_l hx hn hp hr hD hs 200 (FU + 1) 0 a S1 v1 w1 hF2 ?_ o1 g hne
  obtain ⟨gl, sc, ow, ne⟩ := e
  obtain ⟨p, th, la, ins, lt, si, nd⟩ := s
  obtain ⟨p1, th1, la1, ins1, lt1, si1, nd1⟩ := S1
  have := (ps_PO_w o1).2.2.2
  dsimp only
  omega
