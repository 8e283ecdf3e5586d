theorem px_fr_815 {la lt si nd sl : Nat} {w w1 : fa_W} {v : Int} (h : px_fr la lt si nd sl w w1) : px_fr la lt si nd sl w (fa_st w1 8 15 v) := by
  obtain ⟨b1, b2, b3, b4, b5, b6, b7, b8, b9⟩ := h
  exact ⟨px_fo_st b1 (by decide), fun k q => (fa_st_ne (by omega)).trans (b2 k q), fun o k q r => (fa_st_ne (by omega)).trans (b3 o k q r), fun k r => (fa_st_ne (by omega)).trans (b4 k r), fun k r => (fa_st_ne (by omega)).trans (b5 k r), fun o k q r => (fa_st_ne (by omega)).trans (b6 o k q r), fun k r => (fa_st_ne (by omega)).trans (b7 k r), fun k => (fa_st_ne (by omega)).trans (b8 k), fun k r => (fa_st_ne (by omega)).trans (b9 k r)⟩
theorem px_sa {w : fa_W} {t : Nat} (h : w 7 4 = (t : Int)) (ht : t < 2147483648) : fm_Reader_startsAtom w = decide (t = 1 ∨ t = 2 ∨ t = 1684365668 ∨ t = 40) := by
  unfold fm_Reader_startsAtom
  rw [h, pb_wr ht]
  by_cases c1 : t = 1
  · rw [if_pos (by omega), decide_eq_true (by omega)]
  rw [if_neg (by omega)]
  by_cases c2 : t = 2
  · rw [if_pos (by omega), decide_eq_true (by omega)]
  rw [if_neg (by omega)]
  by_cases c3 : t = 1684365668
  · rw [if_pos (by omega), decide_eq_true (by omega)]
  rw [if_neg (by omega)]
  by_cases c4 : t = 40
  · rw [if_pos (by omega), decide_eq_true (by omega)]
  rw [if_neg (by omega), decide_eq_false (by omega)]
theorem px_chain_lD {rm : fa_W → Option (Int × fa_W)} {z : Nat} {w : fa_W} (h : px_D z w) (F : Nat) (x1 x2 : Int) : pb_ok (fm_Reader_chain_l7 rm (F + 1) x1 x2 w) (fun q => px_D z q.2 ∧ px_fo w q.2) := by
  have e3 := px_sa (w := w) (t := 3) h.2.1 (by omega)
  unfold fm_Reader_chain_l7
  rw [e3, if_neg (show ¬ (decide ((3 : Nat) = 1 ∨ (3 : Nat) = 2 ∨ (3 : Nat) = 1684365668 ∨ (3 : Nat) = 40) = true) by decide), ite_self]
  exact pb_some ⟨h, px_fo_refl w⟩
theorem px_chain_l {c : Nat → Int} {n : Nat} {rs : ps_E → ps_S → ps_R} {rm : fa_W → Option (Int × fa_W)} (hx : ps_TX c n) (hn : n ≤ 400) (hp : ps_RC n rs) (hr : px_RC c n rs rm) (hD : px_DF rm) (hw : ∀ e s, ps_tk c n (ps_sk c n s.1) = 3 → rs e s = none ∨ rs e s = ps_er (ps_sk c n s.1)) {e : ps_E} {s : ps_S} {w : fa_W} (hs : ps_SI n e s) : ∀ (f F j : Nat) (a : pt_T) (S1 : ps_S) (v1 : Int) (w1 : fa_W), f < F → j + 1 ≤ S1.2.1 → ps_PO n e s a S1 → px_R c n e s w (ps_re a S1) (v1, w1) → ps_ch c n rs e f a S1 ≠ none → pb_ok (fm_Reader_chain_l7 rm F v1 (j : Int) w1) (px_R c n e s w (ps_ch c n rs e f a S1)) := by
  intro f
  induction f with
  | zero => intro F j a S1 v1 w1 _ _ _ _ hne; exact absurd rfl hne
  | succ f ih =>
  intro F j a S1 v1 w1 hF hj o1 g hne
  obtain ⟨F, rfl⟩ : ∃ z, F = z + 1 := ⟨F - 1, by omega⟩
  have hF : f < F := by omega
  have i1 := ps_PO_SI hs o1
  obtain ⟨gl, sc, ow, ne⟩ := e
  obtain ⟨p, th, la, ins, lt, si, nd⟩ := s
  obtain ⟨p1, th1, la1, ins1, lt1, si1, nd1⟩ := S1
  unfold ps_ch at hne ⊢
  unfold fm_Reader_chain_l7
  have g0 := g
  obtain ⟨y1, y2, y3, y4⟩ := g
  dsimp only at y1 y2 y3 y4 hj
  have t100 := (ps_SI_z i1).2.2.2.2.2.2.2.1
  rw [pb_wr (show j < 2147483648 by omega), if_neg (by omega)]
  have e4 : w1 7 4 = ((ps_tk c n (ps_sk c n p1) : Nat) : Int) := y2.2.1.2.1
  have z := ps_sk_p hx p1 i1.1
  have hrr := px_S_r i1 y2
  dsimp only at hrr
  rw [px_sa e4 ps_tk_lt]
  by_cases k1 : ps_sa c n (ps_sk c n p1) = true
  · rw [if_pos k1] at hne ⊢
    have k2 := of_decide_eq_true k1
    by_cases k3 : ps_tk c n (ps_sk c n p1) = 3
    · rw [if_neg (by rw [decide_eq_false (by omega)]; decide)]
      have d : px_D (ps_sk c n p1) w1 ∧ px_fo w w1 := ⟨⟨Or.inr ⟨y2.2.2.1, hrr.2.1.2.2.1⟩, by rw [e4, k3]; rfl, hrr.2.2.2, by omega⟩, y4.1⟩
      by_cases c2 : th1 = 100
      · rw [if_pos c2]
        exact pb_some d
      rw [if_neg c2] at hne ⊢
      rcases hw (gl, sc, ow, ne) (p1, th1 + 1, la1, ins1, lt1, si1 + 1, nd1) k3 with h | h
      · rw [h] at hne
        exact absurd rfl hne
      · rw [h]
        exact pb_some d
    rw [if_pos (decide_eq_true (by omega))]
    dsimp only [fa_let]
    have e15 : w1 8 15 = (si1 : Int) := y2.2.2.2.2.2.2.2.2.1
    rw [e15]
    have h5 : w1 7 9 = (th1 : Int) := y2.2.2.2.2.1
    have tail : ∀ (z2 : Nat) (v2 : Int) (w4 : fa_W), px_D z2 w4 → px_fo w w4 → pb_ok (fa_l2 (fm_Program_add 8 9 ((si1 : Nat) : Int) (w4 7 12) v1 v2 (-1) w4) fun v13 w14 => fm_Reader_chain_l7 rm F v13 ((j : Int) + 1) w14) (fun q => px_D z2 q.2 ∧ px_fo w q.2) := by
      intro z2 v2 w4 d4 f4
      have d3 := px_padd_D d4 9 ((si1 : Nat) : Int) (w4 7 12) v1 v2 (-1)
      obtain ⟨F', rfl⟩ : ∃ z, F = z + 1 := ⟨F - 1, by omega⟩
      exact pb_mono (px_chain_lD d3.1 F' _ _) (fun _ q => ⟨q.1, px_fo_tr (px_fo_tr f4 d3.2) q.2⟩)
    by_cases c2 : th1 = 100
    · rw [px_count_bad (w := w1) (by rw [h5, c2]), if_pos c2]
      have fr := px_fail_r (px_r_7 (k := 9) (v := 101) hrr (by decide)) z.2.1
      have fo := px_fo_tr (px_fo_st (px_fo_refl w1) (o := 7) (k := 9) (v := 101) (by decide)) fr.2.1
      generalize fm_Reader_fail (fa_st w1 7 9 101) = w4 at fr fo ⊢
      have d5 : px_D (ps_sk c n p1) (fa_st w4 8 15 ((w4 8 15) + 1)) := px_D_of fr.1 (fa_st_ne (by decide)) (fa_st_ne (by decide)) (fa_st_ne (by decide)) (fa_st_ne (by decide))
      have o5 : px_fo w (fa_st w4 8 15 ((w4 8 15) + 1)) := px_fo_st (px_fo_tr y4.1 fo) (by decide)
      exact pb_bdm (hD _ _ d5) (fun v w4 q => tail _ v w4 q.1 (px_fo_tr o5 q.2))
    rw [if_neg c2] at hne ⊢
    rw [px_count_ok h5 (by omega), show fa_st w1 7 9 ((th1 + 1 : Nat) : Int) 8 15 = (si1 : Int) from (fa_st_ne (by decide)).trans e15, show ((si1 : Int) + 1) = ((si1 + 1 : Nat) : Int) from rfl]
    have f2 : px_fr la1 lt1 si1 nd1 sc.length w1 (fa_st (fa_st w1 7 9 ((th1 + 1 : Nat) : Int)) 8 15 ((si1 + 1 : Nat) : Int)) := px_fr_815 (px_fr_7 (px_fr_refl _ _ _ _ _ _))
    have S2 : px_S c n (gl, sc, ow, ne) (p1, th1 + 1, la1, ins1, lt1, si1 + 1, nd1) (fa_st (fa_st w1 7 9 ((th1 + 1 : Nat) : Int)) 8 15 ((si1 + 1 : Nat) : Int)) := by
      obtain ⟨h1, h2, h3, h4, h5, h6, h7, h8, h9, h10, h11, h12, h13, h14⟩ := id y2
      have nn : ∀ o k, ¬ (o = 7 ∧ k = 9) → ¬ (o = 8 ∧ k = 15) → fa_st (fa_st w1 7 9 ((th1 + 1 : Nat) : Int)) 8 15 ((si1 + 1 : Nat) : Int) o k = w1 o k := fun o k q r => (fa_st_ne r).trans (fa_st_ne q)
      refine px_S_7 y2 (fun o k a b => nn o k (by omega) (by omega)) ?_ ?_ ?_ ?_ ?_ ?_ ?_ (fa_st_eq _ _ _ _) h14
      · exact ⟨by rw [nn 7 3 (by omega) (by omega)]; exact h2.1, by rw [nn 7 4 (by omega) (by omega)]; exact h2.2.1, by rw [nn 7 5 (by omega) (by omega)]; exact h2.2.2.1, by rw [nn 7 6 (by omega) (by omega)]; exact h2.2.2.2⟩
      · rw [nn 7 7 (by omega) (by omega)]; exact h3
      · rw [nn 7 8 (by omega) (by omega)]; exact h4
      · rw [fa_st_ne (by decide), fa_st_eq]
      · rw [nn 7 10 (by omega) (by omega)]; exact h6
      · rw [nn 7 11 (by omega) (by omega)]; exact h7
      · rw [nn 7 12 (by omega) (by omega)]; exact h8
    generalize fa_st (fa_st w1 7 9 ((th1 + 1 : Nat) : Int)) 8 15 ((si1 + 1 : Nat) : Int) = w2 at S2 f2 ⊢
    have i2 : ps_SI n (gl, sc, ow, ne) (p1, th1 + 1, la1, ins1, lt1, si1 + 1, nd1) := ps_SI_op (d := 1) i1 (q := p1) (Nat.le_refl _) i1.1 c2 (by decide)
    have n2 : rs (gl, sc, ow, ne) (p1, th1 + 1, la1, ins1, lt1, si1 + 1, nd1) ≠ none := by
      intro r
      rw [r] at hne
      exact hne rfl
    refine pb_bdm (hr _ _ _ i2 S2 n2) (fun v2 w4 g => ?_)
    cases hq2 : rs (gl, sc, ow, ne) (p1, th1 + 1, la1, ins1, lt1, si1 + 1, nd1) with
    | none => exact absurd hq2 n2
    | some r =>
    rw [hq2] at g hne
    cases r with
    | error z2 => exact tail z2 v2 w4 g.1 (px_fo_tr (px_fo_tr y4.1 f2.1) g.2)
    | ok y =>
      obtain ⟨b, S4⟩ := y
      have o2 := hp _ _ _ _ i2 hq2
      obtain ⟨p2, th2, la2, ins2, lt2, si2, nd2⟩ := S4
      obtain ⟨w', fin1, fin2⟩ := px_site_R hs o1 g0 f2 i2 o2 g
      have t2 := (ps_PO_w o2).2.2.2
      rw [fin1]
      have op := ps_PO_site o1 (Nat.le_refl _) o2
      exact ih F (j + 1) _ _ _ _ hF (by dsimp only; omega) op fin2 hne
  · rw [if_neg k1]
    rw [if_neg (by rw [decide_eq_false (fun q => k1 (decide_eq_true (by omega)))]; decide)]
    exact pb_some g0
theorem px_chain_R {c : Nat → Int} {n : Nat} {rs : ps_E → ps_S → ps_R} {rm : fa_W → Option (Int × fa_W)} (hx : ps_TX c n) (hn : n ≤ 400) (hp : ps_RC n rs) (hr : px_RC c n rs rm) (hD : px_DF rm) (hw : ∀ e s, ps_tk c n (ps_sk c n s.1) = 3 → rs e s = none ∨ rs e s = ps_er (ps_sk c n s.1)) {e : ps_E} {s : ps_S} {w : fa_W} (hs : ps_SI n e s) (hS : px_S c n e s w) (hne : (ps_bd (rs e s) fun a s1 => ps_ch c n rs e 200 a s1) ≠ none) : pb_ok (fm_Reader_chain_b rm w) (px_R c n e s w (ps_bd (rs e s) fun a s1 => ps_ch c n rs e 200 a s1)) := by
  obtain ⟨FU, hFU, hF2⟩ : ∃ F, fa_FU = F + 1 ∧ 200 < F + 1 := ⟨fa_FU - 1, by unfold fa_FU; omega, by unfold fa_FU; omega⟩
  unfold fm_Reader_chain_b
  rw [hFU]
  have n1 : rs e s ≠ none := by
    intro r
    rw [r] at hne
    exact hne rfl
  refine pb_bdm (hr _ _ _ hs hS n1) (fun v1 w1 g => ?_)
  cases hq : rs e s with
  | none => exact absurd hq n1
  | some r =>
  rw [hq] at g hne
  cases r with
  | error z =>
    obtain ⟨gl, sc, ow, ne⟩ := e
    obtain ⟨p, th, la, ins, lt, si, nd⟩ := s
    have g2 : px_D z w1 ∧ px_fo w w1 := g
    exact pb_mono (px_chain_lD g2.1 FU v1 0) (fun _ q => ⟨q.1, px_fo_tr g2.2 q.2⟩)
  | ok y =>
  obtain ⟨a, S1⟩ := y
  have o1 := hp _ _ _ _ hs hq
  refine px_chain_l hx hn hp hr hD hw hs 200 (FU + 1) 0 a S1 v1 w1 hF2 ?_ o1 g hne
  obtain ⟨gl, sc, ow, ne⟩ := e
  obtain ⟨p, th, la, ins, lt, si, nd⟩ := s
  obtain ⟨p1, th1, la1, ins1, lt1, si1, nd1⟩ := S1
  have := (ps_PO_w o1).2.2.2
  dsimp only
  omega
