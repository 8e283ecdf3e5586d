/-- a GLOBAL's head: up to the name -/
theorem px_ghead {c : Nat → Int} {n : Nat} (hx : ps_TX c n) (hn : n ≤ 400) {gs : ps_G} {p th la lt si nd : Nat} {ins : List Nat} {w : fa_W} (hg : gs.length ≤ 6) (hs : ps_SI n (pk_gn gs, [], -1, 0) (p, th, la, ins, lt, si, nd)) (hS : px_S c n (pk_gn gs, [], -1, 0) (p, th, la, ins, lt, si, nd) w) (hk : ps_tk c n (ps_sk c n p) = 6714734) (f : Nat) (R : fa_W → Prop) (hE : ∀ z w', px_D z w' → px_fo w w' → ps_all c n false (f + 1) gs (p, th, la, ins, lt, si, nd) = some (.error z) → R w') (hK : ∀ (w4 : fa_W) (q1 : Nat), q1 = ps_sk c n (ps_te c n (ps_sk c n p)) → gs.length < 6 → ps_tk c n q1 = 2 → ps_tv c n q1 ∉ pk_gn gs → px_r c n q1 w4 → px_k w w4 → px_S c n (pk_gn gs, [], -1, 0) (ps_te c n (ps_sk c n p), th, la, ins, lt, si, nd) w4 → ps_all c n false (f + 1) gs (p, th, la, ins, lt, si, nd) = ps_glo c n false (ps_tv c n q1) (ps_te c n q1) gs (p, th, la, ins, lt, si, nd) (ps_all c n false f) → pb_ok (fa_let (fr_add 25 ((ps_tv c n q1 : Nat) : Int) w4) fun w11 => fa_let (fa_st w11 8 13 ((w11 8 13) + 1)) fun w12 => (fm_Reader_advance w12).bind fun w14 => fa_let (fa_st w14 7 12 (gs.length : Int)) fun w15 => (fm_Reader_nameVariable (gs.length : Int) w15).bind fun w17 => fa_let (fr_add 35 (gs.length : Int) w17) fun w19 => (fm_Reader_expect 61 w19).bind fun w21 => fa_bd (fm_Reader_expression 900 w21) fun v23 w24 => fa_let (fr_set (fa_rf 8 9) (gs.length : Int) v23 w24) fun w26 => (fm_Reader_expect 59 w26).bind fun w28 => fa_let (fm_Row_clear 35 w28) fun w30 => fa_let (fa_st w30 7 12 (-1)) fun w31 => some w31) R) : pb_ok (fm_Reader_global w) R := by
  have hrr := px_S_r hs hS
  dsimp only at hrr
  have zq := ps_sk_p hx p hs.1
  have gl := pk_gn_len gs
  have e13 : w 8 13 = (gs.length : Int) := by rw [← gl]; exact hS.2.2.2.2.2.2.2.2.2.2.1.1
  have te := (ps_te_p hx (ps_lt hx (s := ps_sk c n p) (by omega))).2
  have spec : ps_all c n false (f + 1) gs (p, th, la, ins, lt, si, nd) = if gs.length = 6 then some (.error (ps_sk c n p)) else if ps_tk c n (ps_sk c n (ps_te c n (ps_sk c n p))) ≠ 2 ∨ ps_tv c n (ps_sk c n (ps_te c n (ps_sk c n p))) ∈ pk_gn gs then some (.error (ps_sk c n (ps_te c n (ps_sk c n p)))) else ps_glo c n false (ps_tv c n (ps_sk c n (ps_te c n (ps_sk c n p)))) (ps_te c n (ps_sk c n (ps_te c n (ps_sk c n p)))) gs (p, th, la, ins, lt, si, nd) (ps_all c n false f) := by
    show (if ps_tk c n (ps_sk c n p) = 6714734 then _ else _) = _
    rw [if_pos hk]
    rfl
  unfold fm_Reader_global fm_Reader_global_j49
  dsimp only [fa_let]
  rw [e13, pb_wr (by omega)]
  by_cases c6 : gs.length = 6
  · rw [if_neg (by omega)]
    have fr := px_fail_r hrr zq.2.1
    exact pb_some (hE _ _ fr.1 fr.2.1 (by rw [spec, if_pos c6]))
  rw [if_pos (by omega)]
  rw [if_neg c6] at spec
  refine pb_bindm (px_adv_r hrr te) (fun w4 q => ?_)
  obtain ⟨r4, k4⟩ := q
  have S4 := px_S_k (p' := ps_te c n (ps_sk c n p)) hS k4 r4.2.1
  have z4 := (ps_sk_p hx _ te).2.1
  rw [show w4 7 4 = ((ps_tk c n (ps_sk c n (ps_te c n (ps_sk c n p))) : Nat) : Int) from r4.2.1.2.1, pb_wr ps_tk_lt]
  have fl := px_fail_r r4 z4
  by_cases g1 : ps_tk c n (ps_sk c n (ps_te c n (ps_sk c n p))) = 2
  · rw [if_pos (by omega)]
    have nm := (ps_name hx g1).1
    obtain ⟨_, _, _, _, _, _, _, _, _, _, _, _, _, _, a15, a16, _⟩ := id hs
    have fd := px_find_no nm a15 a16 S4.2.2.2.2.2.2.2.2.2.2.1
    rw [r4.2.1.2.2.2 (Or.inr g1), show fa_rf 8 8 = 25 from rfl]
    by_cases g2 : ps_tv c n (ps_sk c n (ps_te c n (ps_sk c n p))) ∈ pk_gn gs
    · rw [if_neg (fun q => fd.mp q g2)]
      exact pb_some (hE _ _ fl.1 (px_fo_tr (px_k_fo k4) fl.2.1) (by rw [spec, if_pos (Or.inr g2)]))
    · rw [if_pos (fd.mpr g2)]
      exact hK w4 _ rfl (by omega) g1 g2 r4 k4 S4 (by rw [spec, if_neg (fun q => q.elim (fun a => a g1) g2)])
  · rw [if_neg (by omega)]
    exact pb_some (hE _ _ fl.1 (px_fo_tr (px_k_fo k4) fl.2.1) (by rw [spec, if_pos (Or.inl g1)]))
