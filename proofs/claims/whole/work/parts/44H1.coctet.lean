/-! octet(), on both sides -/
theorem pa_octet {l : List Nat} {w : fa_W} {a : Int} (hl : l.length ≤ 40000) (hc : l.length ≤ fa_cp 3) (hx : px_RL 3 l w) (hm : pm_O l w) (ba : -2147483648 ≤ a ∧ a < 2147483648) : fm_Mod_octet a w = some (fm_Face_octet a w, fa_st w 181 0 0) := by
  have e0 : fa_wr 0 = 0 := fa_wr_id (by omega) (by omega)
  have e2 : fa_wr a = a := fa_wr_id (by omega) (by omega)
  have m70 : fa_st w 181 0 0 181 70 = (l.length : Int) := (fa_st_ne (by omega)).trans hm.1
  have e1 : fa_wr ((l.length : Int) - 1) = (l.length : Int) - 1 := fa_wr_id (by omega) (by omega)
  unfold fm_Mod_octet
  rw [pf_let_eq, m70]
  by_cases c : pa_in l.length a
  · obtain ⟨i, ei, hi⟩ := pa_in_nat c
    have y : fm_Mod_in a 0 ((l.length : Int) - 1) (fa_st w 181 0 0) = true := by
      unfold fm_Mod_in
      rw [e0, e1, e2, if_neg (show ¬ a < 0 by omega), if_neg (by omega)]
    have q : l[i]? = some l[i] := List.getElem?_eq_getElem hi
    unfold fm_Face_octet
    rw [y, if_pos rfl, ei, pb_ix (show i < 40000 by omega) (by omega), Option.bind_some, fa_st_ne (by omega), pb_at hx.1 hi hc, hm.2 i _ q]
    show _ = some (w 4 i, _)
    rw [hx.2 i _ q]
  · unfold pa_in at c
    have y : fm_Mod_in a 0 ((l.length : Int) - 1) (fa_st w 181 0 0) = false := by
      unfold fm_Mod_in
      rw [e0, e1, e2]
      by_cases z : a < 0
      · rw [if_pos z]
      · rw [if_neg z, if_pos (by omega)]
    unfold fm_Face_octet fr_at
    rw [y, if_neg (by decide), e2, hx.1, pb_wr (by omega), if_neg (by omega)]
