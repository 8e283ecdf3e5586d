/-! THE LAW'S LOOP -/
theorem lw_loop {L : Nat} {xi : Nat → Int} (hL : L ≤ 3072) (hx : ∀ j, -2147483648 ≤ xi j ∧ xi j < 2147483648) : ∀ (F i : Nat) (w : fa_W), lw_I w → (L + 6 < 6 * F + i ∧ 0 < F) ∧ i ≤ 3100 → fm_Law_l L xi F (i : Int) w = some 1 := by
  intro F
  induction F with
  | zero => intro i w hI hF; omega
  | succ F ih =>
    intro i w hI hF
    unfold fm_Law_l
    rw [pb_wr (show i < 2147483648 by omega), fa_wr_id (x := (L : Int) - 6) (by omega) (by omega)]
    by_cases z : (L : Int) - 6 < (i : Int)
    · rw [if_pos z]
    rw [if_neg z]
    have nx : ∀ w', lw_I w' → fm_Law_l L xi F ((i : Int) + 6) w' = some 1 := fun w' h => ih (i + 6) w' h (by omega)
    have J0 : fa_ix (i : Int) L = some i := pb_ix (by omega) (by omega)
    have J1 : fa_ix ((i : Int) + 1) L = some (i + 1) := pb_ix (k := i + 1) (by omega) (by omega)
    have J2 : fa_ix ((i : Int) + 2) L = some (i + 2) := pb_ix (k := i + 2) (by omega) (by omega)
    have J3 : fa_ix ((i : Int) + 3) L = some (i + 3) := pb_ix (k := i + 3) (by omega) (by omega)
    have J4 : fa_ix ((i : Int) + 4) L = some (i + 4) := pb_ix (k := i + 4) (by omega) (by omega)
    have J5 : fa_ix ((i : Int) + 5) L = some (i + 5) := pb_ix (k := i + 5) (by omega) (by omega)
    rw [J0, Option.bind_some]
    by_cases c0 : fa_wr (fa_iand (xi i) 31) = 0
    · obtain ⟨v, w1, u, w2, h1, h2, h3, h5⟩ := lw_feed hI
      rw [if_pos c0]
      rw [J1, J2, J3, J4, J5]
      rw [Option.bind_some, Option.bind_some, Option.bind_some, Option.bind_some, Option.bind_some]
      rw [h1, pf_bd_eq, Option.bind_some, Option.bind_some, Option.bind_some, Option.bind_some, Option.bind_some, h2, pf_bd_eq, if_pos h3, pf_let_eq]
      exact nx w2 h5
    rw [if_neg c0]
    by_cases c1 : fa_wr (fa_iand (xi i) 31) = 1
    · obtain ⟨b, w1, w2, h1, h2, h5⟩ := lw_end (a := xi (i + 1)) hI (hx (i + 1))
      rw [if_pos c1]
      rw [J1]
      rw [Option.bind_some]
      rw [h1, pf_l2_eq, Option.bind_some, h2, pf_l2_eq, if_pos rfl, pf_let_eq]
      exact nx w2 h5
    rw [if_neg c1]
    by_cases c2 : fa_wr (fa_iand (xi i) 31) = 2
    · obtain ⟨v, w1, u, w2, h1, h2, h3, h4, h5⟩ := lw_read hI
      rw [if_pos c2]
      rw [h1, pf_bd_eq, h2, pf_bd_eq, if_pos (show fa_wr (fm_Mod_thrown w2) = fa_wr v from h3)]
      by_cases y : fa_wr v = 0
      · rw [if_pos y, if_pos (h4 y), pf_let_eq]; exact nx w2 h5
      · rw [if_neg y, pf_let_eq]; exact nx w2 h5
    rw [if_neg c2]
    by_cases c3 : fa_wr (fa_iand (xi i) 31) = 3
    · obtain ⟨w2, h2, h5⟩ := lw_fault hI
      rw [if_pos c3]
      rw [h2, pf_l2_eq, if_pos rfl, pf_let_eq]
      exact nx w2 h5
    rw [if_neg c3]
    by_cases c4 : fa_wr (fa_iand (xi i) 31) = 4
    · obtain ⟨v, w1, u, w2, h1, h2, h3, h4, h5⟩ := lw_function hI (hx (i + 1)) (hx (i + 2))
      rw [if_pos c4]
      rw [J1, J2]
      rw [Option.bind_some, Option.bind_some]
      rw [h1, pf_bd_eq, Option.bind_some, Option.bind_some, h2, pf_bd_eq, if_pos (show fa_wr (fm_Mod_thrown w2) = fa_wr v from h3)]
      by_cases y : fa_wr v = 0
      · rw [if_pos y, if_pos (h4 y), pf_let_eq]; exact nx w2 h5
      · rw [if_neg y, pf_let_eq]; exact nx w2 h5
    rw [if_neg c4]
    by_cases c5 : fa_wr (fa_iand (xi i) 31) = 5
    · obtain ⟨v, w1, u, w2, h1, h2, h3, h4, h5⟩ := lw_field hI (hx (i + 1)) (hx (i + 2))
      rw [if_pos c5]
      rw [J1, J2]
      rw [Option.bind_some, Option.bind_some]
      rw [h1, pf_bd_eq, Option.bind_some, Option.bind_some, h2, pf_bd_eq, if_pos (show fa_wr (fm_Mod_thrown w2) = fa_wr v from h3)]
      by_cases y : fa_wr v = 0
      · rw [if_pos y, if_pos (h4 y), pf_let_eq]; exact nx w2 h5
      · rw [if_neg y, pf_let_eq]; exact nx w2 h5
    rw [if_neg c5]
    by_cases c6 : fa_wr (fa_iand (xi i) 31) = 6
    · obtain ⟨v, w1, u, w2, h1, h2, h3, h4, h5⟩ := lw_type hI (hx (i + 1))
      rw [if_pos c6]
      rw [J1]
      rw [Option.bind_some]
      rw [h1, pf_bd_eq, Option.bind_some, h2, pf_bd_eq, if_pos (show fa_wr (fm_Mod_thrown w2) = fa_wr v from h3)]
      by_cases y : fa_wr v = 0
      · rw [if_pos y, if_pos (h4 y), pf_let_eq]; exact nx w2 h5
      · rw [if_neg y, pf_let_eq]; exact nx w2 h5
    rw [if_neg c6]
    by_cases c7 : fa_wr (fa_iand (xi i) 31) = 7
    · obtain ⟨v, w1, u, w2, h1, h2, h3, h5⟩ := lw_typeOfMain hI
      rw [if_pos c7]
      rw [h1, pf_bd_eq, h2, pf_bd_eq, if_pos h3, pf_let_eq]
      exact nx w2 h5
    rw [if_neg c7]
    by_cases c8 : fa_wr (fa_iand (xi i) 31) = 8
    · obtain ⟨v, w1, u, w2, h1, h2, h3, h4, h5⟩ := lw_alike hI (hx (i + 1)) (hx (i + 2))
      rw [if_pos c8]
      rw [J1, J2]
      rw [Option.bind_some, Option.bind_some]
      rw [h1, pf_bd_eq, Option.bind_some, Option.bind_some, h2, pf_bd_eq, if_pos (show fa_wr (fm_Mod_thrown w2) = fa_wr v from h3)]
      by_cases y : fa_wr v = 0
      · have h6 := h4 y
        rw [if_pos y]
        by_cases q : u = true
        · rw [if_pos q] at h6; rw [if_pos q, if_pos h6, pf_let_eq]; exact nx w2 h5
        · rw [if_neg q] at h6; rw [if_neg q, if_pos h6, pf_let_eq]; exact nx w2 h5
      · rw [if_neg y, pf_let_eq]; exact nx w2 h5
    rw [if_neg c8]
    by_cases c9 : fa_wr (fa_iand (xi i) 31) = 9
    · obtain ⟨v, w1, u, w2, h1, h2, h3, h4, h5⟩ := lw_site hI (hx (i + 1)) (hx (i + 2))
      rw [if_pos c9]
      rw [J1, J2]
      rw [Option.bind_some, Option.bind_some]
      rw [h1, pf_bd_eq, Option.bind_some, Option.bind_some, h2, pf_bd_eq, if_pos (show fa_wr (fm_Mod_thrown w2) = fa_wr v from h3)]
      by_cases y : fa_wr v = 0
      · rw [if_pos y, if_pos (h4 y), pf_let_eq]; exact nx w2 h5
      · rw [if_neg y, pf_let_eq]; exact nx w2 h5
    rw [if_neg c9]
    by_cases c10 : fa_wr (fa_iand (xi i) 31) = 10
    · obtain ⟨v, w1, u, w2, h1, h2, h3, h4, h5⟩ := lw_split hI (hx (i + 1)) (hx (i + 2))
      rw [if_pos c10]
      rw [J1, J2]
      rw [Option.bind_some, Option.bind_some]
      rw [h1, pf_bd_eq, Option.bind_some, Option.bind_some, h2, pf_bd_eq, if_pos (show fa_wr (fm_Mod_thrown w2) = fa_wr v from h3)]
      by_cases y : fa_wr v = 0
      · rw [if_pos y, if_pos (h4 y), pf_let_eq]; exact nx w2 h5
      · rw [if_neg y, pf_let_eq]; exact nx w2 h5
    rw [if_neg c10]
    by_cases c11 : fa_wr (fa_iand (xi i) 31) = 11
    · rw [if_pos c11]
      rw [J1, J2, J3]
      rw [Option.bind_some, Option.bind_some, Option.bind_some]
      by_cases q : fa_wr (xi (i + 3)) = 0
      · obtain ⟨v, w1, u, w2, h1, h2, h3, h4, h5⟩ := lw_group false hI (hx (i + 1)) (hx (i + 2))
        rw [if_pos q, h1, pf_bd_eq, Option.bind_some, Option.bind_some, Option.bind_some, if_pos q, h2, pf_bd_eq, if_pos (show fa_wr (fm_Mod_thrown w2) = fa_wr v from h3)]
        by_cases y : fa_wr v = 0
        · rw [if_pos y, if_pos (h4 y), pf_let_eq]; exact nx w2 h5
        · rw [if_neg y, pf_let_eq]; exact nx w2 h5
      · obtain ⟨v, w1, u, w2, h1, h2, h3, h4, h5⟩ := lw_group true hI (hx (i + 1)) (hx (i + 2))
        rw [if_neg q, h1, pf_bd_eq, Option.bind_some, Option.bind_some, Option.bind_some, if_neg q, h2, pf_bd_eq, if_pos (show fa_wr (fm_Mod_thrown w2) = fa_wr v from h3)]
        by_cases y : fa_wr v = 0
        · rw [if_pos y, if_pos (h4 y), pf_let_eq]; exact nx w2 h5
        · rw [if_neg y, pf_let_eq]; exact nx w2 h5
    rw [if_neg c11]
    by_cases c12 : fa_wr (fa_iand (xi i) 31) = 12
    · obtain ⟨v, w1, u, w2, h1, h2, h3, h4, h5⟩ := lw_run hI (hx (i + 1)) (hx (i + 2))
      rw [if_pos c12]
      rw [J1, J2]
      rw [Option.bind_some, Option.bind_some]
      rw [h1, pf_bd_eq, Option.bind_some, Option.bind_some, h2, pf_bd_eq, if_pos (show fa_wr (fm_Mod_thrown w2) = fa_wr v from h3)]
      by_cases y : fa_wr v = 0
      · rw [if_pos y, if_pos (h4 y), pf_let_eq]; exact nx w2 h5
      · rw [if_neg y, pf_let_eq]; exact nx w2 h5
    rw [if_neg c12]
    by_cases c13 : fa_wr (fa_iand (xi i) 31) = 13
    · obtain ⟨v, w1, u, w2, h1, h2, h3, h4, h5⟩ := lw_blame hI (hx (i + 1)) (hx (i + 2))
      rw [if_pos c13]
      rw [J1, J2]
      rw [Option.bind_some, Option.bind_some]
      rw [h1, pf_bd_eq, Option.bind_some, Option.bind_some, h2, pf_bd_eq, if_pos (show fa_wr (fm_Mod_thrown w2) = fa_wr v from h3)]
      by_cases y : fa_wr v = 0
      · rw [if_pos y, if_pos (h4 y), pf_let_eq]; exact nx w2 h5
      · rw [if_neg y, pf_let_eq]; exact nx w2 h5
    rw [if_neg c13]
    by_cases c14 : fa_wr (fa_iand (xi i) 31) = 14
    · obtain ⟨v, w1, u, w2, h1, h2, h3, h4, h5⟩ := lw_form hI (hx (i + 1))
      rw [if_pos c14]
      rw [J1]
      rw [Option.bind_some]
      rw [h1, pf_bd_eq, Option.bind_some, h2, pf_bd_eq, if_pos (show fa_wr (fm_Mod_thrown w2) = fa_wr v from h3)]
      by_cases y : fa_wr v = 0
      · rw [if_pos y, if_pos (h4 y), pf_let_eq]; exact nx w2 h5
      · rw [if_neg y, pf_let_eq]; exact nx w2 h5
    rw [if_neg c14]
    by_cases c15 : fa_wr (fa_iand (xi i) 31) = 15
    · obtain ⟨v, w1, u, w2, h1, h2, h3, h5⟩ := lw_back hI
      rw [if_pos c15]
      rw [h1, pf_bd_eq, h2, pf_bd_eq, if_pos h3, pf_let_eq]
      exact nx w2 h5
    rw [if_neg c15]
    by_cases c16 : fa_wr (fa_iand (xi i) 31) = 16
    · obtain ⟨v, w1, u, w2, h1, h2, h3, h5⟩ := lw_show hI
      rw [if_pos c16]
      rw [h1, pf_bd_eq, h2, pf_bd_eq, if_pos h3, pf_let_eq]
      exact nx w2 h5
    rw [if_neg c16]
    by_cases c17 : fa_wr (fa_iand (xi i) 31) = 17
    · obtain ⟨v, w1, u, w2, h1, h2, h3, h5⟩ := lw_take hI
      rw [if_pos c17]
      rw [h1, pf_bd_eq, h2, pf_bd_eq, if_pos h3, pf_let_eq]
      exact nx w2 h5
    rw [if_neg c17]
    by_cases c18 : fa_wr (fa_iand (xi i) 31) = 18
    · obtain ⟨v, w1, u, w2, h1, h2, h3, h4, h5⟩ := lw_ring hI (hx (i + 1))
      rw [if_pos c18]
      rw [J1]
      rw [Option.bind_some]
      rw [h1, pf_bd_eq, Option.bind_some, h2, pf_bd_eq, if_pos (show fa_wr (fm_Mod_thrown w2) = fa_wr v from h3)]
      by_cases y : fa_wr v = 0
      · rw [if_pos y, if_pos (h4 y), pf_let_eq]; exact nx w2 h5
      · rw [if_neg y, pf_let_eq]; exact nx w2 h5
    rw [if_neg c18]
    by_cases c19 : fa_wr (fa_iand (xi i) 31) = 19
    · obtain ⟨v, w1, u, w2, h1, h2, h3, h4, h5⟩ := lw_far hI (hx (i + 1)) (hx (i + 2))
      rw [if_pos c19]
      rw [J1, J2]
      rw [Option.bind_some, Option.bind_some]
      rw [h1, pf_bd_eq, Option.bind_some, Option.bind_some, h2, pf_bd_eq, if_pos (show fa_wr (fm_Mod_thrown w2) = fa_wr v from h3)]
      by_cases y : fa_wr v = 0
      · rw [if_pos y, if_pos (h4 y), pf_let_eq]; exact nx w2 h5
      · rw [if_neg y, pf_let_eq]; exact nx w2 h5
    rw [if_neg c19]
    by_cases c20 : fa_wr (fa_iand (xi i) 31) = 20
    · obtain ⟨w2, h2, h5⟩ := lw_octet (a := xi (i + 1)) hI (hx (i + 1))
      rw [if_pos c20]
      rw [J1]
      rw [Option.bind_some, Option.bind_some]
      rw [h2, pf_bd_eq, if_pos rfl, pf_let_eq]
      exact nx w2 h5
    rw [if_neg c20]
    by_cases c21 : fa_wr (fa_iand (xi i) 31) = 21
    · obtain ⟨v, w1, u, w2, h1, h2, h3, h5⟩ := lw_count hI (hx (i + 1))
      rw [if_pos c21]
      rw [J1]
      rw [Option.bind_some]
      rw [h1, pf_bd_eq, Option.bind_some, h2, pf_bd_eq, if_pos h3, pf_let_eq]
      exact nx w2 h5
    rw [if_neg c21]
    rw [pf_let_eq]
    exact nx w hI
