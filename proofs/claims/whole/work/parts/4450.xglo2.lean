def px_T (c : Nat → Int) (n : Nat) (gs : ps_G) (s : ps_S) (w : fa_W) : Prop := px_S c n (pk_gn gs, [], -1, 0) s w ∧ px_GH 8 s.2.2.2.1 gs 0 0 w ∧ pk_GW gs [] (0, 0, 0, 0) (ps_Kof s)
theorem px_D_sc {z : Nat} {w : fa_W} (h : px_D z w) : px_D z (fm_Row_clear 35 w) ∧ px_fo w (fm_Row_clear 35 w) := by
  obtain ⟨h1, h2, h3, h4⟩ := h
  show px_D z (fa_st w 35 1 0) ∧ px_fo w (fa_st w 35 1 0)
  exact ⟨⟨by rw [fa_st_ne (by decide), fa_st_ne (by decide)]; exact h1, by rw [fa_st_ne (by decide)]; exact h2, ⟨0, by omega, fa_st_eq _ _ _ _⟩, h4⟩, px_fo_st (px_fo_refl w) (by decide)⟩
/-- a GLOBAL's end when a fault is behind -/
theorem px_gend_D {z : Nat} {w w0 : fa_W} (h : px_D z w) (ho : px_fo w0 w) (x v : Int) : pb_ok ((fm_Reader_expect 59 (fr_set 27 x v w)).bind fun w28 => fa_let (fm_Row_clear 35 w28) fun w30 => fa_let (fa_st w30 7 12 (-1)) fun w31 => some w31) (fun w' => px_D z w' ∧ px_fo w0 w') := by
  have d1 : px_D z (fr_set 27 x v w) := px_D_of h (px_set_o (by decide)) (px_set_o (by decide)) (px_set_o (by decide)) (px_set_o (by decide))
  have o1 : px_fo w0 (fr_set 27 x v w) := px_fo_tr ho (fun o k q => px_set_o (by show o ≠ 28; omega))
  refine pb_bindm (px_expect_D (k := 59) d1 (by decide) (by decide)) (fun w2 q => ?_)
  have d2 := px_D_sc q.1
  exact pb_some ⟨px_D_7 d2.1 (by decide), px_fo_st (px_fo_tr (px_fo_tr o1 q.2) d2.2) (by decide)⟩
theorem px_gexp_D {z : Nat} {w w0 : fa_W} (h : px_D z w) (ho : px_fo w0 w) (x : Int) : pb_ok (fa_bd (fm_Reader_expression 900 w) fun v23 w24 => fa_let (fr_set (fa_rf 8 9) x v23 w24) fun w26 => (fm_Reader_expect 59 w26).bind fun w28 => fa_let (fm_Row_clear 35 w28) fun w30 => fa_let (fa_st w30 7 12 (-1)) fun w31 => some w31) (fun w' => px_D z w' ∧ px_fo w0 w') :=
  pb_bdm (px_e_D h) (fun v w2 q => px_gend_D q.1 (px_fo_tr ho q.2) x v)
