/-! THE START: what the constructors leave -/
theorem ls_nw {N : Nat} {w : fa_W} {i j : Nat} (h : i ≠ N) : fa_nw N w i j = w i j := by unfold fa_nw; rw [if_neg h]
theorem ls_nw0 (N : Nat) (w : fa_W) (j : Nat) : fa_nw N w N j = 0 := by unfold fa_nw; rw [if_pos rfl]
theorem ls_Reader (w : fa_W) {i j : Nat} (h : i < 7 ∨ 36 < i) : fm_new_Reader_7 w i j = w i j := by
  unfold fm_new_Reader_7 fm_new_Program_8
  repeat rw [pf_let_eq]
  repeat (first | rw [fa_st_ne (by omega)] | rw [ls_nw (by omega)])
theorem ls_Writer (w : fa_W) {i j : Nat} (h : i < 37 ∨ 43 < i) : fm_new_Writer_37 w i j = w i j := by
  unfold fm_new_Writer_37
  repeat rw [pf_let_eq]
  repeat (first | rw [fa_st_ne (by omega)] | rw [ls_nw (by omega)])
theorem ls_Machine (w : fa_W) : (∀ i j, (i < 44 ∨ 54 < i) → fm_new_Machine_44 w i j = w i j) ∧ fm_new_Machine_44 w 45 1 = 7474 ∧ fm_new_Machine_44 w 44 5 = -1 := by
  obtain ⟨w', e, f, f5⟩ : ∃ w', fm_new_Machine_44 w = fr_refill 45 ((7474 : Nat) : Int) 0 w' ∧ (∀ i j, (i < 44 ∨ 54 < i) → w' i j = w i j) ∧ w' 44 5 = -1 := by
    unfold fm_new_Machine_44
    repeat rw [pf_let_eq]
    refine ⟨_, rfl, fun i j h => ?_, ?_⟩
    · repeat (first | rw [fa_st_ne (by omega)] | rw [ls_nw (by omega)])
    · repeat (first | rw [fa_st_eq] | rw [fa_st_ne (by omega)] | rw [ls_nw (by omega)])
  have r := pb_refill (r := 45) (m := 7474) (v := 0) (by decide) (by decide) w'
  rw [← e, show fa_rf 45 0 = 46 from rfl] at r
  exact ⟨fun i j h => by rw [r.2.2 i (by omega) (by omega)]; exact f i j h, r.1, by rw [r.2.2 44 (by omega) (by omega)]; exact f5⟩
theorem ls_Program_56 (w : fa_W) {i j : Nat} (h : i < 55 ∨ 117 < i) : fm_new_Program_56 w i j = w i j := by
  unfold fm_new_Program_56
  repeat rw [pf_let_eq]
  repeat (first | rw [fa_st_ne (by omega)] | rw [ls_nw (by omega)])
theorem ls_Scene_55 (w : fa_W) {i j : Nat} (h : i < 55 ∨ 117 < i) : fm_new_Scene_55 w i j = w i j := by
  unfold fm_new_Scene_55 fm_new_Typing_83 fm_new_Flow_100 fm_new_Groups_111
  repeat rw [pf_let_eq]
  repeat (first | rw [fa_st_ne (by omega)] | rw [ls_nw (by omega)] | rw [ls_Program_56 _ h])
theorem ls_Program_119 (w : fa_W) {i j : Nat} (h : i < 118) : fm_new_Program_119 w i j = w i j := by
  unfold fm_new_Program_119
  repeat rw [pf_let_eq]
  repeat (first | rw [fa_st_ne (by omega)] | rw [ls_nw (by omega)])
theorem ls_Scene_118 (w : fa_W) {i j : Nat} (h : i < 118) : fm_new_Scene_118 w i j = w i j := by
  unfold fm_new_Scene_118 fm_new_Typing_146 fm_new_Flow_163 fm_new_Groups_174
  repeat rw [pf_let_eq]
  repeat (first | rw [fa_st_ne (by omega)] | rw [ls_nw (by omega)] | rw [ls_Program_119 _ h])
/-- the world in which FlowApply's constructor makes its first program -/
def ls_w (w : fa_W) : fa_W := fa_st (fa_st (fm_new_Scene_118 (fa_nw 118 (fa_st (fm_new_Scene_55 (fa_nw 55 (fm_new_Machine_44 (fa_nw 44 (fm_new_Writer_37 (fa_nw 37 (fm_new_Reader_7 (fa_nw 7 (fa_nw 6 (fa_st (fa_nw 5 (fa_nw 4 (fa_st (fa_nw 3 (fa_nw 2 (fa_st (fa_nw 1 w) 1 1 0))) 3 1 0))) 5 1 0)))))))))) 0 6 0))) 0 7 1) 0 8 (-1)
theorem ls_face0 (w : fa_W) : fm_new_Face_0 w = (if ls_w w 0 6 = 0 then fa_let (fm_Program_makeDead 56 (ls_w w)) fun w22 => if w22 0 6 = 0 then fa_bd (fm_Scene_settle 55 w22) fun _ w25 => some w25 else none else none) := by
  unfold fm_new_Face_0 ls_w
  repeat rw [pf_let_eq]
theorem ls_w_low (w : fa_W) {i j : Nat} (h : 0 < i ∧ i < 7) : ls_w w i j = fa_nw 7 (fa_nw 6 (fa_st (fa_nw 5 (fa_nw 4 (fa_st (fa_nw 3 (fa_nw 2 (fa_st (fa_nw 1 w) 1 1 0))) 3 1 0))) 5 1 0)) i j := by
  unfold ls_w
  rw [fa_st_ne (by omega), fa_st_ne (by omega), ls_Scene_118 _ (by omega), ls_nw (by omega), fa_st_ne (by omega), ls_Scene_55 _ (by omega), ls_nw (by omega), (ls_Machine _).1 _ _ (by omega), ls_nw (by omega), ls_Writer _ (by omega), ls_nw (by omega), ls_Reader _ (by omega)]
theorem ls_w_at (w : fa_W) : ls_w w 0 6 = 0 ∧ ls_w w 0 7 = 1 ∧ ls_w w 0 8 = -1 ∧ ls_w w 1 1 = 0 ∧ ls_w w 3 1 = 0 ∧ ls_w w 45 1 = 7474 ∧ ls_w w 44 5 = -1 := by
  refine ⟨?_, ?_, ?_, ?_, ?_, ?_, ?_⟩
  · unfold ls_w
    rw [fa_st_ne (by omega), fa_st_ne (by omega), ls_Scene_118 _ (by omega), ls_nw (by omega), fa_st_eq]
  · unfold ls_w
    rw [fa_st_ne (by omega), fa_st_eq]
  · unfold ls_w
    rw [fa_st_eq]
  · rw [ls_w_low w (by omega)]
    repeat (first | rw [fa_st_eq] | rw [fa_st_ne (by omega)] | rw [ls_nw (by omega)])
  · rw [ls_w_low w (by omega)]
    repeat (first | rw [fa_st_eq] | rw [fa_st_ne (by omega)] | rw [ls_nw (by omega)])
  · unfold ls_w
    rw [fa_st_ne (by omega), fa_st_ne (by omega), ls_Scene_118 _ (by omega), ls_nw (by omega), fa_st_ne (by omega), ls_Scene_55 _ (by omega), ls_nw (by omega)]
    exact (ls_Machine _).2.1
  · unfold ls_w
    rw [fa_st_ne (by omega), fa_st_ne (by omega), ls_Scene_118 _ (by omega), ls_nw (by omega), fa_st_ne (by omega), ls_Scene_55 _ (by omega), ls_nw (by omega)]
    exact (ls_Machine _).2.2
/-! the first program -/
theorem ls_V : pn_V [] (pt_dead 0) 0 0 0 1 := ⟨Nat.zero_le _, Nat.zero_le _, by decide, Nat.zero_le _, Nat.zero_le _, trivial, trivial, (0, 0, 0, 0), rfl, rfl, rfl⟩
theorem ls_P : ∃ r, pv_P r [] (pt_dead 0) := ⟨(fun _ => pv_int, fun _ => pv_int, fun _ => pv_int, fun _ => pv_int), trivial, trivial⟩
theorem ls_dead (w : fa_W) : px_V 56 [] (pt_dead 0) 0 0 0 1 [] [0] (fm_Program_makeDead 56 w) ∧ ∀ i j, (i < 56 ∨ 76 < i) → fm_Program_makeDead 56 w i j = w i j := by
  obtain ⟨p1, p2, p3, p4, p5, p6, p7, p8, p9, p10, p11, p12, p13, p14⟩ := px_pcleara w
  obtain ⟨w1, hw1⟩ : ∃ x, x = fm_Program_clear 56 w := ⟨_, rfl⟩
  have E : fm_Program_makeDead 56 w = fa_let (fm_Program_clear 56 w) fun w2 => fa_l2 (fm_Program_add 56 ((4 : Nat) : Int) ((0 : Nat) : Int) (-1) (-1) (-1) (-1) w2) fun v4 w5 => fa_let (fa_st w5 56 16 v4) fun w6 => w6 := rfl
  rw [← hw1] at E p1 p2 p3 p4 p5 p6 p7 p8 p9 p10 p11 p12 p13 p14
  have hz : px_sza 0 w1 := ⟨p1 57 (by omega), p1 59 (by omega), p1 61 (by omega), p1 63 (by omega), p1 65 (by omega), p2, p3, p4, p5⟩
  obtain ⟨w2, a1, a2, a3, _, _, _, a4⟩ := px_padda (nd := 0) (K := 4) (v := 0) (st := 0) (h := -1) (a := -1) (b := -1) (c := -1) hz (by omega) (Or.inl ⟨pb_wr1, rfl⟩) (by omega) (fun q => absurd q (by decide)) (fun q => absurd q (by decide)) (fun q => absurd q (by decide))
  rw [pf_let_eq, a1, pf_l2_eq, pf_let_eq] at E
  have k : ∀ i j, i < 57 ∨ 72 < i → w2 i j = w1 i j := fun i j h => a4 i j (by unfold px_una; omega)
  have e : ∀ i j, i ≠ 56 → fm_Program_makeDead 56 w i j = w2 i j := fun i j h => by rw [E, fa_st_ne (by omega)]
  have e6 : ∀ j, j ≠ 16 → fm_Program_makeDead 56 w 56 j = w1 56 j := fun j h => by rw [E, fa_st_ne (by omega), k _ _ (by omega)]
  obtain ⟨z1, z2, z3, z4, z5, z6, z7, z8, z9⟩ := a3
  obtain ⟨n1, n2, n3, n4, n5, n6, n7⟩ := a2
  refine ⟨⟨⟨?_, ?_, ?_, ?_, ?_, ?_, ?_, ?_, ?_, ?_⟩, ⟨?_, ?_, ?_⟩, trivial, by decide, fun g => ?_, rfl, ⟨⟨?_, ?_, ?_, ?_, ?_, ?_, ?_⟩, ?_, trivial⟩, fun x hx => (by cases hx), by decide, rfl⟩, fun i j h => ?_⟩
  · rw [e _ _ (by omega)]; exact z1
  · rw [e _ _ (by omega)]; exact z2
  · rw [e _ _ (by omega)]; exact z3
  · rw [e _ _ (by omega)]; exact z4
  · rw [e _ _ (by omega)]; exact z5
  · rw [e _ _ (by omega)]; exact z6
  · rw [e _ _ (by omega)]; exact z7
  · rw [e _ _ (by omega)]; exact z8
  · rw [e _ _ (by omega), k _ _ (by omega)]; exact p1 73 (by omega)
  · rw [e _ _ (by omega)]; exact z9
  · rw [e6 _ (by omega)]; exact p6
  · rw [e6 _ (by omega)]; exact p7
  · rw [e6 _ (by omega)]; exact p8
  · rw [List.mem_singleton, List.length_nil]; omega
  · rw [e _ _ (by omega)]; exact n1
  · rw [e _ _ (by omega)]; exact n2
  · rw [e _ _ (by omega)]; exact n3
  · rw [e _ _ (by omega)]; exact n4
  · rw [e _ _ (by omega)]; exact n5
  · rw [e _ _ (by omega)]; exact n6
  · rw [e _ _ (by omega)]; exact n7
  · rw [if_neg (by rw [List.length_nil]; omega), E, fa_st_eq]; rfl
  · rw [e _ _ (by omega), k _ _ (by omega)]; exact p14 i j (by omega)
/-- FlowApply's constructor -/
theorem ls_face {fb : Nat → pt_T} {sb : pf_sT} (w : fa_W) (hG : pf_G [] (pt_dead 0) 0 0 0 fb sb) : ∃ w' mk, fm_new_Face_0 w = some w' ∧ px_SC 55 [] (pt_dead 0) 0 0 0 1 [] [0] fb sb mk w' ∧ w' 0 6 = 0 ∧ w' 0 7 = 1 ∧ w' 0 8 = -1 ∧ w' 1 1 = 0 ∧ w' 3 1 = 0 ∧ w' 45 1 = 7474 ∧ w' 44 5 = -1 := by
  have e := ls_face0 w
  obtain ⟨c6, c7, c8, c1, c3, c45, c44⟩ := ls_w_at w
  obtain ⟨w1, hw1⟩ : ∃ x, x = ls_w w := ⟨_, rfl⟩
  rw [← hw1] at e c6 c7 c8 c1 c3 c45 c44
  obtain ⟨d1, d2⟩ := ls_dead w1
  obtain ⟨w2, hw2⟩ : ∃ x, x = fm_Program_makeDead 56 w1 := ⟨_, rfl⟩
  rw [← hw2] at d1 d2
  rw [pf_let_eq, ← hw2, if_pos c6, if_pos ((d2 0 6 (by omega)).trans c6)] at e
  obtain ⟨b, w3, s1, s2, s3, s4⟩ := px_settle (sc := 55) (Or.inl rfl) ls_V hG d1
  cases b with
  | false => exact absurd ls_P (s3 rfl)
  | true =>
    obtain ⟨_, mk, hS⟩ := s2 rfl
    have f : ∀ i j, i < 56 → w3 i j = w1 i j := fun i j h => (s4 i j (by omega)).trans (d2 i j (by omega))
    rw [s1, pf_bd_eq] at e
    exact ⟨w3, mk, e, hS, (f _ _ (by omega)).trans c6, (f _ _ (by omega)).trans c7, (f _ _ (by omega)).trans c8, (f _ _ (by omega)).trans c1, (f _ _ (by omega)).trans c3, (f _ _ (by omega)).trans c45, (f _ _ (by omega)).trans c44⟩
