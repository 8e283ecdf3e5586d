def fm_Law (L : Nat) (xi : Nat → Int) : Option Int :=
  fa_let (fa_nw 0 (fun _ _ => 0)) fun w1 =>
  (fm_new_Face_0 w1).bind fun w2 =>
  fa_let (fa_nw 181 w2) fun w3 =>
  (fm_new_Mod_181 w3).bind fun w4 =>
  fa_let (fa_nw 237 w4) fun w5 =>
  fm_Law_l L xi 600 0 w5
theorem fa_start {p : Program} {e : Env} {s : State} {m : MethodId} {below : List Frame} {meth : Method} {c : Code} {l : Launch} {sb L : Nat} {xi : Nat → Int} {D : va_G} {aC : Nat → ClassId} (hfl : l.stackTraces = false) (C0 : lw_At p s m meth c sb L (fun j => fa_I (xi j))) (X : fa_GX p s m #[Value.ref sb] meth c code 7 ret R_law D s.heap.size aC) (hM : fm_Law L xi = some 1) : fa_GJ p l e room_1 s m #[Value.ref sb] below meth c 0 0 (lw_Z below #[Value.ref sb] s) D s.heap.size aC s.heap 0 0 7 (fun _ _ => 0) 0 [(0, .ref sb)] [] := by
  unfold fm_Law at hM
  refine g_new X (N1 := 1) (c1 := 1) (s1 := 9) (by omega) ck_0 (by decide +kernel) (by decide +kernel) (by decide +kernel) wd_26 wd_27 wd_1 rfl rfl rfl (Nat.le_of_ble_eq_true rfl) (Nat.le_of_ble_eq_true rfl) d_Law_law_0 (fun w1 ew1 => ?_)
  have hM := fa_let_to hM ew1
  refine g_dup X rfl d_Law_law_3 ?_
  obtain ⟨w2, e2, hM⟩ := fa_ob hM
  refine l_callN X (c1 := 181) (s1 := 36243) (by omega) mi_Face_init (n_Face_0 w1 w2 e2) wd_28 rfl (Nat.le_of_ble_eq_true rfl) (st := [.ref (s.heap.size + 0)]) (Nat.le_of_ble_eq_true rfl) rfl d_Law_law_4 rfl rfl (Nat.le_of_ble_eq_true rfl) (Nat.le_of_ble_eq_true rfl) ?_
  refine g_astore_n X [(1, .ref (s.heap.size + 0)), (0, .ref sb)] d_Law_law_7 (by decide) rfl ?_
  refine g_new X (N1 := 182) (c1 := 182) (s1 := 36337) (by omega) ck_10 (by decide +kernel) (by decide +kernel) (by decide +kernel) wd_1478 wd_1479 wd_13 rfl rfl rfl (Nat.le_of_ble_eq_true rfl) (Nat.le_of_ble_eq_true rfl) d_Law_law_8 (fun w3 ew3 => ?_)
  have hM := fa_let_to hM ew3
  refine g_dup X rfl d_Law_law_11 ?_
  obtain ⟨w4, e4, hM⟩ := fa_ob hM
  refine l_callN X (c1 := 237) (s1 := 376542) (by omega) mi_Mod_init (n_Mod_181 w3 w4 e4) wd_1480 rfl (Nat.le_of_ble_eq_true rfl) (st := [.ref (s.heap.size + 181)]) (Nat.le_of_ble_eq_true rfl) rfl d_Law_law_12 rfl rfl (Nat.le_of_ble_eq_true rfl) (Nat.le_of_ble_eq_true rfl) ?_
  refine g_astore_n X [(2, .ref (s.heap.size + 181)), (1, .ref (s.heap.size + 0)), (0, .ref sb)] d_Law_law_15 (by decide) rfl ?_
  refine g_iconst X d_Law_law_16 ?_
  refine g_newa_long X (N1 := 238) (c1 := 238) (s1 := 376543) (by omega) fs_237 (by decide +kernel) wd_2236 (by decide +kernel) rfl rfl rfl (Nat.le_of_ble_eq_true rfl) (Nat.le_of_ble_eq_true rfl) d_Law_law_17 (fun w5 ew5 => ?_)
  have hM := fa_let_to hM ew5
  refine g_astore_n X [(3, .ref (s.heap.size + 237)), (2, .ref (s.heap.size + 181)), (1, .ref (s.heap.size + 0)), (0, .ref sb)] d_Law_law_19 (by decide) rfl ?_
  refine g_iconst X d_Law_law_20 ?_
  refine g_istorec X [(4, .int (fa_I 0)), (3, .ref (s.heap.size + 237)), (2, .ref (s.heap.size + 181)), (1, .ref (s.heap.size + 0)), (0, .ref sb)] d_Law_law_21 (by decide) rfl ?_
  exact g_lv [4, 3, 2, 1, 0] rfl (c_Law_l C0 X (Nat.le_refl 238) (by decide) hfl 600 0 _ 238 376543 (by omega) (by omega) hM)
