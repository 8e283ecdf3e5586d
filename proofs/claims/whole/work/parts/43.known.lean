def fa_flat : List Cond := flatC (Jvm.Cond.and given_1 narrow_1)
def fa_need : List Cond := fa_strI.flatMap (fun r => [.exactly (.string r.1 r.2.1) "java/lang/String", .eq (.field (.string r.1 r.2.1) "java/lang/String" "coder" "B") (.int 0), .arrayOf (.field (.string r.1 r.2.1) "java/lang/String" "value" "[B") .byte, .eq (.length (.field (.string r.1 r.2.1) "java/lang/String" "value" "[B")) (.int (Int32.ofNat (fa_lens.getD r.2.2.2 0)))] ++ (List.range (fa_lens.getD r.2.2.2 0)).map (fun j => .eq (.elem (.field (.string r.1 r.2.1) "java/lang/String" "value" "[B") (.int (Int32.ofNat j))) (.int ((fa_byts.getD r.2.2.2 []).getD j 0))))
theorem fa_need_ok : fa_need = ([74, 75, 76, 77, 78, 79, 80, 81, 82, 83, 84, 85, 86, 87, 88, 89, 90, 91, 191, 192, 193, 194, 195, 102, 103, 104, 105, 467, 468, 469, 470, 471, 456, 457, 458, 459, 460, 178, 179, 180, 181, 182, 461, 462, 463, 464, 465, 466, 122, 123, 124, 125, 126, 183, 184, 185, 186, 187, 188, 189, 190, 116, 117, 118, 119, 120, 121, 111, 112, 113, 114, 115, 92, 93, 94, 95, 96, 97, 98, 99, 100, 101, 106, 107, 108, 109, 110, 127, 128, 129, 130, 131, 132, 133, 134, 135, 136, 137, 138, 139, 140, 141, 142, 143, 144, 145, 146, 147, 148, 149, 150, 151, 152, 153, 154, 155, 156, 157, 158, 159, 160, 161, 162, 163, 164, 165, 166, 167, 168, 169, 170, 171, 172, 173, 174, 175, 176, 177, 196, 197, 198, 199, 200, 201, 202, 203, 204, 205, 206, 207, 208, 209, 210, 211, 212, 213, 214, 215, 216, 217, 218, 219, 220, 221, 222, 223, 224, 225, 226, 227, 228, 229, 230, 231, 232, 233, 234, 235, 236, 237, 238, 239, 240, 241, 242, 243, 244, 245, 266, 267, 268, 269, 270, 271, 272, 273, 274, 275, 276, 277, 278, 279, 280, 281, 282, 283, 284, 285, 286, 287, 288, 289, 290, 291, 292, 293, 294, 295, 246, 247, 248, 249, 250, 251, 252, 253, 254, 255, 256, 257, 258, 259, 260, 261, 262, 263, 264, 265, 296, 297, 298, 299, 300, 301, 302, 303, 304, 305, 306, 307, 308, 309, 310, 311, 312, 313, 314, 315, 316, 317, 318, 319, 320, 321, 322, 323, 324, 325, 326, 327, 328, 329, 330, 331, 332, 333, 334, 335, 336, 337, 338, 339, 340, 341, 342, 343, 344, 345, 346, 347, 348, 349, 350, 351, 352, 353, 354, 355, 356, 357, 358, 359, 360, 361, 362, 363, 364, 365, 366, 367, 368, 369, 370, 371, 372, 373, 374, 375, 376, 377, 378, 379, 380, 381, 382, 383, 384, 385, 386, 387, 388, 389, 390, 391, 392, 393, 394, 395, 396, 397, 398, 399, 400, 401, 402, 403, 404, 405, 406, 407, 408, 409, 410, 411, 412, 413, 414, 415, 431, 432, 433, 434, 435, 436, 437, 438, 439, 440, 441, 442, 443, 444, 445, 446, 447, 448, 449, 450, 451, 452, 453, 454, 455, 416, 417, 418, 419, 420, 421, 422, 423, 424, 425, 426, 427, 428, 429, 430, 472, 473, 474, 475, 476, 477, 478, 479, 480, 481, 482, 483, 484, 485, 486, 487] : List Nat).filterMap (fun i => fa_flat[i]?) := by decide +kernel
theorem fa_need_in : ∀ c ∈ fa_need, c ∈ fa_flat := fun c h => by
  rw [fa_need_ok] at h
  obtain ⟨i, -, hi⟩ := List.mem_filterMap.mp h
  exact List.mem_of_getElem? hi
def fa_nstat : List Cond := fa_stat.map (fun z => .eq (.static "FlowApplyModel" z.1 "I") (.int z.2))
theorem fa_nstat_ok : fa_nstat = ([11, 12, 13, 14, 15, 16, 17] : List Nat).filterMap (fun i => fa_flat[i]?) := by decide +kernel
theorem fa_nstat_in : ∀ c ∈ fa_nstat, c ∈ fa_flat := fun c h => by
  rw [fa_nstat_ok] at h
  obtain ⟨i, -, hi⟩ := List.mem_filterMap.mp h
  exact List.mem_of_getElem? hi
def fa_nnc : List Cond := fa_ncL.map (fun q => .not (.castable q.1 q.2))
theorem fa_nnc_ok : fa_nnc = ([18, 32, 46, 60, 26, 40, 54, 68, 27, 41, 55, 69, 23, 37, 51, 65, 21, 35, 49, 63, 20, 34, 48, 62, 19, 33, 47, 61, 24, 38, 52, 66, 25, 39, 53, 67, 22, 36, 50, 64, 28, 42, 56, 70, 43, 57, 71, 29, 58, 72, 30, 44, 73, 31, 45, 59] : List Nat).filterMap (fun i => fa_flat[i]?) := by decide +kernel
theorem fa_nnc_in : ∀ c ∈ fa_nnc, c ∈ fa_flat := fun c h => by
  rw [fa_nnc_ok] at h
  obtain ⟨i, -, hi⟩ := List.mem_filterMap.mp h
  exact List.mem_of_getElem? hi
theorem fa_f_cs : (.eq (.static "java/lang/String" "COMPACT_STRINGS" "Z") (.int 1) : Cond) ∈ fa_flat := List.mem_of_getElem? (i := 4) (by decide +kernel)
theorem fa_f_sf : (.isRef (.static "jdk/internal/util/Preconditions" "SIOOBE_FORMATTER" "Ljava/util/function/BiFunction;") : Cond) ∈ fa_flat := List.mem_of_getElem? (i := 5) (by decide +kernel)
theorem fa_f_us : (.isRef (.static Bundle.tN "UNASSIGNED_STACK" Bundle.steD) : Cond) ∈ fa_flat := List.mem_of_getElem? (i := 9) (by decide +kernel)
theorem fa_f_ss : (.isRef (.static Bundle.tN "SUPPRESSED_SENTINEL" Bundle.listD) : Cond) ∈ fa_flat := List.mem_of_getElem? (i := 10) (by decide +kernel)
set_option maxRecDepth 100000 in
theorem fa_lsm : ∀ z ∈ fa_stat, Cond.laysStatic "FlowApplyModel" z.1 "I" ∈ tables_1 := (List.forall_mem_cons.mpr ⟨(tb_7 _ (List.mem_of_getElem? (i := 72) rfl)), (List.forall_mem_cons.mpr ⟨(tb_7 _ (List.mem_of_getElem? (i := 97) rfl)), (List.forall_mem_cons.mpr ⟨(tb_7 _ (List.mem_of_getElem? (i := 99) rfl)), (List.forall_mem_cons.mpr ⟨(tb_7 _ (List.mem_of_getElem? (i := 101) rfl)), (List.forall_mem_cons.mpr ⟨(tb_7 _ (List.mem_of_getElem? (i := 103) rfl)), (List.forall_mem_cons.mpr ⟨(tb_7 _ (List.mem_of_getElem? (i := 105) rfl)), (List.forall_mem_cons.mpr ⟨(tb_7 _ (List.mem_of_getElem? (i := 107) rfl)), fun _ h => absurd h List.not_mem_nil⟩)⟩)⟩)⟩)⟩)⟩)⟩)
set_option maxRecDepth 100000 in
theorem fa_l_cs : Cond.laysStatic "java/lang/String" "COMPACT_STRINGS" "Z" ∈ tables_1 := (tb_4 _ (List.mem_of_getElem? (i := 56) rfl))
set_option maxRecDepth 100000 in
theorem fa_l_sf : Cond.laysStatic "jdk/internal/util/Preconditions" "SIOOBE_FORMATTER" "Ljava/util/function/BiFunction;" ∈ tables_1 := (tb_4 _ (List.mem_of_getElem? (i := 72) rfl))
set_option maxRecDepth 100000 in
theorem fa_l_us : Cond.laysStatic "java/lang/Throwable" "UNASSIGNED_STACK" "[Ljava/lang/StackTraceElement;" ∈ tables_1 := (tb_5 _ (List.mem_of_getElem? (i := 150) rfl))
set_option maxRecDepth 100000 in
theorem fa_l_ss : Cond.laysStatic "java/lang/Throwable" "SUPPRESSED_SENTINEL" "Ljava/util/List;" ∈ tables_1 := (tb_5 _ (List.mem_of_getElem? (i := 152) rfl))
set_option maxRecDepth 100000 in
theorem fa_sr : ∀ r ∈ fa_strI, Cond.stringRef r.1 r.2.1 r.2.2.1 ∈ tables_1 := (List.forall_mem_cons.mpr ⟨(tb_4 _ (List.mem_of_getElem? (i := 42) rfl)), (List.forall_mem_cons.mpr ⟨(tb_4 _ (List.mem_of_getElem? (i := 100) rfl)), (List.forall_mem_cons.mpr ⟨(tb_4 _ (List.mem_of_getElem? (i := 101) rfl)), (List.forall_mem_cons.mpr ⟨(tb_4 _ (List.mem_of_getElem? (i := 171) rfl)), (List.forall_mem_cons.mpr ⟨(tb_4 _ (List.mem_of_getElem? (i := 128) rfl)), (List.forall_mem_cons.mpr ⟨(tb_7 _ (List.mem_of_getElem? (i := 2) rfl)), (List.forall_mem_cons.mpr ⟨(tb_7 _ (List.mem_of_getElem? (i := 0) rfl)), (List.forall_mem_cons.mpr ⟨(tb_4 _ (List.mem_of_getElem? (i := 159) rfl)), (List.forall_mem_cons.mpr ⟨(tb_7 _ (List.mem_of_getElem? (i := 1) rfl)), (List.forall_mem_cons.mpr ⟨(tb_4 _ (List.mem_of_getElem? (i := 136) rfl)), (List.forall_mem_cons.mpr ⟨(tb_4 _ (List.mem_of_getElem? (i := 165) rfl)), (List.forall_mem_cons.mpr ⟨(tb_4 _ (List.mem_of_getElem? (i := 135) rfl)), (List.forall_mem_cons.mpr ⟨(tb_4 _ (List.mem_of_getElem? (i := 130) rfl)), (List.forall_mem_cons.mpr ⟨(tb_4 _ (List.mem_of_getElem? (i := 120) rfl)), (List.forall_mem_cons.mpr ⟨(tb_4 _ (List.mem_of_getElem? (i := 121) rfl)), (List.forall_mem_cons.mpr ⟨(tb_4 _ (List.mem_of_getElem? (i := 129) rfl)), (List.forall_mem_cons.mpr ⟨(tb_4 _ (List.mem_of_getElem? (i := 140) rfl)), (List.forall_mem_cons.mpr ⟨(tb_4 _ (List.mem_of_getElem? (i := 141) rfl)), (List.forall_mem_cons.mpr ⟨(tb_4 _ (List.mem_of_getElem? (i := 142) rfl)), (List.forall_mem_cons.mpr ⟨(tb_4 _ (List.mem_of_getElem? (i := 147) rfl)), (List.forall_mem_cons.mpr ⟨(tb_4 _ (List.mem_of_getElem? (i := 148) rfl)), (List.forall_mem_cons.mpr ⟨(tb_4 _ (List.mem_of_getElem? (i := 158) rfl)), (List.forall_mem_cons.mpr ⟨(tb_5 _ (List.mem_of_getElem? (i := 165) rfl)), (List.forall_mem_cons.mpr ⟨(tb_5 _ (List.mem_of_getElem? (i := 204) rfl)), (List.forall_mem_cons.mpr ⟨(tb_6 _ (List.mem_of_getElem? (i := 22) rfl)), (List.forall_mem_cons.mpr ⟨(tb_5 _ (List.mem_of_getElem? (i := 233) rfl)), (List.forall_mem_cons.mpr ⟨(tb_6 _ (List.mem_of_getElem? (i := 36) rfl)), (List.forall_mem_cons.mpr ⟨(tb_6 _ (List.mem_of_getElem? (i := 63) rfl)), (List.forall_mem_cons.mpr ⟨(tb_6 _ (List.mem_of_getElem? (i := 70) rfl)), (List.forall_mem_cons.mpr ⟨(tb_6 _ (List.mem_of_getElem? (i := 78) rfl)), (List.forall_mem_cons.mpr ⟨(tb_6 _ (List.mem_of_getElem? (i := 83) rfl)), (List.forall_mem_cons.mpr ⟨(tb_6 _ (List.mem_of_getElem? (i := 107) rfl)), (List.forall_mem_cons.mpr ⟨(tb_6 _ (List.mem_of_getElem? (i := 121) rfl)), (List.forall_mem_cons.mpr ⟨(tb_6 _ (List.mem_of_getElem? (i := 120) rfl)), (List.forall_mem_cons.mpr ⟨(tb_7 _ (List.mem_of_getElem? (i := 10) rfl)), fun _ h => absurd h List.not_mem_nil⟩)⟩)⟩)⟩)⟩)⟩)⟩)⟩)⟩)⟩)⟩)⟩)⟩)⟩)⟩)⟩)⟩)⟩)⟩)⟩)⟩)⟩)⟩)⟩)⟩)⟩)⟩)⟩)⟩)⟩)⟩)⟩)⟩)⟩)⟩)
theorem fa_ins : ∀ (c : Nat) (q : vw_C), fa_cls[c]? = some q → Cond.instantiable q.1 q.2.2 ∈ fa_wG ∧ (∀ w ∈ u_ws q.1 q.2.1 q.2.2, w ∈ fa_wG) := fun c q h => match c, h with
  | 0, h => by cases h; exact ⟨wd_27, ck_0.2.2.2.1⟩
  | 1, h => by cases h; exact ⟨wd_325, ck_1.2.2.2.1⟩
  | 2, h => by cases h; exact ⟨wd_367, ck_2.2.2.2.1⟩
  | 3, h => by cases h; exact ⟨wd_216, ck_3.2.2.2.1⟩
  | 4, h => by cases h; exact ⟨wd_58, ck_4.2.2.2.1⟩
  | 5, h => by cases h; exact ⟨wd_52, ck_5.2.2.2.1⟩
  | 6, h => by cases h; exact ⟨wd_35, ck_6.2.2.2.1⟩
  | 7, h => by cases h; exact ⟨wd_278, ck_7.2.2.2.1⟩
  | 8, h => by cases h; exact ⟨wd_286, ck_8.2.2.2.1⟩
  | 9, h => by cases h; exact ⟨wd_192, ck_9.2.2.2.1⟩
  | 10, h => by cases h; exact ⟨wd_1479, ck_10.2.2.2.1⟩
  | n + 11, h => by simp [fa_cls] at h
theorem fa_arw : ∀ (k : Nat) (q : FieldType), ([FieldType.int, .byte, .boolean, .long] : List FieldType)[k]? = some q → Cond.arrayClass q ∈ fa_wG := fun k q h => match k, h with
  | 0, h => by cases h; exact wd_50
  | 1, h => by cases h; exact wd_892
  | 2, h => by cases h; exact wd_2024
  | 3, h => by cases h; exact wd_2236
  | n + 4, h => by simp at h
set_option maxHeartbeats 4000000 in
set_option maxRecDepth 100000 in
theorem fa_known {p : Program} {s : State} {m : MethodId} {meth : Method} {c : Code} {sb L : Nat} {xs : Nat → Int32} (C0 : lw_At p s m meth c sb L xs) : ∃ (D : va_G) (aC : Nat → ClassId), fa_GK D s.heap.size aC s := by
  obtain ⟨hx, hb, hr, hml, hown, hts, hX, hbl, hlocks, hgv⟩ := id C0
  have hG : ∀ w ∈ fa_wG, w.before #[Value.ref sb] s = true := fun w h => hts w (List.mem_filter.mp h).1
  have hT : ∀ w ∈ tables_1, w.before #[Value.ref sb] s = true := fun w h => hts w (List.mem_append_right _ h)
  have hF : ∀ w ∈ fa_flat, w.before #[Value.ref sb] s = true := flat_of_before _ hgv
  have hA : ∀ a : Nat, a < s.heap.size → ¬ s.heap.size ≤ a := fun a h => Nat.not_le.mpr h
  have k1 : ∀ k : Nat, ∃ (cC : ClassId) (iS : Nat → Nat), ∀ q : vw_C, fa_cls[k]? = some q → u_Kn s q.1 q.2.1 q.2.2 cC iS := by
    intro k
    cases hk : fa_cls[k]? with
    | none => exact ⟨0, fun _ => 0, fun q h => by cases h⟩
    | some q =>
      obtain ⟨h1, h2⟩ := fa_ins k q hk
      obtain ⟨cC, iS, h3⟩ := u_known (n := q.2.2) hG h2 (hG _ h1)
      exact ⟨cC, iS, fun q2 h => by cases h; exact h3⟩
  have k2 : ∀ k : Nat, ∃ cA : ClassId, ∀ q : FieldType, ([FieldType.int, .byte, .boolean, .long] : List FieldType)[k]? = some q → ArrOfT s cA q ∧ s.vm.findClass ("[" ++ q.toString) = some cA := by
    intro k
    cases hk : ([FieldType.int, .byte, .boolean, .long] : List FieldType)[k]? with
    | none => exact ⟨0, fun q h => by cases h⟩
    | some q =>
      obtain ⟨cA, kA, comp, h1, h2, h3⟩ := Cond.arrayClass_spec (args := #[Value.ref sb]) (first := s) (o := none) (s := s) (idx := []) (hG _ (fa_arw k q hk))
      refine ⟨cA, fun q2 h => ?_⟩
      cases h
      refine ⟨fun n z => ⟨fun k9 h9 => ?_, kA, h2, comp, h3⟩, h1⟩
      rcases k, hk with ⟨_ | _ | _ | _ | k, hk⟩ <;> (cases hk <;> cases h9)
  have k3 : ∀ i : Nat, ∃ q : Nat × Nat, ∀ (own : String) (k : Nat) (t : String), (own, k, t, i) ∈ fa_strI → (Term.string own k).eval #[Value.ref sb] s none [] s = some (.ref q.1) ∧ va_O "java/lang/String" q.1 (fun q => s.heap.size ≤ q) s s.heap ∧ va_OF "java/lang/String" "coder" "B" (.int 0) q.1 (fun q => s.heap.size ≤ q) s s.heap ∧ va_OF "java/lang/String" "value" "[B" (.ref q.2) q.1 (fun q => s.heap.size ≤ q) s s.heap ∧ va_T .byte q.2 (fa_lens.getD i 0) (fun j => .int ((fa_byts.getD i []).getD j 0)) (fun q => s.heap.size ≤ q) s s.heap := by
    intro i
    by_cases hi : ∃ (own : String) (k : Nat) (t : String), (own, k, t, i) ∈ fa_strI
    · obtain ⟨own, k, t, hm⟩ := hi
      have hn : ∀ w ∈ ([.exactly (.string own k) "java/lang/String", .eq (.field (.string own k) "java/lang/String" "coder" "B") (.int 0), .arrayOf (.field (.string own k) "java/lang/String" "value" "[B") .byte, .eq (.length (.field (.string own k) "java/lang/String" "value" "[B")) (.int (Int32.ofNat (fa_lens.getD i 0)))] ++ (List.range (fa_lens.getD i 0)).map (fun j => .eq (.elem (.field (.string own k) "java/lang/String" "value" "[B") (.int (Int32.ofNat j))) (.int ((fa_byts.getD i []).getD j 0))) : List Cond), w.before #[Value.ref sb] s = true := fun w hw => hF _ (fa_need_in _ (List.mem_flatMap.mpr ⟨_, hm, hw⟩))
      obtain ⟨a, c9, cA, kA, q1, q2, q3, q4, q5, q6, -⟩ := Cond.exactly_spec (args := #[Value.ref sb]) (first := s) (o := none) (s := s) (idx := []) (t := .string own k) (cls := "java/lang/String") (hn _ (by simp))
      have hl31 : fa_lens.getD i 0 < 2 ^ 31 := by
        have h9 : (fa_lens.all fun n => decide (n < 2 ^ 31)) = true := by decide +kernel
        rw [List.getD_eq_getElem?_getD]
        cases h8 : fa_lens[i]? with
        | none => decide
        | some n => exact of_decide_eq_true (List.all_eq_true.mp h9 n (List.mem_of_getElem? h8))
      obtain ⟨t9, ht, hT9⟩ := va_Tof (f := fun j => .int ((fa_byts.getD i []).getD j 0)) (A := fun q => s.heap.size ≤ q) hl31 (hn (.arrayOf (.field (.string own k) "java/lang/String" "value" "[B") .byte) (by simp)) (va_eqt (hn _ (by simp))) (fun j hj => va_eqt (hn _ (List.mem_append_right _ (List.mem_map.mpr ⟨j, List.mem_range.mpr hj, rfl⟩)))) hA
      have hU : ∀ r1 ∈ fa_strI, ∀ r2 ∈ fa_strI, r1.2.2.2 = r2.2.2.2 → r1 = r2 := by
        have h9 : (fa_strI.all fun r1 => fa_strI.all fun r2 => decide (r1.2.2.2 = r2.2.2.2 → r1 = r2)) = true := by decide +kernel
        exact fun r1 h1 r2 h2 => of_decide_eq_true (List.all_eq_true.mp (List.all_eq_true.mp h9 r1 h1) r2 h2)
      refine ⟨(a, t9), fun own2 k2 t2 hm2 => ?_⟩
      cases hU _ hm _ hm2 rfl
      exact ⟨q1, ⟨cA, q3, q5, by rw [q6]; exact q2, hA a (Array.getElem?_eq_some_iff.mp q3).1⟩, vk_OFof q1 (va_eqt (hn _ (by simp))) hA, vk_OFof q1 ht hA, hT9⟩
    · exact ⟨(0, 0), fun own k t hm => absurd ⟨own, k, t, hm⟩ hi⟩
  obtain ⟨dC, k1⟩ := Classical.axiomOfChoice k1
  obtain ⟨dI, k1⟩ := Classical.axiomOfChoice k1
  obtain ⟨aC, k2⟩ := Classical.axiomOfChoice k2
  obtain ⟨ad, k3⟩ := Classical.axiomOfChoice k3
  refine ⟨(dC, fun k => if k = 100 then (fun i => (ad i).1) else if k = 101 then (fun i => (ad i).2) else dI k), aC, ⟨fun k q hq => ?_, fun k q hk => ?_⟩, fun w hw => ?_, ⟨fun z hz => ?_, fun i hi => ?_, ?_, ?_, ?_, ?_⟩, fun r hr => ?_, fun q hq => ?_⟩
  · have hlt : k < 11 := (List.getElem?_eq_some_iff.mp hq).1
    have e : (if k = 100 then (fun i => (ad i).1) else if k = 101 then (fun i => (ad i).2) else dI k) = dI k := by rw [if_neg (by omega), if_neg (by omega)]
    show u_Kn s q.1 q.2.1 q.2.2 (dC k) (if k = 100 then (fun i => (ad i).1) else if k = 101 then (fun i => (ad i).2) else dI k)
    rw [e]
    exact k1 k q hq
  · match k, hk with
    | 0, hk => cases hk; exact k2 0 _ rfl
    | 1, hk => cases hk; exact k2 1 _ rfl
    | 2, hk => cases hk; exact k2 2 _ rfl
    | 3, hk => cases hk; exact k2 3 _ rfl
    | k + 4, hk => simp [fa_tys] at hk
  · obtain ⟨i, -, hi⟩ := List.mem_filterMap.mp hw
    exact va_Nw.of (List.all_eq_true.mp (show fa_nest.all (fun w => w.onTables) = true by decide +kernel) w hw) (hT w (List.mem_of_getElem? hi))
  · exact va_Zof (hT _ (fa_lsm z hz)) (hG _ wd_13) (va_eqt (hF _ (fa_nstat_in _ (List.mem_map.mpr ⟨z, hz, rfl⟩)))) hA
  · have hm : ∃ (own : String) (k : Nat) (t : String), (own, k, t, i) ∈ fa_strI := by
      have h9 : (List.range fa_lens.length).all (fun i => fa_strI.any fun r => r.2.2.2 == i) = true := by decide +kernel
      obtain ⟨r, hr1, hr2⟩ := List.any_eq_true.mp (List.all_eq_true.mp h9 i (List.mem_range.mpr hi))
      have e : r.2.2.2 = i := by simpa using hr2
      exact ⟨r.1, r.2.1, r.2.2.1, by rw [← e]; exact hr1⟩
    obtain ⟨own, k, t, hm⟩ := hm
    exact (k3 i own k t hm).2
  · exact va_Zof (hT _ fa_l_cs) (hG _ wd_22) (va_eqt (hF _ fa_f_cs)) hA
  · exact va_Zqof (hT _ fa_l_sf) (hG _ wd_24) (hF _ fa_f_sf) hA
  · exact vx_Zqof (hT _ fa_l_us) (hG _ wd_14) (hF _ fa_f_us) hA
  · exact vx_Zqof (hT _ fa_l_ss) (hG _ wd_14) (hF _ fa_f_ss) hA
  · exact vk_R.of (hT _ (fa_sr r hr)) (k3 r.2.2.2 r.1 r.2.1 r.2.2.1 hr).1
  · exact va_Nc.of (hF _ (fa_nnc_in _ (List.mem_map.mpr ⟨q, hq, rfl⟩)))
