def fa_unL : List (Nat × Nat) := [(1, 0), (0, 0), (3, 0), (0, 1), (5, 0), (0, 2), (9, 0), (8, 0), (11, 0), (8, 1), (13, 0), (8, 2), (15, 0), (8, 3), (17, 0), (8, 4), (19, 0), (8, 5), (21, 0), (8, 6), (23, 0), (8, 7), (25, 0), (8, 8), (27, 0), (8, 9), (29, 0), (8, 10), (31, 0), (8, 11), (33, 0), (8, 12), (7, 0), (35, 0), (7, 2), (7, 1), (0, 3), (38, 0), (37, 1), (40, 0), (37, 2), (42, 0), (37, 3), (37, 0), (0, 4), (45, 0), (44, 0), (47, 0), (44, 1), (49, 0), (44, 2), (51, 0), (44, 3), (53, 0), (44, 4), (0, 5), (57, 0), (56, 0), (59, 0), (56, 1), (61, 0), (56, 2), (63, 0), (56, 3), (65, 0), (56, 4), (67, 0), (56, 5), (69, 0), (56, 6), (71, 0), (56, 7), (73, 0), (56, 8), (75, 0), (56, 9), (77, 0), (56, 10), (79, 0), (56, 11), (81, 0), (56, 12), (55, 0), (84, 0), (83, 0), (86, 0), (83, 1), (88, 0), (83, 2), (90, 0), (83, 3), (92, 0), (83, 4), (94, 0), (83, 5), (96, 0), (83, 6), (98, 0), (83, 7), (55, 1), (101, 0), (100, 0), (103, 0), (100, 1), (105, 0), (100, 2), (107, 0), (100, 3), (109, 0), (100, 4), (55, 2), (112, 0), (111, 0), (114, 0), (111, 1), (116, 0), (111, 2), (55, 3), (0, 6), (120, 0), (119, 0), (122, 0), (119, 1), (124, 0), (119, 2), (126, 0), (119, 3), (128, 0), (119, 4), (130, 0), (119, 5), (132, 0), (119, 6), (134, 0), (119, 7), (136, 0), (119, 8), (138, 0), (119, 9), (140, 0), (119, 10), (142, 0), (119, 11), (144, 0), (119, 12), (118, 0), (147, 0), (146, 0), (149, 0), (146, 1), (151, 0), (146, 2), (153, 0), (146, 3), (155, 0), (146, 4), (157, 0), (146, 5), (159, 0), (146, 6), (161, 0), (146, 7), (118, 1), (164, 0), (163, 0), (166, 0), (163, 1), (168, 0), (163, 2), (170, 0), (163, 3), (172, 0), (163, 4), (118, 2), (175, 0), (174, 0), (177, 0), (174, 1), (179, 0), (174, 2), (118, 3), (0, 7), (181, 1), (181, 3), (181, 4), (181, 5), (181, 6), (181, 7), (181, 8), (181, 9), (181, 10), (181, 11), (181, 12), (181, 13), (181, 14), (181, 15), (181, 22), (181, 23), (181, 32), (181, 36), (181, 37), (181, 38), (181, 39), (181, 40), (181, 41), (181, 42), (181, 45), (181, 46), (181, 47), (181, 48), (181, 49), (181, 50), (181, 51), (181, 56), (181, 57), (181, 58), (181, 59), (181, 60), (181, 61), (181, 62), (181, 63), (181, 65), (181, 66), (181, 67), (181, 71), (181, 73), (181, 75), (181, 76), (181, 77), (181, 78), (181, 79), (181, 80), (181, 81), (181, 82), (181, 83), (181, 84), (181, 85)]
section FaCtor
variable {p : Program} {l : Launch} {e : Env} {R : Room} {s : State} {m : MethodId} {args : Array Value} {below : List Frame} {meth : Method} {c : Code} {cells slots : Nat} {Q : State → Prop}
variable {D : va_G} {b : Nat} {aC : Nat → ClassId} {H0 : Heap} {N T N1 c1 s1 : Nat} {cc : ByteArray} {nL : Nat} {ret : Option FieldType} {own : String} {w w1 : fa_W} {pc : Nat} {lv : List (Nat × Value)} {st : List Value}
theorem fa_ws_succ (b : Nat) (aC : Nat → ClassId) (N T : Nat) (w : fa_W) : fa_ws b aC (N + 1) T w = fa_ws b aC N T w ++ [(b + N, fa_ent b aC T w N)] := by
  unfold fa_ws
  rw [List.range_succ, List.map_append]
  rfl
theorem fa_last {q : Nat} {e1 : va_E} : (fa_ws b aC N T w ++ [(q, e1)])[N]? = some (q, e1) := by
  rw [List.getElem?_append_right (by rw [fa_ws_len]; exact Nat.le_refl _), fa_ws_len]
  simp
theorem fa_q {H : Heap} {q k : Nat} {e1 : va_E} {locs : List Loc} (hP : fa_GS D b aC H0 N T w H) {U : State} (Y : Stand p l e R s m args below meth c U locs (cells + 1) k) (hsz : s.heap.size + cells = b + N) (hD : va_D (fun q => b ≤ q) (fa_ws b aC N T w ++ [(q, e1)])) (hl : q < U.heap.size) : q = b + N := by
  have h1 := Y.same.2.2.1
  have h1 : U.heap.size ≤ s.heap.size + (cells + 1) := h1
  have h2 : b ≤ q := hD.2 N (q, e1) fa_last
  rcases Nat.lt_or_ge q (b + N) with h | h
  · exfalso
    obtain ⟨o, rfl⟩ : ∃ o, q = b + o := ⟨q - b, by omega⟩
    have ho : o < N := by omega
    have := hD.1 o N (b + o, fa_ent b aC T w o) (b + o, e1) (by rw [List.getElem?_append_left (by rw [fa_ws_len]; exact ho)]; exact fa_ws_get ho) (by rw [List.getElem?_append_right (by rw [fa_ws_len]; exact Nat.le_refl _), fa_ws_len]; simp) rfl
    omega
  · omega
theorem g_new0 (X : fa_GX p s m args meth c cc nL ret own D b aC) (hsz : s.heap.size + cells = b + N) {ci n : Nat} {C : String} {F : u_T} {ty : Nat → FieldType} (ck : fa_CK ci C F n ty) (ho : (fa_sh N).1 = ci) (hz : ∀ k, w N k = 0) (htm : ∀ k, k < n → fa_fk ci k = 1 ∨ fa_fk ci k = 2 → T ≤ fa_tm N k) (hdf : ∀ k, k < n → defaultValue (ty k) = if fa_fk ci k = 1 ∨ fa_fk ci k = 2 then .null else .int 0) {idx : Nat} (hcl : Cond.classLink own idx C ∈ fa_wG) (hins : Cond.instantiable C n ∈ fa_wG) (hini : Cond.initialized C ∈ fa_wG) (hc1 : cells + 1 = c1) (hs1 : slots + n = s1) (hN1 : N + 1 = N1) (hcells : c1 ≤ R.cells) (hslots : s1 ≤ R.slots) (hd : decode cc pc = .ok (.new idx, 3)) (k : fa_GJ p l e R s m args below meth c c1 s1 Q D b aC H0 N1 T nL w (pc + 3) lv (.ref (b + N) :: st)) : fa_GJ p l e R s m args below meth c cells slots Q D b aC H0 N T nL w pc lv st := fun H locs ls hP hS hl => by
  subst hc1; subst hs1; subst hN1
  refine va_new X.1.1 X.1.2.1 X.1.2.2.2.2 ck.2.2.2.1 ty ck.2.2.2.2.1 X.1.2.2.2.1 (X.1.2.2.2.2 _ hcl) (X.1.2.2.2.2 _ hins) (X.1.2.2.2.2 _ hini) X.2.2.2.1.1 hP.1 (fa_D b aC N T w) hS (fun q h => Nat.le_trans X.2.2.2.2 h) ck.2.2.1 (fs := fa_fs ci b T w N) (fun j hj => ?_) hcells hslots hd (fun q H1 hP1 hD1 hS1 => ?_)
  · unfold vp_V
    rw [List.getD_eq_getElem?_getD, fa_fs_get (by rw [ck.2.1]; exact hj), hdf j hj]
    show _ = fa_fv ci b T w N j
    have h0 := hz j
    unfold fa_fv
    have ht := htm j hj
    generalize fa_fk ci j = f at ht ⊢
    match f, ht with
    | 0, _ => rw [h0]; rfl
    | 1, ht => rw [if_pos (Or.inl rfl)]; exact (if_neg (Nat.not_lt.mpr (ht (Or.inl rfl)))).symm
    | 2, ht => rw [if_pos (Or.inr rfl)]; exact (if_neg (Nat.not_lt.mpr (ht (Or.inr rfl)))).symm
    | f + 3, _ => rw [h0, if_neg (by omega)]; rfl
  · intro U hU Y
    have hq : q = b + N := fa_q hP Y hsz hD1 (by rw [hU]; exact (hP1 N _ fa_last).lt)
    subst hq
    rw [← fa_ent_obj (b := b) (aC := aC) (T := T) (w := w) ho ck.1, ← fa_ws_succ] at hP1
    refine k H1 locs ls ⟨hP1, ?_, fun q hq => ?_⟩ hS1 hl U hU Y
    · have h9 : b + N < H1.size := (hP1 N _ (fa_ws_get (Nat.lt_succ_self N))).lt
      omega
    · have hb : q < s.heap.size := Nat.lt_of_lt_of_le hq X.2.2.2.2
      rw [hS1.2.1 q hb (Nat.not_le.mpr hq), ← hS.2.1 q hb (Nat.not_le.mpr hq)]
      exact hP.2.2 q hq
def fa_nw (N : Nat) (w : fa_W) : fa_W := fun o' k' => if o' = N then 0 else w o' k'
theorem fa_GS_eq {w2 : fa_W} {H : Heap} (h : ∀ o, o < N → fa_ent b aC T w2 o = fa_ent b aC T w o) (hP : fa_GS D b aC H0 N T w H) : fa_GS D b aC H0 N T w2 H := by
  have e : fa_ws b aC N T w2 = fa_ws b aC N T w := by
    unfold fa_ws
    apply List.map_congr_left
    intro o ho
    rw [h o (List.mem_range.mp ho)]
  unfold fa_GS
  rw [e]
  exact hP
theorem fa_GS_nw {H : Heap} (hP : fa_GS D b aC H0 N T w H) : fa_GS D b aC H0 N T (fa_nw N w) H := fa_GS_eq (fun o ho => by
  have e : fa_nw N w o = w o := by funext k; unfold fa_nw; rw [if_neg (by omega)]
  simp only [fa_ent, fa_fs, fa_fv, e]) hP
theorem g_new (X : fa_GX p s m args meth c cc nL ret own D b aC) (hsz : s.heap.size + cells = b + N) {ci n : Nat} {C : String} {F : u_T} {ty : Nat → FieldType} (ck : fa_CK ci C F n ty) (ho : (fa_sh N).1 = ci) (htm : ∀ k, k < n → fa_fk ci k = 1 ∨ fa_fk ci k = 2 → T ≤ fa_tm N k) (hdf : ∀ k, k < n → defaultValue (ty k) = if fa_fk ci k = 1 ∨ fa_fk ci k = 2 then .null else .int 0) {idx : Nat} (hcl : Cond.classLink own idx C ∈ fa_wG) (hins : Cond.instantiable C n ∈ fa_wG) (hini : Cond.initialized C ∈ fa_wG) (hc1 : cells + 1 = c1) (hs1 : slots + n = s1) (hN1 : N + 1 = N1) (hcells : c1 ≤ R.cells) (hslots : s1 ≤ R.slots) (hd : decode cc pc = .ok (.new idx, 3)) (k : ∀ w', w' = fa_nw N w → fa_GJ p l e R s m args below meth c c1 s1 Q D b aC H0 N1 T nL w' (pc + 3) lv (.ref (b + N) :: st)) : fa_GJ p l e R s m args below meth c cells slots Q D b aC H0 N T nL w pc lv st := fun H locs ls hP hS hl =>
  g_new0 (w := fa_nw N w) X hsz ck ho (fun k => by simp [fa_nw]) htm hdf hcl hins hini hc1 hs1 hN1 hcells hslots hd (k _ rfl) H locs ls (fa_GS_nw hP) hS hl
theorem g_newa0_int (X : fa_GX p s m args meth c cc nL ret own D b aC) (hsz : s.heap.size + cells = b + N) {x : Int} {n : Nat} (hsh : fa_sh N = (100, n)) (hx : fa_wr x = n) (hz : ∀ k, w N k = 0) (hco : Cond.arrayClass .int ∈ fa_wG) (hby : n * componentBytes .int ≤ 536870912) (hc1 : cells + 1 = c1) (hs1 : slots + n = s1) (hN1 : N + 1 = N1) (hcells : c1 ≤ R.cells) (hslots : s1 ≤ R.slots) (hd : decode cc pc = .ok (.newarray .int, 2)) (k : fa_GJ p l e R s m args below meth c c1 s1 Q D b aC H0 N1 T nL w (pc + 2) lv (.ref (b + N) :: st)) : fa_GJ p l e R s m args below meth c cells slots Q D b aC H0 N T nL w pc lv (.int (fa_I x) :: st) := fun H locs ls hP hS hl => by
  subst hc1; subst hs1; subst hN1
  have hent : fa_ent b aC T w N = .inl (aC 0, (n, .inl (fun j => fa_I (w N j)))) := by
    unfold fa_ent
    rw [hsh]
    rfl
  refine va_newa (atype := .int) X.1.1 X.1.2.1 (X.1.2.2.2.2 _ hco) rfl X.2.2.2.1.1 hP.1 (fa_D b aC N T w) hS (fun q h => Nat.le_trans X.2.2.2.2 h) (a0 := (n, .inl (fun j => fa_I (w N j)))) (N' := n) (fun cA => ?_) (fun q => ?_) (by show (fa_wr x).toNat = n; omega) hby hcells hslots hd (fun q cA H1 hK1 hP1 hD1 hS1 => ?_)
  · rw [vp_cell_i]
    congr 1
    funext j
    rw [hz j]
    rfl
  · have h9 : fa_wr x < 0 := fa_wrlt (y := 0) |>.mp q
    omega
  · have hcA : cA = aC 0 := by
      have h1 := (hK1.2 4 (cA, .int) rfl).2
      have h2 := (X.2.2.2.1.1.2 0 (aC 0, .int) rfl).2
      exact Option.some.inj (Eq.trans (Eq.symm h1) h2)
    subst hcA
    intro U hU Y
    have hq : q = b + N := fa_q hP Y hsz hD1 (by rw [hU]; exact (hP1 N _ fa_last).lt)
    subst hq
    rw [← hent, ← fa_ws_succ] at hP1
    refine k H1 locs ls ⟨hP1, ?_, fun q hq => ?_⟩ hS1 hl U hU Y
    · have h9 : b + N < H1.size := (hP1 N _ (fa_ws_get (Nat.lt_succ_self N))).lt
      omega
    · have hb : q < s.heap.size := Nat.lt_of_lt_of_le hq X.2.2.2.2
      rw [hS1.2.1 q hb (Nat.not_le.mpr hq), ← hS.2.1 q hb (Nat.not_le.mpr hq)]
      exact hP.2.2 q hq
theorem g_newa_int (X : fa_GX p s m args meth c cc nL ret own D b aC) (hsz : s.heap.size + cells = b + N) {x : Int} {n : Nat} (hsh : fa_sh N = (100, n)) (hx : fa_wr x = n) (hco : Cond.arrayClass .int ∈ fa_wG) (hby : n * componentBytes .int ≤ 536870912) (hc1 : cells + 1 = c1) (hs1 : slots + n = s1) (hN1 : N + 1 = N1) (hcells : c1 ≤ R.cells) (hslots : s1 ≤ R.slots) (hd : decode cc pc = .ok (.newarray .int, 2)) (k : ∀ w', w' = fa_nw N w → fa_GJ p l e R s m args below meth c c1 s1 Q D b aC H0 N1 T nL w' (pc + 2) lv (.ref (b + N) :: st)) : fa_GJ p l e R s m args below meth c cells slots Q D b aC H0 N T nL w pc lv (.int (fa_I x) :: st) := fun H locs ls hP hS hl =>
  g_newa0_int (w := fa_nw N w) X hsz hsh hx (fun k => by simp [fa_nw]) hco hby hc1 hs1 hN1 hcells hslots hd (k _ rfl) H locs ls (fa_GS_nw hP) hS hl
theorem g_newa0_byte (X : fa_GX p s m args meth c cc nL ret own D b aC) (hsz : s.heap.size + cells = b + N) {x : Int} {n : Nat} (hsh : fa_sh N = (101, n)) (hx : fa_wr x = n) (hz : ∀ k, w N k = 0) (hco : Cond.arrayClass .byte ∈ fa_wG) (hby : n * componentBytes .byte ≤ 536870912) (hc1 : cells + 1 = c1) (hs1 : slots + n = s1) (hN1 : N + 1 = N1) (hcells : c1 ≤ R.cells) (hslots : s1 ≤ R.slots) (hd : decode cc pc = .ok (.newarray .byte, 2)) (k : fa_GJ p l e R s m args below meth c c1 s1 Q D b aC H0 N1 T nL w (pc + 2) lv (.ref (b + N) :: st)) : fa_GJ p l e R s m args below meth c cells slots Q D b aC H0 N T nL w pc lv (.int (fa_I x) :: st) := fun H locs ls hP hS hl => by
  subst hc1; subst hs1; subst hN1
  have hent : fa_ent b aC T w N = .inl (aC 1, (n, .inl (fun j => fa_I (w N j)))) := by
    unfold fa_ent
    rw [hsh]
    rfl
  refine va_newa (atype := .byte) X.1.1 X.1.2.1 (X.1.2.2.2.2 _ hco) rfl X.2.2.2.1.1 hP.1 (fa_D b aC N T w) hS (fun q h => Nat.le_trans X.2.2.2.2 h) (a0 := (n, .inl (fun j => fa_I (w N j)))) (N' := n) (fun cA => ?_) (fun q => ?_) (by show (fa_wr x).toNat = n; omega) hby hcells hslots hd (fun q cA H1 hK1 hP1 hD1 hS1 => ?_)
  · rw [vp_cell_i]
    congr 1
    funext j
    rw [hz j]
    rfl
  · have h9 : fa_wr x < 0 := fa_wrlt (y := 0) |>.mp q
    omega
  · have hcA : cA = aC 1 := by
      have h1 := (hK1.2 4 (cA, .byte) rfl).2
      have h2 := (X.2.2.2.1.1.2 1 (aC 1, .byte) rfl).2
      exact Option.some.inj (Eq.trans (Eq.symm h1) h2)
    subst hcA
    intro U hU Y
    have hq : q = b + N := fa_q hP Y hsz hD1 (by rw [hU]; exact (hP1 N _ fa_last).lt)
    subst hq
    rw [← hent, ← fa_ws_succ] at hP1
    refine k H1 locs ls ⟨hP1, ?_, fun q hq => ?_⟩ hS1 hl U hU Y
    · have h9 : b + N < H1.size := (hP1 N _ (fa_ws_get (Nat.lt_succ_self N))).lt
      omega
    · have hb : q < s.heap.size := Nat.lt_of_lt_of_le hq X.2.2.2.2
      rw [hS1.2.1 q hb (Nat.not_le.mpr hq), ← hS.2.1 q hb (Nat.not_le.mpr hq)]
      exact hP.2.2 q hq
theorem g_newa_byte (X : fa_GX p s m args meth c cc nL ret own D b aC) (hsz : s.heap.size + cells = b + N) {x : Int} {n : Nat} (hsh : fa_sh N = (101, n)) (hx : fa_wr x = n) (hco : Cond.arrayClass .byte ∈ fa_wG) (hby : n * componentBytes .byte ≤ 536870912) (hc1 : cells + 1 = c1) (hs1 : slots + n = s1) (hN1 : N + 1 = N1) (hcells : c1 ≤ R.cells) (hslots : s1 ≤ R.slots) (hd : decode cc pc = .ok (.newarray .byte, 2)) (k : ∀ w', w' = fa_nw N w → fa_GJ p l e R s m args below meth c c1 s1 Q D b aC H0 N1 T nL w' (pc + 2) lv (.ref (b + N) :: st)) : fa_GJ p l e R s m args below meth c cells slots Q D b aC H0 N T nL w pc lv (.int (fa_I x) :: st) := fun H locs ls hP hS hl =>
  g_newa0_byte (w := fa_nw N w) X hsz hsh hx (fun k => by simp [fa_nw]) hco hby hc1 hs1 hN1 hcells hslots hd (k _ rfl) H locs ls (fa_GS_nw hP) hS hl
theorem g_newa0_boolean (X : fa_GX p s m args meth c cc nL ret own D b aC) (hsz : s.heap.size + cells = b + N) {x : Int} {n : Nat} (hsh : fa_sh N = (102, n)) (hx : fa_wr x = n) (hz : ∀ k, w N k = 0) (hco : Cond.arrayClass .boolean ∈ fa_wG) (hby : n * componentBytes .boolean ≤ 536870912) (hc1 : cells + 1 = c1) (hs1 : slots + n = s1) (hN1 : N + 1 = N1) (hcells : c1 ≤ R.cells) (hslots : s1 ≤ R.slots) (hd : decode cc pc = .ok (.newarray .boolean, 2)) (k : fa_GJ p l e R s m args below meth c c1 s1 Q D b aC H0 N1 T nL w (pc + 2) lv (.ref (b + N) :: st)) : fa_GJ p l e R s m args below meth c cells slots Q D b aC H0 N T nL w pc lv (.int (fa_I x) :: st) := fun H locs ls hP hS hl => by
  subst hc1; subst hs1; subst hN1
  have hent : fa_ent b aC T w N = .inl (aC 2, (n, .inl (fun j => fa_I (fa_bi (decide (w N j ≠ 0)))))) := by
    unfold fa_ent
    rw [hsh]
    rfl
  refine va_newa (atype := .boolean) X.1.1 X.1.2.1 (X.1.2.2.2.2 _ hco) rfl X.2.2.2.1.1 hP.1 (fa_D b aC N T w) hS (fun q h => Nat.le_trans X.2.2.2.2 h) (a0 := (n, .inl (fun j => fa_I (fa_bi (decide (w N j ≠ 0)))))) (N' := n) (fun cA => ?_) (fun q => ?_) (by show (fa_wr x).toNat = n; omega) hby hcells hslots hd (fun q cA H1 hK1 hP1 hD1 hS1 => ?_)
  · rw [vp_cell_i]
    congr 1
    funext j
    rw [hz j]
    rfl
  · have h9 : fa_wr x < 0 := fa_wrlt (y := 0) |>.mp q
    omega
  · have hcA : cA = aC 2 := by
      have h1 := (hK1.2 4 (cA, .boolean) rfl).2
      have h2 := (X.2.2.2.1.1.2 2 (aC 2, .boolean) rfl).2
      exact Option.some.inj (Eq.trans (Eq.symm h1) h2)
    subst hcA
    intro U hU Y
    have hq : q = b + N := fa_q hP Y hsz hD1 (by rw [hU]; exact (hP1 N _ fa_last).lt)
    subst hq
    rw [← hent, ← fa_ws_succ] at hP1
    refine k H1 locs ls ⟨hP1, ?_, fun q hq => ?_⟩ hS1 hl U hU Y
    · have h9 : b + N < H1.size := (hP1 N _ (fa_ws_get (Nat.lt_succ_self N))).lt
      omega
    · have hb : q < s.heap.size := Nat.lt_of_lt_of_le hq X.2.2.2.2
      rw [hS1.2.1 q hb (Nat.not_le.mpr hq), ← hS.2.1 q hb (Nat.not_le.mpr hq)]
      exact hP.2.2 q hq
theorem g_newa_boolean (X : fa_GX p s m args meth c cc nL ret own D b aC) (hsz : s.heap.size + cells = b + N) {x : Int} {n : Nat} (hsh : fa_sh N = (102, n)) (hx : fa_wr x = n) (hco : Cond.arrayClass .boolean ∈ fa_wG) (hby : n * componentBytes .boolean ≤ 536870912) (hc1 : cells + 1 = c1) (hs1 : slots + n = s1) (hN1 : N + 1 = N1) (hcells : c1 ≤ R.cells) (hslots : s1 ≤ R.slots) (hd : decode cc pc = .ok (.newarray .boolean, 2)) (k : ∀ w', w' = fa_nw N w → fa_GJ p l e R s m args below meth c c1 s1 Q D b aC H0 N1 T nL w' (pc + 2) lv (.ref (b + N) :: st)) : fa_GJ p l e R s m args below meth c cells slots Q D b aC H0 N T nL w pc lv (.int (fa_I x) :: st) := fun H locs ls hP hS hl =>
  g_newa0_boolean (w := fa_nw N w) X hsz hsh hx (fun k => by simp [fa_nw]) hco hby hc1 hs1 hN1 hcells hslots hd (k _ rfl) H locs ls (fa_GS_nw hP) hS hl
theorem g_newa0_long (X : fa_GX p s m args meth c cc nL ret own D b aC) (hsz : s.heap.size + cells = b + N) {x : Int} {n : Nat} (hsh : fa_sh N = (103, n)) (hx : fa_wr x = n) (hz : ∀ k, w N k = 0) (hco : Cond.arrayClass .long ∈ fa_wG) (hby : n * componentBytes .long ≤ 536870912) (hc1 : cells + 1 = c1) (hs1 : slots + n = s1) (hN1 : N + 1 = N1) (hcells : c1 ≤ R.cells) (hslots : s1 ≤ R.slots) (hd : decode cc pc = .ok (.newarray .long, 2)) (k : fa_GJ p l e R s m args below meth c c1 s1 Q D b aC H0 N1 T nL w (pc + 2) lv (.ref (b + N) :: st)) : fa_GJ p l e R s m args below meth c cells slots Q D b aC H0 N T nL w pc lv (.int (fa_I x) :: st) := fun H locs ls hP hS hl => by
  subst hc1; subst hs1; subst hN1
  have hent : fa_ent b aC T w N = .inl (aC 3, (n, .inr (.inl (fun j => Int64.ofInt (w N j))))) := by
    unfold fa_ent
    rw [hsh]
    rfl
  refine va_newa (atype := .long) X.1.1 X.1.2.1 (X.1.2.2.2.2 _ hco) rfl X.2.2.2.1.1 hP.1 (fa_D b aC N T w) hS (fun q h => Nat.le_trans X.2.2.2.2 h) (a0 := (n, .inr (.inl (fun j => Int64.ofInt (w N j))))) (N' := n) (fun cA => ?_) (fun q => ?_) (by show (fa_wr x).toNat = n; omega) hby hcells hslots hd (fun q cA H1 hK1 hP1 hD1 hS1 => ?_)
  · rw [vp_cell_l]
    congr 1
    funext j
    rw [hz j]
    rfl
  · have h9 : fa_wr x < 0 := fa_wrlt (y := 0) |>.mp q
    omega
  · have hcA : cA = aC 3 := by
      have h1 := (hK1.2 4 (cA, .long) rfl).2
      have h2 := (X.2.2.2.1.1.2 3 (aC 3, .long) rfl).2
      exact Option.some.inj (Eq.trans (Eq.symm h1) h2)
    subst hcA
    intro U hU Y
    have hq : q = b + N := fa_q hP Y hsz hD1 (by rw [hU]; exact (hP1 N _ fa_last).lt)
    subst hq
    rw [← hent, ← fa_ws_succ] at hP1
    refine k H1 locs ls ⟨hP1, ?_, fun q hq => ?_⟩ hS1 hl U hU Y
    · have h9 : b + N < H1.size := (hP1 N _ (fa_ws_get (Nat.lt_succ_self N))).lt
      omega
    · have hb : q < s.heap.size := Nat.lt_of_lt_of_le hq X.2.2.2.2
      rw [hS1.2.1 q hb (Nat.not_le.mpr hq), ← hS.2.1 q hb (Nat.not_le.mpr hq)]
      exact hP.2.2 q hq
theorem g_newa_long (X : fa_GX p s m args meth c cc nL ret own D b aC) (hsz : s.heap.size + cells = b + N) {x : Int} {n : Nat} (hsh : fa_sh N = (103, n)) (hx : fa_wr x = n) (hco : Cond.arrayClass .long ∈ fa_wG) (hby : n * componentBytes .long ≤ 536870912) (hc1 : cells + 1 = c1) (hs1 : slots + n = s1) (hN1 : N + 1 = N1) (hcells : c1 ≤ R.cells) (hslots : s1 ≤ R.slots) (hd : decode cc pc = .ok (.newarray .long, 2)) (k : ∀ w', w' = fa_nw N w → fa_GJ p l e R s m args below meth c c1 s1 Q D b aC H0 N1 T nL w' (pc + 2) lv (.ref (b + N) :: st)) : fa_GJ p l e R s m args below meth c cells slots Q D b aC H0 N T nL w pc lv (.int (fa_I x) :: st) := fun H locs ls hP hS hl =>
  g_newa0_long (w := fa_nw N w) X hsz hsh hx (fun k => by simp [fa_nw]) hco hby hc1 hs1 hN1 hcells hslots hd (k _ rfl) H locs ls (fa_GS_nw hP) hS hl
def fa_un (t : Nat) : Nat × Nat := fa_unL.getD t (0, 0)
theorem fa_un_all : ∀ o k, k < fa_nf (fa_sh o).1 → fa_fk (fa_sh o).1 k = 1 ∨ fa_fk (fa_sh o).1 k = 2 → fa_un (fa_tm o k) = (o, k) := by
  have h : ∀ o, (List.range (fa_nf (fa_sh o).1)).all (fun k => decide (fa_fk (fa_sh o).1 k = 1 ∨ fa_fk (fa_sh o).1 k = 2 → fa_un (fa_tm o k) = (o, k))) = true := fa_all (by decide +kernel) (fun o h => by rw [fa_nd o h]; rfl)
  intro o k hk hf
  exact of_decide_eq_true (List.all_eq_true.mp (h o) k (List.mem_range.mpr hk)) hf
theorem fa_tm_step {o k o' k' : Nat} (hu : fa_un T = (o, k)) (hne : ¬ (o' = o ∧ k' = k)) (hk : k' < fa_nf (fa_sh o').1) (hf : fa_fk (fa_sh o').1 k' = 1 ∨ fa_fk (fa_sh o').1 k' = 2) : (fa_tm o' k' < T + 1) = (fa_tm o' k' < T) := by
  have h1 := fa_un_all o' k' hk hf
  apply propext
  constructor
  · intro h
    rcases Nat.lt_or_ge (fa_tm o' k') T with q | q
    · exact q
    · exfalso
      have : fa_tm o' k' = T := by omega
      rw [this, hu] at h1
      exact hne ⟨(congrArg Prod.fst h1).symm, (congrArg Prod.snd h1).symm⟩
  · intro h; omega
theorem fa_fv_step {o k o' k' : Nat} (hu : fa_un T = (o, k)) (hne : ¬ (o' = o ∧ k' = k)) (hk : k' < fa_nf (fa_sh o').1) : fa_fv (fa_sh o').1 b (T + 1) w o' k' = fa_fv (fa_sh o').1 b T w o' k' := by
  have h := fun hf => fa_tm_step (T := T) hu hne hk hf
  unfold fa_fv
  generalize fa_fk (fa_sh o').1 k' = f at h ⊢
  match f, h with
  | 0, _ => rfl
  | 1, h => simp only [h (Or.inl rfl)]
  | 2, h => simp only [h (Or.inr rfl)]
  | f + 3, _ => rfl
theorem fa_ent_step {o k o' : Nat} (hu : fa_un T = (o, k)) (hne : o' ≠ o) : fa_ent b aC (T + 1) w o' = fa_ent b aC T w o' := by
  have h : fa_fs (fa_sh o').1 b (T + 1) w o' = fa_fs (fa_sh o').1 b T w o' := by
    unfold fa_fs
    apply List.map_congr_left
    intro j hj
    exact fa_fv_step hu (fun q => hne q.1) (List.mem_range.mp hj)
  unfold fa_ent
  generalize fa_sh o' = q at h ⊢
  obtain ⟨q1, q2⟩ := q
  dsimp only at h ⊢
  split <;> first | rfl | rw [h]
theorem fa_ws_setT {o k : Nat} {e1 : va_E} (hu : fa_un T = (o, k)) (he : fa_ent b aC (T + 1) w o = e1) : (fa_ws b aC N T w).set o (b + o, e1) = fa_ws b aC N (T + 1) w := by
  apply List.ext_getElem?
  intro j
  by_cases hj : j < N
  · by_cases hjo : j = o
    · subst hjo
      rw [fa_ws_get hj, List.getElem?_set_self (by rw [fa_ws_len]; exact hj), he]
    · rw [List.getElem?_set_ne (fun q => hjo q.symm), fa_ws_get hj, fa_ws_get hj, fa_ent_step hu hjo]
  · rw [List.getElem?_eq_none (by rw [List.length_set, fa_ws_len]; omega), List.getElem?_eq_none (by rw [fa_ws_len]; omega)]
theorem fa_GS_nextT {H H1 : Heap} {locs locs1 : List Loc} (X : fa_GX p s m args meth c cc nL ret own D b aC) (hP : fa_GS D b aC H0 N T w H) (hS : va_S (fun q => b ≤ q) s.heap H locs) (hP1 : va_P D fa_cls (fa_ws b aC N (T + 1) w) H1) (hS1 : va_S (fun q => b ≤ q) s.heap H1 locs1) : fa_GS D b aC H0 N (T + 1) w H1 := by
  refine ⟨hP1, ?_, fun q hq => ?_⟩
  · cases N with
    | zero => exact Nat.le_trans X.2.2.2.2 hS1.1
    | succ n =>
      have h2 : b + n < H1.size := (hP1 n _ (fa_ws_get (Nat.lt_succ_self n))).lt
      show b + (n + 1) ≤ _
      omega
  · have hb : q < s.heap.size := Nat.lt_of_lt_of_le hq X.2.2.2.2
    rw [hS1.2.1 q hb (Nat.not_le.mpr hq), ← hS.2.1 q hb (Nat.not_le.mpr hq)]
    exact hP.2.2 q hq
theorem g_putR (X : fa_GX p s m args meth c cc nL ret own D b aC) (hin : meth.name = "<init>") {ci n : Nat} {C : String} {F : u_T} {ty : Nat → FieldType} (ck : fa_CK ci C F n ty) {o : Nat} (ho : (fa_sh o).1 = ci) (hN : o < N) (k : Nat) {idx : Nat} (hk : k < n) (hw : Cond.fieldLink own idx C (F k).2.1 (F k).2.2.1 ∈ fa_wG) (hC : (F k).1 = C) (hown : (F k).1 = own) (hu : fa_un T = (o, k)) {v : Value} (hv : fa_fv ci b (T + 1) w o k = v) (hn : narrow (ty k) v = v) (hf : fits (ty k) v = true) (hd : decode cc pc = .ok (.putfield idx, 3)) (kk : fa_GJ p l e R s m args below meth c cells slots Q D b aC H0 N (T + 1) nL w (pc + 3) lv st) : fa_GJ p l e R s m args below meth c cells slots Q D b aC H0 N T nL w pc lv (v :: .ref (b + o) :: st) := fun H locs ls hP hS hl => by
  have he : fa_ent b aC (T + 1) w o = .inr (ci, (fa_fs ci b T w o).set k v) := by
    rw [fa_ent_obj ho ck.1, fa_fs_set hv]
    intro j hj hjk
    have h9 := fa_fv_step (b := b) (w := w) (T := T) (o' := o) (k' := j) hu (fun q => hjk q.2) (by rw [ho]; exact hj)
    rw [ho] at h9
    exact h9
  by_cases hfin : (F k).2.2.2 = true
  · refine va_putF X.1.1 X.1.2.1 X.1.2.2.2.2 ck.2.2.2.1 ty ck.2.2.2.2.1 ck.2.2.2.2.2 X.1.2.2.2.1 X.2.2.2.1.1 hP.1 (fa_D b aC N T w) hS o (fa_GS_at hP ho ck.1 hN) ck.2.2.1 k hk (X.1.2.2.2.2 _ hw) (fun x h => by rw [hC] at h; exact h) hfin hin hown (ck.2.2.2.2.1 k hk) hn hf (by simp [fa_fs, ck.2.1, hk]) hd (fun H1 locs1 hP1 _ hS1 => ?_)
    rw [fa_ws_setT hu he] at hP1
    exact kk H1 locs1 ls (fa_GS_nextT X hP hS hP1 hS1) hS1 hl
  · refine va_put X.1.1 X.1.2.1 X.1.2.2.2.2 ck.2.2.2.1 ty ck.2.2.2.2.1 ck.2.2.2.2.2 X.1.2.2.2.1 X.2.2.2.1.1 hP.1 (fa_D b aC N T w) hS o (fa_GS_at hP ho ck.1 hN) ck.2.2.1 k hk (X.1.2.2.2.2 _ hw) (fun x h => by rw [hC] at h; exact h) (by simpa using hfin) (ck.2.2.2.2.1 k hk) hn hf (by simp [fa_fs, ck.2.1, hk]) hd (fun H1 locs1 hP1 _ hS1 => ?_)
    rw [fa_ws_setT hu he] at hP1
    exact kk H1 locs1 ls (fa_GS_nextT X hP hS hP1 hS1) hS1 hl
theorem fa_GS_hid {H : Heap} {o k : Nat} {z : Int} (hk : fa_fk (fa_sh o).1 k = 2) (ht : T ≤ fa_tm o k) (ho : (fa_sh o).1 < 100) (hP : fa_GS D b aC H0 N T w H) : fa_GS D b aC H0 N T (fa_st w o k z) H := fa_GS_eq (fun o' _ => by
  by_cases h : o' = o
  · subst h
    have e : fa_fs (fa_sh o').1 b T (fa_st w o' k z) o' = fa_fs (fa_sh o').1 b T w o' := by
      unfold fa_fs
      apply List.map_congr_left
      intro j _
      by_cases hj : j = k
      · subst hj
        unfold fa_fv
        rw [hk]
        simp only [if_neg (Nat.not_lt.mpr ht)]
      · unfold fa_fv
        rw [fa_st_ne (fun q => hj q.2)]
    rw [fa_ent_obj rfl ho, fa_ent_obj rfl ho, e]
  · have e : fa_st w o k z o' = w o' := fa_st_row h
    simp only [fa_ent, fa_fs, fa_fv, e]) hP
theorem g_putS (X : fa_GX p s m args meth c cc nL ret own D b aC) (hin : meth.name = "<init>") {ci n : Nat} {C : String} {F : u_T} {ty : Nat → FieldType} (ck : fa_CK ci C F n ty) {o : Nat} (ho : (fa_sh o).1 = ci) (hN : o < N) (k : Nat) {idx : Nat} (hk : k < n) (hw : Cond.fieldLink own idx C (F k).2.1 (F k).2.2.1 ∈ fa_wG) (hC : (F k).1 = C) (hown : (F k).1 = own) (hu : fa_un T = (o, k)) (hf2 : fa_fk ci k = 2) (htm : fa_tm o k = T) (z : Int) {a : Nat} (hz : fa_sc z = a) (hn : narrow (ty k) (.ref (b + a)) = .ref (b + a)) (hf : fits (ty k) (.ref (b + a)) = true) (hd : decode cc pc = .ok (.putfield idx, 3)) (kk : ∀ w', w' = fa_st w o k z → fa_GJ p l e R s m args below meth c cells slots Q D b aC H0 N (T + 1) nL w' (pc + 3) lv st) : fa_GJ p l e R s m args below meth c cells slots Q D b aC H0 N T nL w pc lv (.ref (b + a) :: .ref (b + o) :: st) := fun H locs ls hP hS hl =>
  g_putR (w := fa_st w o k z) X hin ck ho hN k hk hw hC hown hu (by rw [fa_fvS hf2 (by rw [htm]; exact Nat.lt_succ_self T), fa_st_eq, hz]) hn hf hd (kk _ rfl) H locs ls (fa_GS_hid (by rw [ho]; exact hf2) (by rw [htm]; exact Nat.le_refl _) (by rw [ho]; exact ck.1) hP) hS hl
theorem fa_ctR {ci T : Nat} {w : fa_W} {o k t : Nat} (hk : fa_fk ci k = 1) (ht : fa_tm o k < T) (hr : fa_rf o k = t) : fa_fv ci b T w o k = .ref (b + t) := by rw [fa_fvR hk ht, hr]
theorem g_objInit (X : fa_GX p s m args meth c cc nL ret own D b aC) {hh mc ms idx a : Nat} (hw : Cond.methodLink own idx Lib.objectInit ∈ fa_wG) (hi : Cond.instanceMethod Lib.objectInit ∈ fa_wG) (hco : Cond.code Lib.objectInit ⟨#[0xb1]⟩ 1 none ∈ fa_wG) (hg : 1 ≤ hh) (hs : ((st.map fun v => v.category).sum ≤ 8)) (hd : decode cc pc = .ok (.invokespecial idx, 3)) (k : fa_GJ p l e (fa_rmc hh mc ms) s m args below meth c cells slots Q D b aC H0 N T nL w (pc + 3) lv st) : fa_GJ p l e (fa_rmc hh mc ms) s m args below meth c cells slots Q D b aC H0 N T nL w pc lv (.ref a :: st) := fun H locs ls hP hS hl =>
  W.objInit X.1.1 X.1.2.1 X.1.2.2.2.1 (X.1.2.2.2.2 _ hw) (X.1.2.2.2.2 _ hi) (X.1.2.2.2.2 _ hco) rfl (hl.1.trans X.1.2.2.1.symm) rfl hd hg (by have := lv_room (m := m) (pc := pc) (ls := ls) (rest := .ref a :: st) hs; show _ ≤ 40 * hh; omega) (k H locs ls hP hS hl)
/-- a constructor's contract: from N objects and the time T to N1 and T1 -/
def fa_NC (l : Launch) (D : va_G) (b : Nat) (aC : Nat → ClassId) (H0 : Heap) (N T N1 T1 : Nat) (y : MethodName) (cc : ByteArray) (nL : Nat) (hg mc ms : Nat) (as : List Value) (w w1 : fa_W) : Prop :=
  ∀ hh, hg ≤ hh → Met l y (.code y cc nL none :: fa_wG) (fa_rmc hh mc ms) (fun v U => fa_Pc D b aC H0 N T as w v U ∧ U.heap.size = b + N) (fa_Qc D b aC H0 N1 T1 none w1) mc ms (fun q => b ≤ q)
theorem fa_nenter {y : MethodName} {hg mc ms T1 : Nat} {as : List Value} (hy : plainName y.cls = true) (hlen : (lg_sl as).length ≤ nL) (hlv : lv_args 0 as = lv)
    (body : ∀ {p : Program} {e : Env} {s : State} {m : MethodId} {below : List Frame} {meth : Method} {c : Code} (hh : Nat), hg ≤ hh → s.heap.size = b + N → (meth.name = y.name) → fa_GX p s m as.toArray meth c cc nL none y.cls D b aC →
      fa_GJ p l e (fa_rmc hh mc ms) s m as.toArray below meth c 0 0 (MQ below (fa_Qc D b aC H0 N1 T1 none w1) as.toArray s mc ms (fun q => b ≤ q)) D b aC H0 N T nL w 0 lv []) : fa_NC l D b aC H0 N T N1 T1 y cc nL hg mc ms as w w1 := by
  intro hh hle
  refine Met.ofW (cc := cc) (maxL := nL) (ret := none) hy rfl ?_
  intro p e s m args below meth c s₁ B hml hv
  obtain ⟨⟨rfl, hGS, hGK⟩, hsz⟩ := hv
  have hts := atoms_spec (ws := .code y cc nL none :: fa_wG) B.pre
  have hl := lv_entry as hlen
  rw [hlv] at hl
  rw [lg_entry_eq]
  exact body hh hle hsz (name_of_methodNamed B.named B.method).1 ⟨⟨B.exec, B.bytes, hml, findClass_of_methodNamed B.named, fun w hw => hts w (List.mem_cons_of_mem _ hw)⟩, B.notSynchronized, B.returns, hGK, Nat.le_trans (Nat.le_add_right _ _) hGS.2.1⟩ s.heap [] _ hGS va_S.rf hl
theorem g_callN (X : fa_GX p s m args meth c cc nL ret own D b aC) (hsz : s.heap.size + cells = b + N) {o : Nat} {y : MethodName} {bytes : ByteArray} {maxL n hg hh idx mc ms mcM msM T1 : Nat} {As : List Value} (hI : fa_MN y bytes maxL n) (hM : fa_NC l D b aC H0 N T N1 T1 y bytes maxL hg mcM msM (.ref (b + o) :: As) w w1) (hw : Cond.methodLink own idx y ∈ fa_wG) (hn : As.length = n) (hg' : hg + 1 ≤ hh) (hs : ((st.map fun v => v.category).sum ≤ 8)) {st0 : List Value} (he : st0 = As.reverse ++ .ref (b + o) :: st) (hd : decode cc pc = .ok (.invokespecial idx, 3)) (hc1 : cells + mcM = c1) (hs1 : slots + msM = s1) (hc2 : c1 ≤ mc) (hs2 : s1 ≤ ms)
    (k : fa_GJ p l e (fa_rmc hh mc ms) s m args below meth c c1 s1 Q D b aC H0 N1 T1 nL w1 (pc + 3) lv st) : fa_GJ p l e (fa_rmc hh mc ms) s m args below meth c cells slots Q D b aC H0 N T nL w pc lv st0 := fun H locs ls hP hS hl => by
  subst he; subst hc1; subst hs1
  obtain ⟨⟨i1, i2, i3, i4⟩, i5, i6⟩ := hI
  intro U hU Y
  have hH : H.size = b + N := by
    have h1 : U.heap.size ≤ s.heap.size + cells := Y.same.2.2.1
    have h2 := hP.2.1
    rw [hU] at h1
    omega
  have hbl : FrameBlind (fun v U => fa_Pc D b aC H0 N T (.ref (b + o) :: As) w v U ∧ U.heap.size = b + N) := fun a U g mk h => ⟨fa_blind a U g mk h.1, h.2⟩
  have hr := va_runI (e := e) (meth := meth) (below := below) (H := H) (locs := locs) (cells := cells) (slots := slots) (g := F0 m pc ls (As.reverse ++ .ref (b + o) :: st)) (rest := st) (R := fa_rmc hh mc ms) X.1 (hM hg (Nat.le_refl _)) ⟨callB_of n X.1.2.2.2.2 (fa_goodC i1) rfl rfl rfl (X.1.2.2.2.2 _ i2) (X.1.2.2.2.2 _ hw) i3 (fa_room hg' i4), i6, X.1.2.2.2.2 _ i5⟩ ⟨hbl, fun V hV hW => ⟨⟨rfl, by rw [hV]; exact hP, X.2.2.2.1.move hW hS hV⟩, by rw [hV]; exact hH⟩⟩ rfl hn hl.1 rfl (lv_room hs) hd ⟨hc2, hs2⟩
  obtain ⟨v, st₀, t, T', L, h0, X', hL, e1, e2, ⟨hv, hP, hz, hk⟩, goes⟩ := hr U hU Y
  cases hv
  rw [h0] at hz hk
  have hS' : va_S (fun q => b ≤ q) s.heap T'.heap (locs ++ L) := ⟨Nat.le_trans hS.1 (by rw [e1]; exact hz), fun q h1 h2 => by rw [e1, hk q (Nat.lt_of_lt_of_le h1 hS.1) h2]; exact hS.2.1 q h1 h2, fun q hq => by
    rcases List.mem_append.mp hq with h | h
    · exact hS.2.2 q h
    · exact hL q h⟩
  obtain ⟨t2, a1, b1⟩ := k T'.heap (locs ++ L) ls (by rw [e1]; exact hP) hS' hl T' rfl X'
  exact ⟨t2, goes t2 a1, b1⟩
theorem g_cvret (X : fa_GX p s m args meth c cc nL none own D b aC) (hd : decode cc pc = .ok (.return_, 1)) : fa_GJ p l e R s m args below meth c cells slots (MQ below (fa_Qc D b aC H0 N T none w) args s cells slots (fun q => b ≤ q)) D b aC H0 N T nL w pc lv [] := fun H locs ls hP hS hl =>
  W.vret X.1.1 X.1.2.1 X.2.2.1 (fun t ht _ => ⟨rfl, by rw [ht]; exact hP, hS.F ht⟩) (fun q hq => hS.2.2 q hq) hd X.2.1
end FaCtor
