/-! PHASE B. The class's reader: its state, the tree in the rows of a Program (at o), what stays -/
def px_xi (ins : List Nat) (v : Nat) : Nat := if v < 24 then v else ins.getD (v - 24) 0
def px_sc (ins : List Nat) : List (Nat × Nat) → fa_W → Prop
  | [], _ => True
  | b :: r, w => w 36 r.length = ((px_xi ins b.1 : Nat) : Int) ∧ px_xi ins b.1 < 74 ∧ w 22 (px_xi ins b.1) = (b.2 : Int) ∧ px_sc ins r w
def px_sz (nd : Nat) (w : fa_W) : Prop := w 9 1 = (nd : Int) ∧ w 11 1 = (nd : Int) ∧ w 13 1 = (nd : Int) ∧ w 15 1 = (nd : Int) ∧ w 17 1 = ((3 * nd : Nat) : Int) ∧ w 19 1 = ((100 : Nat) : Int) ∧ w 21 1 = ((74 : Nat) : Int) ∧ w 23 1 = ((74 : Nat) : Int) ∧ w 27 1 = ((24 : Nat) : Int)
def px_gl (gl : List Nat) (w : fa_W) : Prop := w 8 13 = (gl.length : Int) ∧ w 25 1 = (gl.length : Int) ∧ ∀ (k x : Nat), gl[k]? = some x → w 26 k = (x : Int)
def px_S (c : Nat → Int) (n : Nat) : ps_E → ps_S → fa_W → Prop
  | (gl, sc, ow, ne), (p, th, la, ins, lt, si, nd), w => px_tx c n w ∧ px_tok c n (ps_sk c n p) w ∧ w 7 7 = -1 ∧ w 7 8 = (ne : Int) ∧ w 7 9 = (th : Int) ∧ w 7 10 = (la : Int) ∧ w 7 11 = (lt : Int) ∧ w 7 12 = ow ∧ w 8 15 = (si : Int) ∧ px_sz nd w ∧ px_gl gl w ∧ w 35 1 = (sc.length : Int) ∧ px_sc ins sc w ∧ ne ≤ 20
/-- one THING in the rows: kind, value, owner, start, parts -/
def px_N (o : Nat) (w : fa_W) (t K v : Nat) (h : Int) (st : Nat) (a b c : Int) : Prop := w (o + 2) t = (K : Int) ∧ w (o + 4) t = (v : Int) ∧ w (o + 6) t = h ∧ w (o + 8) t = (st : Int) ∧ w (o + 10) (3 * t) = a ∧ w (o + 10) (3 * t + 1) = b ∧ w (o + 10) (3 * t + 2) = c
def px_H (o : Nat) (ins : List Nat) : pt_T → Int → Nat → fa_W → Prop := pt_rec
  (fun v h a w => px_N o w a 1 v h a (-1) (-1) (-1))
  (fun v x h a w => px_N o w a 2 (px_xi ins v) h a (-1) (-1) (-1) ∧ w (o + 14) (px_xi ins v) = (x : Int))
  (fun g x h a w => px_N o w a 3 g h a (-1) (-1) (-1) ∧ w (o + 18) g = (x : Int))
  (fun d h a w => px_N o w a 4 0 h a (-1) (-1) (-1) ∧ d = a)
  (fun f x b rb h a w => rb (f : Int) a w ∧ px_N o w (a + pt_sz b) 5 f h a ((a + pt_sz b - 1 : Nat) : Int) (-1) (-1) ∧ w (o + 14) f = (x : Int) ∧ w (o + 16) f = ((a + pt_sz b : Nat) : Int) ∧ w (o + 20) f = ((a + pt_sz b - 1 : Nat) : Int))
  (fun ta tb tc ra rb rc h a w => ra h a w ∧ rb h (a + pt_sz ta) w ∧ rc h (a + pt_sz ta + pt_sz tb) w ∧ px_N o w (a + pt_sz ta + pt_sz tb + pt_sz tc) 6 0 h a ((a + pt_sz ta - 1 : Nat) : Int) ((a + pt_sz ta + pt_sz tb - 1 : Nat) : Int) ((a + pt_sz ta + pt_sz tb + pt_sz tc - 1 : Nat) : Int))
  (fun v x ta tb ra rb h a w => ra h a w ∧ rb h (a + pt_sz ta) w ∧ px_N o w (a + pt_sz ta + pt_sz tb) 7 (px_xi ins v) h a ((a + pt_sz ta - 1 : Nat) : Int) ((a + pt_sz ta + pt_sz tb - 1 : Nat) : Int) (-1) ∧ w (o + 14) (px_xi ins v) = (x : Int) ∧ w (o + 16) (px_xi ins v) = ((a + pt_sz ta + pt_sz tb : Nat) : Int))
  (fun s ta tb ra rb h a w => ra h a w ∧ rb h (a + pt_sz ta) w ∧ px_N o w (a + pt_sz ta + pt_sz tb) 8 s h a ((a + pt_sz ta - 1 : Nat) : Int) ((a + pt_sz ta + pt_sz tb - 1 : Nat) : Int) (-1))
  (fun s ta tb ra rb h a w => ra h a w ∧ rb h (a + pt_sz ta) w ∧ px_N o w (a + pt_sz ta + pt_sz tb) 9 s h a ((a + pt_sz ta - 1 : Nat) : Int) ((a + pt_sz ta + pt_sz tb - 1 : Nat) : Int) (-1) ∧ w (o + 12) s = ((a + pt_sz ta + pt_sz tb : Nat) : Int))
  (fun _ _ _ => False)
/-- what reading never touches -/
def px_fo (w w' : fa_W) : Prop := ∀ o k, (o < 7 ∨ 36 < o) → w' o k = w o k
theorem px_fo_refl (w : fa_W) : px_fo w w := fun _ _ _ => rfl
theorem px_fo_tr {w w1 w2 : fa_W} (h1 : px_fo w w1) (h2 : px_fo w1 w2) : px_fo w w2 := fun o k q => (h2 o k q).trans (h1 o k q)
theorem px_fo_st {w w1 : fa_W} {o k : Nat} {v : Int} (h : px_fo w w1) (ho : 7 ≤ o ∧ o ≤ 36) : px_fo w (fa_st w1 o k v) := fun i j q => (fa_st_ne (by omega)).trans (h i j q)
theorem px_k_fo {w w' : fa_W} (h : px_k w w') : px_fo w w' := fun o k q => h o k (by omega)
def px_fr (la lt si nd sl : Nat) (w w' : fa_W) : Prop := px_fo w w' ∧ (∀ k, k ≠ 15 → w' 8 k = w 8 k) ∧ (∀ o k, (o = 10 ∨ o = 12 ∨ o = 14 ∨ o = 16) → k < nd → w' o k = w o k) ∧ (∀ k, k < 3 * nd → w' 18 k = w 18 k) ∧ (∀ k, k < si → w' 20 k = w 20 k) ∧ (∀ o k, (o = 22 ∨ o = 24) → pk_lb k la lt → w' o k = w o k) ∧ (∀ k, k < 6 + la → w' 28 k = w 28 k) ∧ (∀ k, w' 26 k = w 26 k) ∧ ∀ k, k < sl → w' 36 k = w 36 k
theorem px_fr_refl (la lt si nd sl : Nat) (w : fa_W) : px_fr la lt si nd sl w w := ⟨px_fo_refl w, fun _ _ => rfl, fun _ _ _ _ => rfl, fun _ _ => rfl, fun _ _ => rfl, fun _ _ _ _ => rfl, fun _ _ => rfl, fun _ => rfl, fun _ _ => rfl⟩
theorem px_fr_tr {la lt si nd sl la1 lt1 si1 nd1 sl1 : Nat} {w w1 w2 : fa_W} (h1 : px_fr la lt si nd sl w w1) (h2 : px_fr la1 lt1 si1 nd1 sl1 w1 w2) (a : pk_ge (la, lt, si, nd) (la1, lt1, si1, nd1)) (b : sl ≤ sl1) : px_fr la lt si nd sl w w2 := by
  obtain ⟨b1, b2, b3, b4, b5, b6, b7, b8, b9⟩ := h1
  obtain ⟨c1, c2, c3, c4, c5, c6, c7, c8, c9⟩ := h2
  obtain ⟨a1, a2, a3, a4⟩ := a
  dsimp only at a1 a2 a3 a4
  refine ⟨px_fo_tr b1 c1, fun k q => (c2 k q).trans (b2 k q), fun o k q r => (c3 o k q (by omega)).trans (b3 o k q r), fun k r => (c4 k (by omega)).trans (b4 k r), fun k r => (c5 k (by omega)).trans (b5 k r), fun o k q r => (c6 o k q (pk_lb_mono r a1 a2)).trans (b6 o k q r), fun k r => (c7 k (by omega)).trans (b7 k r), fun k => (c8 k).trans (b8 k), fun k r => (c9 k (by omega)).trans (b9 k r)⟩
theorem px_k_fr {la lt si nd sl : Nat} {w w' : fa_W} (h : px_k w w') : px_fr la lt si nd sl w w' := ⟨px_k_fo h, fun k _ => h 8 k (by omega), fun o k q _ => h o k (by omega), fun k _ => h 18 k (by omega), fun k _ => h 20 k (by omega), fun o k q _ => h o k (by omega), fun k _ => h 28 k (by omega), fun k => h 26 k (by omega), fun k _ => h 36 k (by omega)⟩
theorem px_fr_7 {la lt si nd sl : Nat} {w w1 : fa_W} {k : Nat} {v : Int} (h : px_fr la lt si nd sl w w1) : px_fr la lt si nd sl w (fa_st w1 7 k v) := by
  obtain ⟨b1, b2, b3, b4, b5, b6, b7, b8, b9⟩ := h
  exact ⟨px_fo_st b1 (by decide), fun k q => (fa_st_ne (by omega)).trans (b2 k q), fun o k q r => (fa_st_ne (by omega)).trans (b3 o k q r), fun k r => (fa_st_ne (by omega)).trans (b4 k r), fun k r => (fa_st_ne (by omega)).trans (b5 k r), fun o k q r => (fa_st_ne (by omega)).trans (b6 o k q r), fun k r => (fa_st_ne (by omega)).trans (b7 k r), fun k => (fa_st_ne (by omega)).trans (b8 k), fun k r => (fa_st_ne (by omega)).trans (b9 k r)⟩
/-- how a row is added to: only it and its cells -/
theorem px_add_o {r : Nat} {v : Int} {w : fa_W} {o k : Nat} (h1 : o ≠ r) (h2 : o ≠ fa_rf r 0) : fr_add r v w o k = w o k := by
  unfold fr_add
  split
  · rw [fa_st_ne (fun q => h1 q.1), fa_st_ne (fun q => h2 q.1)]
  · rfl
theorem px_set_o {r : Nat} {a v : Int} {w : fa_W} {o k : Nat} (h2 : o ≠ fa_rf r 0) : fr_set r a v w o k = w o k := by
  unfold fr_set
  split
  · rw [fa_st_ne (fun q => h2 q.1)]
  · rfl
theorem px_padd_o {K v h a b c : Int} {w : fa_W} {o k : Nat} (ho : o < 9 ∨ 28 < o) : (fm_Program_add 8 K v h a b c w).2 o k = w o k := by
  have j : ∀ (x7 s0 : Int) (w : fa_W), (fm_Program_add_j57 8 K v h a b c x7 s0 w).2 o k = w o k := by
    intro x7 s0 w
    unfold fm_Program_add_j57
    dsimp only [fa_let]
    have e : fr_add (fa_rf 8 4) c (fr_add (fa_rf 8 4) b (fr_add (fa_rf 8 4) a (fr_add (fa_rf 8 3) s0 w))) o k = w o k := by
      rw [px_add_o (r := fa_rf 8 4) (by show o ≠ 17; omega) (by show o ≠ 18; omega), px_add_o (r := fa_rf 8 4) (by show o ≠ 17; omega) (by show o ≠ 18; omega), px_add_o (r := fa_rf 8 4) (by show o ≠ 17; omega) (by show o ≠ 18; omega), px_add_o (r := fa_rf 8 3) (by show o ≠ 15; omega) (by show o ≠ 16; omega)]
    split
    · dsimp only
      rw [px_set_o (r := fa_rf 8 5) (by show o ≠ 20; omega)]; exact e
    · split
      · dsimp only
        rw [px_set_o (r := fa_rf 8 7) (by show o ≠ 24; omega)]; exact e
      · split
        · dsimp only
          rw [px_set_o (r := fa_rf 8 9) (by show o ≠ 28; omega), px_set_o (r := fa_rf 8 7) (by show o ≠ 24; omega)]; exact e
        · exact e
  unfold fm_Program_add
  dsimp only [fa_let]
  have e : fr_add (fa_rf 8 2) h (fr_add (fa_rf 8 1) v (fr_add (fa_rf 8 0) K w)) o k = w o k := by
    rw [px_add_o (r := fa_rf 8 2) (by show o ≠ 13; omega) (by show o ≠ 14; omega), px_add_o (r := fa_rf 8 1) (by show o ≠ 11; omega) (by show o ≠ 12; omega), px_add_o (r := fa_rf 8 0) (by show o ≠ 9; omega) (by show o ≠ 10; omega)]
  split
  · rw [j]; exact e
  · rw [j]; exact e
/-! behind a fault: nothing is taken any more -/
def px_D (z : Nat) (w : fa_W) : Prop := (w 7 7 = (z : Int) ∨ (w 7 7 = -1 ∧ w 7 5 = (z : Int))) ∧ w 7 4 = 3 ∧ (∃ k : Nat, k ≤ 21 ∧ w 35 1 = (k : Int)) ∧ z ≤ 400
theorem px_D_of {z : Nat} {w w' : fa_W} (h : px_D z w) (h1 : w' 7 7 = w 7 7) (h2 : w' 7 5 = w 7 5) (h3 : w' 7 4 = w 7 4) (h4 : w' 35 1 = w 35 1) : px_D z w' := by
  unfold px_D
  rw [h1, h2, h3, h4]
  exact h
theorem px_fail_D {z : Nat} {w : fa_W} (h : px_D z w) : px_D z (fm_Reader_fail w) ∧ px_fo w (fm_Reader_fail w) ∧ ∀ o k, ¬ (o = 7 ∧ (k = 4 ∨ k = 7)) → fm_Reader_fail w o k = w o k := by
  obtain ⟨h1, h2, h3, h4⟩ := h
  unfold fm_Reader_fail fm_Reader_fail_j16
  dsimp only [fa_let]
  rcases h1 with h1 | ⟨h1, h5⟩
  · rw [h1, pb_wr (by omega), if_neg (by omega)]
    exact ⟨⟨Or.inl (by rw [fa_st_ne (by decide)]; exact h1), fa_st_eq _ _ _ _, h3, h4⟩, px_fo_st (px_fo_refl w) (by decide), fun o k q => fa_st_ne (by omega)⟩
  · rw [h1, pb_wr1, if_pos rfl]
    exact ⟨⟨Or.inl (by rw [fa_st_ne (by decide), fa_st_eq]; exact h5), fa_st_eq _ _ _ _, h3, h4⟩, px_fo_st (px_fo_st (px_fo_refl w) (by decide)) (by decide), fun o k q => (fa_st_ne (by omega)).trans (fa_st_ne (by omega))⟩
/-- the first fault -/
theorem px_fail_S {w : fa_W} {s k : Nat} (hf : w 7 7 = -1) (h5 : w 7 5 = (s : Int)) (hs : s ≤ 400) (hk : w 35 1 = (k : Int)) (hk2 : k ≤ 21) : px_D s (fm_Reader_fail w) ∧ px_fo w (fm_Reader_fail w) := by
  unfold fm_Reader_fail fm_Reader_fail_j16
  dsimp only [fa_let]
  rw [hf, pb_wr1, if_pos rfl]
  exact ⟨⟨Or.inl (by rw [fa_st_ne (by decide), fa_st_eq]; exact h5), fa_st_eq _ _ _ _, ⟨k, hk2, by rw [fa_st_ne (by decide), fa_st_ne (by decide)]; exact hk⟩, hs⟩, px_fo_st (px_fo_st (px_fo_refl w) (by decide)) (by decide)⟩
theorem px_expect_D {z : Nat} {w : fa_W} (h : px_D z w) {k : Nat} (hk : k ≠ 3) (hk2 : k < 2147483648) : pb_ok (fm_Reader_expect (k : Int) w) (fun w' => px_D z w' ∧ px_fo w w') := by
  unfold fm_Reader_expect
  rw [h.2.1, pb_wr hk2, fa_wr_id (x := 3) (by omega) (by omega), if_neg (by omega)]
  exact pb_some ⟨(px_fail_D h).1, (px_fail_D h).2.1⟩
theorem px_nameV_D {z : Nat} {w : fa_W} (h : px_D z w) (v : Int) : pb_ok (fm_Reader_nameVariable v w) (fun w' => px_D z w' ∧ px_fo w w') := by
  unfold fm_Reader_nameVariable fm_Reader_nameVariable_j23
  rw [h.2.1, fa_wr_id (x := 3) (by omega) (by omega), if_neg (by decide)]
  exact pb_bindm (px_expect_D (k := 2) h (by decide) (by decide)) (fun w' q => pb_some q)
theorem px_padd_D {z : Nat} {w : fa_W} (h : px_D z w) (K v hh a b c : Int) : px_D z (fm_Program_add 8 K v hh a b c w).2 ∧ px_fo w (fm_Program_add 8 K v hh a b c w).2 := ⟨px_D_of h (px_padd_o (by omega)) (px_padd_o (by omega)) (px_padd_o (by omega)) (px_padd_o (by omega)), fun o k q => px_padd_o (by omega)⟩
