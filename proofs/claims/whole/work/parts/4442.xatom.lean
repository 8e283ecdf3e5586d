theorem pk_nm_lt {x : Nat} (h : pk_nm x) : x < 2147483648 := by
  obtain ⟨h, -, -⟩ := h
  rcases h with h | ⟨a1, a2, h⟩
  · omega
  rcases h with h | ⟨b1, b2, h⟩
  · omega
  rcases h with h | ⟨c1, c2, h⟩
  · omega
  rcases h with h | ⟨d1, d2, h⟩
  · omega
  have h : x / 256 / 256 / 256 / 256 = 0 := h
  omega
/-- a name among those that are seen -/
theorem px_seen {w : fa_W} {x L : Nat} {ins : List Nat} (hxn : pk_nm x) (h21 : w 21 1 = ((74 : Nat) : Int)) (hL : w 35 1 = (L : Int)) (hL21 : L ≤ 21) : ∀ (sc : List (Nat × Nat)) (F : Nat), px_sc ins sc w → (∀ b ∈ sc, pk_nm b.2) → sc.length ≤ L → sc.length < F → fm_Reader_variableNamed_l10 (x : Int) w F ((sc.length : Int) - 1) = some (match ps_lk sc x with | some v => ((px_xi ins v : Nat) : Int) | none => -1) := by
  intro sc
  induction sc with
  | nil =>
    intro F _ _ _ hF
    obtain ⟨F, rfl⟩ : ∃ z, F = z + 1 := ⟨F - 1, by omega⟩
    show fm_Reader_variableNamed_l10 _ w (F + 1) (-1) = _
    unfold fm_Reader_variableNamed_l10
    rw [pb_wr1, if_pos (by decide)]
    rfl
  | cons b r ih =>
    intro F hsc hb hl hF
    obtain ⟨F, rfl⟩ : ∃ z, F = z + 1 := ⟨F - 1, by omega⟩
    rw [List.length_cons] at hl hF
    have e : (((b :: r).length : Nat) : Int) - 1 = (r.length : Int) := by rw [List.length_cons]; omega
    have nb := hb b List.mem_cons_self
    rw [e]
    unfold fm_Reader_variableNamed_l10
    rw [pb_wr (by omega), if_neg (by omega), pb_at (r := 35) hL (k := r.length) (by omega) hL21, show fa_rf 35 0 = 36 from rfl, hsc.1, show fa_rf 8 6 = 21 from rfl, pb_at (r := 21) h21 (k := px_xi ins b.1) hsc.2.1 (by show 74 ≤ fa_cp 21; decide), show fa_rf 21 0 = 22 from rfl, hsc.2.2.1, pb_wr (pk_nm_lt nb), pb_wr (pk_nm_lt hxn)]
    unfold ps_lk
    by_cases h : b.2 = x
    · rw [if_pos h, if_pos (by rw [h])]
    · rw [if_neg h, if_neg (fun q => h (by omega))]
      have i := ih F hsc.2.2.2 (fun b hb' => hb b (List.mem_cons_of_mem _ hb')) (by omega) (by omega)
      rw [show ((r.length : Int) - 1) = (r.length : Int) + (-1) from rfl] at i
      exact i
theorem px_find {w : fa_W} {x : Nat} (hxn : pk_nm x) {gl : List Nat} (hl : gl.length ≤ 6) (hn : ∀ y ∈ gl, pk_nm y) (hg : px_gl gl w) : fr_find 25 (x : Int) w = match ps_gx gl x 0 with | some g => (g : Int) | none => -1 := by
  have aux : ∀ (r : List Nat) (k : Nat), gl.drop k = r → fr_seek 25 (x : Int) w r.length k = match ps_gx r x k with | some g => (g : Int) | none => -1 := by
    intro r
    induction r with
    | nil => intro k _; rfl
    | cons y r ih =>
      intro k hd
      have gk : gl[k]? = some y := by
        have := congrArg (fun l => l[0]?) hd
        simpa using this
      have gd : gl.drop (k + 1) = r := by
        have := congrArg List.tail hd
        simpa using this
      have ny : pk_nm y := hn y (List.mem_of_getElem? gk)
      rw [List.length_cons]
      unfold fr_seek ps_gx
      rw [show fa_rf 25 0 = 26 from rfl, hg.2.2 k y gk, pb_wr (pk_nm_lt ny), pb_wr (pk_nm_lt hxn)]
      by_cases h : y = x
      · rw [if_pos h, if_pos (by rw [h])]
      · rw [if_neg h, if_neg (fun q => h (by omega))]
        exact ih (k + 1) gd
  unfold fr_find
  rw [hg.2.1, pb_wr (by omega), Int.min_eq_left (by show (gl.length : Int) ≤ ((fa_cp 25 : Nat) : Int); have : fa_cp 25 = 6 := rfl; omega)]
  exact aux gl 0 rfl
/-- a leaf -/
theorem px_leaf_R {c : Nat → Int} {n : Nat} {gl : List Nat} {sc : List (Nat × Nat)} {ow : Int} {ne p th la lt si nd K v : Nat} {ins : List Nat} {t : pt_T} {w : fa_W} (hx : ps_TX c n) (hn : n ≤ 400) (hs : ps_SI n (gl, sc, ow, ne) (p, th, la, ins, lt, si, nd)) (hS : px_S c n (gl, sc, ow, ne) (p, th, la, ins, lt, si, nd) w) (hte : ps_te c n (ps_sk c n p) ≤ n) (hK : K ≤ 4) (hH : ∀ w4 w', px_S c n (gl, sc, ow, ne) (ps_te c n (ps_sk c n p), th + 1, la, ins, lt, si, nd) w4 → px_N 8 w' nd K v ow nd (-1) (-1) (-1) → (∀ o k, px_un nd K v o k → w' o k = w4 o k) → px_H 8 ins t ow nd w') : pb_ok (fm_Reader_leaf (K : Int) (v : Int) w) (px_R c n (gl, sc, ow, ne) (p, th, la, ins, lt, si, nd) w (ps_leaf c n t (p, th, la, ins, lt, si, nd))) := by
  have e : fm_Reader_leaf (K : Int) (v : Int) w = (fm_Reader_startOperator w).bind fun w4 => fa_l2 (fm_Program_add 8 (K : Int) (v : Int) (w4 7 12) (-1) (-1) (-1) w4) fun v6 w7 => some (v6, w7) := by
    unfold fm_Reader_leaf fm_Reader_startOperator
    dsimp only [fa_let]
    cases fm_Reader_advance (fm_Reader_countThing w) with
    | none => rfl
    | some w4 => rfl
  rw [e]
  dsimp only [ps_leaf]
  have n100 : nd ≤ th := (ps_SI_z hs).2.2.2.2.1
  have t100 := (ps_SI_z hs).2.2.2.2.2.2.2.1
  refine pb_bindm (px_startop hx hn hs hS hte) (fun w2 q => ?_)
  rcases q with ⟨c2, d2, f2⟩ | ⟨c2, S2, f2⟩
  · rw [if_pos c2]
    have d3 := px_padd_D d2 (K : Int) (v : Int) (w2 7 12) (-1) (-1) (-1)
    exact pb_some ⟨d3.1, px_fo_tr f2 d3.2⟩
  rw [if_neg c2]
  obtain ⟨w', a1, a2, a3, a4, a5, a6, a7⟩ := px_fin (K := K) (v := v) (st := nd) (a := -1) (b := -1) (d := -1) S2 (by omega) (Or.inl ⟨pb_wr1, rfl⟩) (by omega) (by omega) (by omega) (by omega)
  rw [a1]
  exact pb_some ⟨rfl, a3, hH w2 w' S2 a2 a7, px_fr_tr f2 (px_un_fr a7 (Nat.le_refl _) (by omega) (by omega) (by omega)) (pk_ge_refl _) (Nat.le_refl _)⟩
theorem px_xi_inj0 {ins : List Nat} : ∀ (sc : List (Nat × Nat)) (x v : Nat) (w : fa_W), ps_lk sc x = some v → px_sc ins sc w → w 22 (px_xi ins v) = (x : Int) := by
  intro sc
  induction sc with
  | nil => intro x v w h _; cases h
  | cons b r ih =>
    intro x v w h hh
    unfold ps_lk at h
    split at h
    · rename_i e; cases h; rw [← e]; exact hh.2.2.1
    · exact ih x v w h hh.2.2.2
theorem px_inner_R {c : Nat → Int} {n : Nat} {rs : ps_E → ps_S → ps_R} {rm : fa_W → Option (Int × fa_W)} (hx : ps_TX c n) (hn : n ≤ 400) (hp : ps_RC n rs) (hr : px_RC c n rs rm) (hD : px_DF rm) {gl : List Nat} {sc : List (Nat × Nat)} {ow : Int} {ne p th la lt si nd : Nat} {ins : List Nat} {w : fa_W} (hs : ps_SI n (gl, sc, ow, ne) (p, th, la, ins, lt, si, nd)) (hS : px_S c n (gl, sc, ow, ne) (p, th, la, ins, lt, si, nd) w) (k1 : ps_tk c n (ps_sk c n p) = 40) (hne : (if ne = 20 then ps_er (ps_sk c n p) else ps_bd (rs (gl, sc, ow, ne + 1) (ps_sk c n p + 1, th, la, ins, lt, si, nd)) fun t s1 => ps_ex c n 41 s1.1 fun p1 => ps_re t (p1, s1.2)) ≠ none) : pb_ok (fm_Reader_inner_b rm w) (px_R c n (gl, sc, ow, ne) (p, th, la, ins, lt, si, nd) w (if ne = 20 then ps_er (ps_sk c n p) else ps_bd (rs (gl, sc, ow, ne + 1) (ps_sk c n p + 1, th, la, ins, lt, si, nd)) fun t s1 => ps_ex c n 41 s1.1 fun p1 => ps_re t (p1, s1.2))) := by
  have hrr := px_S_r hs hS
  dsimp only at hrr
  have zq := ps_sk_p hx p hs.1
  have zz := ps_sign hx hs.1 (by decide) (by decide) k1
  obtain ⟨h1, h2, h3, h4, h5, h6, h7, h8, h9, h10, h11, h12, h13, h14⟩ := id hS
  unfold fm_Reader_inner_b
  by_cases c3 : ne = 20
  · rw [if_pos c3, px_nest_bad h4 (by omega) (by omega)]
    have fr := px_fail_r hrr zq.2.1
    exact pb_some ⟨fr.1, fr.2.1⟩
  rw [if_neg c3] at hne ⊢
  rw [px_nest_ok h4 (by omega)]
  dsimp only [fa_l2]
  rw [if_pos rfl]
  have r1 := px_r_7 (k := 8) (v := ((ne + 1 : Nat) : Int)) hrr (by decide)
  have S1 : px_S c n (gl, sc, ow, ne + 1) (p, th, la, ins, lt, si, nd) (fa_st w 7 8 ((ne + 1 : Nat) : Int)) := by
    have nn : ∀ o k, ¬ (o = 7 ∧ k = 8) → fa_st w 7 8 ((ne + 1 : Nat) : Int) o k = w o k := fun o k q => fa_st_ne q
    refine px_S_7 hS (fun o k a b => nn o k (by omega)) r1.2.1 ?_ (fa_st_eq _ _ _ _) ?_ ?_ ?_ ?_ ?_ (by omega)
    · rw [nn 7 7 (by omega)]; exact h3
    · rw [nn 7 9 (by omega)]; exact h5
    · rw [nn 7 10 (by omega)]; exact h6
    · rw [nn 7 11 (by omega)]; exact h7
    · rw [nn 7 12 (by omega)]; exact h8
    · rw [nn 8 15 (by omega)]; exact h9
  have f1 : px_fr la lt si nd sc.length w (fa_st w 7 8 ((ne + 1 : Nat) : Int)) := px_fr_7 (px_fr_refl _ _ _ _ _ _)
  generalize fa_st w 7 8 ((ne + 1 : Nat) : Int) = w5 at S1 f1 r1 ⊢
  refine pb_bindm (px_adv_r r1 (by rw [zz.2.2]; exact zz.2.1)) (fun w7 q => ?_)
  obtain ⟨r7, k7⟩ := q
  rw [zz.2.2] at r7
  have S2 := px_S_k (p' := ps_sk c n p + 1) S1 k7 r7.2.1
  have f2 := px_fr_tr f1 (px_k_fr (sl := sc.length) k7) (pk_ge_refl _) (Nat.le_refl _)
  clear r7 k7 S1 f1 r1
  have i2 : ps_SI n (gl, sc, ow, ne + 1) (ps_sk c n p + 1, th, la, ins, lt, si, nd) := by
    obtain ⟨a1, a2, a3, a4, a5, a6, a7, a8, a9, a10, a11, a12, a13, a14, a15, a16, a17⟩ := hs
    exact ⟨by omega, a2, a3, a4, a5, a6, a7, by omega, by omega, by omega, a11, a12, a13, a14, a15, a16, by omega⟩
  have n2 : rs (gl, sc, ow, ne + 1) (ps_sk c n p + 1, th, la, ins, lt, si, nd) ≠ none := by
    intro r
    rw [r] at hne
    exact hne rfl
  refine pb_bdm (hr _ _ _ i2 S2 n2) (fun v3 w3 g => ?_)
  have T : ∀ (z2 : Nat) (w' : fa_W), px_D z2 w' → px_fo w w' → pb_ok (fa_let (fa_st w' 7 8 ((w' 7 8) - 1)) fun w12 => some (v3, w12)) (fun q => px_D z2 q.2 ∧ px_fo w q.2) := by
    intro z2 w' d o
    exact pb_some ⟨px_D_7 d (by decide), px_fo_st o (by decide)⟩
  cases hq2 : rs (gl, sc, ow, ne + 1) (ps_sk c n p + 1, th, la, ins, lt, si, nd) with
  | none => exact absurd hq2 n2
  | some r =>
  rw [hq2] at g hne
  cases r with
  | error z2 => exact pb_bindm (px_expect_D (k := 41) g.1 (by decide) (by decide)) (fun w4 q => T z2 w4 q.1 (px_fo_tr (px_fo_tr f2.1 g.2) q.2))
  | ok y =>
    obtain ⟨b, S3⟩ := y
    have o2 := hp _ _ _ _ i2 hq2
    have j2 := ps_PO_SI i2 o2
    obtain ⟨p2, th2, la2, ins2, lt2, si2, nd2⟩ := S3
    obtain ⟨x1, x2, x3, x4⟩ := g
    dsimp only at x1 x2 x3 x4
    obtain ⟨d1, d2, d3, d4, d5, d6⟩ := ps_PO_x o2
    have c1 := (ps_PO_w o2).1
    dsimp only [ps_bd, ps_ex]
    have r2 := px_S_r j2 x2
    dsimp only at r2
    have zs := (ps_sk_p hx p2 d1).2.1
    have f3 := px_fr_tr f2 x4 (pk_ge_refl _) (Nat.le_refl _)
    refine pb_bindm (px_expect_R (k := 41) r2 zs (by decide) (by decide)) (fun w4 q => ?_)
    rcases q with ⟨q1, r4, k4⟩ | ⟨q1, d4, o4⟩
    · rw [if_pos q1]
      have S4 := px_S_k (p' := ps_te c n (ps_sk c n p2)) x2 k4 r4.2.1
      obtain ⟨cl1, cl2⟩ := px_S_close S4
      dsimp only [fa_let]
      rw [cl1]
      have g4 : px_fr la2 lt2 si2 nd2 sc.length w3 (fa_st w4 7 8 (ne : Int)) := px_fr_7 (px_k_fr k4)
      have jz := ps_SI_z j2
      have lb0 := (ps_SI_z hs).2.2.1
      have HB := px_H_fr d2 [] d4 d3 lb0 ⟨jz.1, Nat.le_refl _⟩ jz.2.1 g4 x3
      rw [List.append_nil] at HB
      exact pb_some ⟨x1, cl2, HB, px_fr_tr f3 g4 c1 (Nat.le_refl _)⟩
    · rw [if_neg q1]
      exact T _ w4 d4 (px_fo_tr f3.1 o4)
theorem px_atom_R {c : Nat → Int} {n : Nat} {rs : ps_E → ps_S → ps_R} {rm ri : fa_W → Option (Int × fa_W)} (hx : ps_TX c n) (hn : n ≤ 400) (hp : ps_RC n rs) (hr : px_RC c n rs rm) (hD : px_DF rm) (hi : ∀ w, ri w = fm_Reader_inner_b rm w) {e : ps_E} {s : ps_S} {w : fa_W} (hs : ps_SI n e s) (hS : px_S c n e s w) (hne : ps_atom c n false rs e s ≠ none) : pb_ok (fm_Reader_atom_b ri w) (px_R c n e s w (ps_atom c n false rs e s)) := by
  obtain ⟨gl, sc, ow, ne⟩ := e
  obtain ⟨p, th, la, ins, lt, si, nd⟩ := s
  have hrr := px_S_r hs hS
  dsimp only at hrr
  have zq := ps_sk_p hx p hs.1
  obtain ⟨h1, h2, h3, h4, h5, h6, h7, h8, h9, h10, h11, h12, h13, h14⟩ := id hS
  have tt : fa_wr (w 7 4) = ((ps_tk c n (ps_sk c n p) : Nat) : Int) := by rw [h2.2.1, pb_wr ps_tk_lt]
  unfold fm_Reader_atom_b
  dsimp only [ps_atom] at hne ⊢
  rw [tt]
  by_cases k40 : ps_tk c n (ps_sk c n p) = 40
  · rw [if_pos k40] at hne ⊢
    rw [if_pos (by omega), hi]
    have e20 : ∀ (A B : ps_R), (if ne = 20 ∧ (false = false) then A else B) = if ne = 20 then A else B := by
      intro A B
      by_cases q : ne = 20
      · rw [if_pos q, if_pos ⟨q, rfl⟩]
      · rw [if_neg q, if_neg (fun z => q z.1)]
    rw [e20] at hne ⊢
    exact pb_bdm (px_inner_R hx hn hp hr hD hs hS k40 hne) (fun v w' q => pb_some q)
  rw [if_neg k40] at hne ⊢
  rw [if_neg (by omega)]
  have te : ps_tk c n (ps_sk c n p) ≠ 0 → ps_te c n (ps_sk c n p) ≤ n := fun q => (ps_te_p hx (ps_lt hx q)).2
  by_cases k1 : ps_tk c n (ps_sk c n p) = 1
  · rw [if_pos k1]
    rw [if_pos (by omega), h2.2.2.2 (Or.inl k1)]
    exact pb_bdm (px_leaf_R (K := 1) (v := ps_tv c n (ps_sk c n p)) (t := pt_num (ps_tv c n (ps_sk c n p))) hx hn hs hS (te (by omega)) (by decide) (fun _ _ _ q _ => q)) (fun v w' q => pb_some q)
  rw [if_neg k1] at hne ⊢
  rw [if_neg (by omega)]
  by_cases kd : ps_tk c n (ps_sk c n p) = 1684365668
  · rw [if_pos kd]
    rw [if_pos (by omega)]
    exact pb_bdm (px_leaf_R (K := 4) (v := 0) (t := pt_dead nd) hx hn hs hS (te (by omega)) (by decide) (fun _ _ _ q _ => ⟨q, rfl⟩)) (fun v w' q => pb_some q)
  rw [if_neg kd] at hne ⊢
  rw [if_neg (by omega)]
  have bad : pb_ok (fm_Reader_atom_j112 ri w) (px_R c n (gl, sc, ow, ne) (p, th, la, ins, lt, si, nd) w (ps_er (ps_sk c n p))) := by
    have fr := px_fail_r hrr zq.2.1
    unfold fm_Reader_atom_j112
    exact pb_some ⟨fr.1, fr.2.1⟩
  unfold fm_Reader_variableNamed fm_Row_size
  dsimp only [fa_let]
  by_cases k2 : ps_tk c n (ps_sk c n p) = 2
  · rw [if_pos k2]
    have hv := h2.2.2.2 (Or.inr k2)
    have nm := (ps_name hx k2).1
    obtain ⟨a1', a2', a3', a4', a5', a6', a7', a8', a9', a10', a11', a12', a13', a14', a15', a16', a17'⟩ := id hs
    have sn := px_seen (ins := ins) nm h10.2.2.2.2.2.2.1 h12 (by omega) sc fa_FU h13 (fun b hb => (a12' b hb).2) (Nat.le_refl _) (by unfold fa_FU; omega)
    have fd := px_find nm a15' a16' h11
    rw [hv, h12, sn, show fa_rf 8 8 = 25 from rfl, fd]
    dsimp only [Option.bind_some]
    rw [if_pos (by omega)]
    unfold ps_word
    generalize ps_tv c n (ps_sk c n p) = X at hv nm sn fd ⊢
    cases hlk : ps_lk sc X with
    | some v =>
      have lb := hs.2.2.2.2.2.2.2.2.2.2.2.1 _ (ps_lk_mem sc X v hlk)
      have xl := px_xi_lb a5' a13' lb.1
      unfold pk_lb at xl
      dsimp only at xl ⊢
      rw [pb_wr (by omega), if_neg (by omega)]
      refine pb_bdm (px_leaf_R (K := 2) (v := px_xi ins v) (t := pt_var v X) hx hn hs hS (te (by omega)) (by decide) (fun w4 w' S4 q u => ⟨q, ?_⟩)) (fun v w' q => pb_some q)
      show w' 22 (px_xi ins v) = (X : Int)
      rw [u 22 _ (by unfold px_un; omega)]
      exact px_xi_inj0 sc X v w4 hlk S4.2.2.2.2.2.2.2.2.2.2.2.2.1
    | none =>
      dsimp only
      rw [pb_wr1, if_pos rfl]
      unfold fm_Reader_atom_j92
      rw [tt, if_pos (by omega)]
      cases hgx : ps_gx gl X 0 with
      | some g =>
        have gm := ps_gx_mem gl X 0 g hgx
        dsimp only
        rw [pb_wr (by omega), if_neg (by omega)]
        refine pb_bdm (px_leaf_R (K := 3) (v := g) (t := pt_glo g X) hx hn hs hS (te (by omega)) (by decide) (fun w4 w' S4 q u => ⟨q, ?_⟩)) (fun v w' q => pb_some q)
        show w' 26 g = (X : Int)
        rw [u 26 _ (by unfold px_un; omega)]
        exact S4.2.2.2.2.2.2.2.2.2.2.1.2.2 g X gm.2.2
      | none =>
        dsimp only
        rw [pb_wr1, if_pos rfl]
        exact bad
  · rw [if_neg k2]
    obtain ⟨r, hr'⟩ := px_vn_tot (w := w) (w 7 6) sc.length fa_FU (by have := hs.2.2.2.2.2.2.2.2.2.1; omega) (by have := hs.2.2.2.2.2.2.2.2.2.1; unfold fa_FU; omega)
    rw [h12, hr']
    dsimp only [Option.bind_some]
    rw [if_neg (by omega)]
    unfold fm_Reader_atom_j92
    rw [tt, if_neg (by omega)]
    exact bad
