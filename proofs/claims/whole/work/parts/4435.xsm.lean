theorem ps_tk_lt {c : Nat → Int} {n s : Nat} : ps_tk c n s < 2147483648 := by
  by_cases h : 93 ≤ ps_tk c n s
  · have := ps_tk_word h
    have k := this.2.2.1
    rw [← this.2.2.2.1] at k
    unfold ps_kw at k
    have := of_decide_eq_true k
    omega
  · omega
def px_r (c : Nat → Int) (n s : Nat) (w : fa_W) : Prop := px_tx c n w ∧ px_tok c n s w ∧ w 7 7 = -1 ∧ ∃ k : Nat, k ≤ 21 ∧ w 35 1 = (k : Int)
theorem px_r_k {c : Nat → Int} {n s s' : Nat} {w w' : fa_W} (h : px_r c n s w) (t : px_tok c n s' w') (k : px_k w w') : px_r c n s' w' := by
  obtain ⟨h1, h2, h3, m, h4, h5⟩ := h
  exact ⟨px_k_tx k h1, t, by rw [k 7 7 (by omega)]; exact h3, m, h4, by rw [k 35 1 (by omega)]; exact h5⟩
theorem px_fail_1 {z : Nat} {w : fa_W} (h : px_D z w) : fm_Reader_fail w 7 7 = (z : Int) := by
  obtain ⟨h1, h2, h3, h4⟩ := h
  unfold fm_Reader_fail fm_Reader_fail_j16
  dsimp only [fa_let]
  rcases h1 with h1 | ⟨h1, h5⟩
  · rw [h1, pb_wr (by omega), if_neg (by omega), fa_st_ne (by decide)]; exact h1
  · rw [h1, pb_wr1, if_pos rfl, fa_st_ne (by decide), fa_st_eq]; exact h5
theorem px_fail_r {c : Nat → Int} {n s : Nat} {w : fa_W} (h : px_r c n s w) (hs : s ≤ n) : px_D s (fm_Reader_fail w) ∧ px_fo w (fm_Reader_fail w) ∧ fm_Reader_fail w 7 7 = (s : Int) := by
  obtain ⟨h1, h2, h3, m, h4, h5⟩ := h
  have hn := h1.2.1
  refine ⟨(px_fail_S h3 h2.2.2.1 (by omega) h5 h4).1, (px_fail_S h3 h2.2.2.1 (by omega) h5 h4).2, ?_⟩
  unfold fm_Reader_fail fm_Reader_fail_j16
  dsimp only [fa_let]
  rw [h3, pb_wr1, if_pos rfl, fa_st_ne (by decide), fa_st_eq]
  exact h2.2.2.1
theorem px_adv_D {z : Nat} {w : fa_W} (h : w 7 7 = (z : Int)) (hz : z ≤ 400) : fm_Reader_advance w = some w := by
  unfold fm_Reader_advance
  rw [h, pb_wr (by omega), if_neg (by omega)]
theorem px_adv_r {c : Nat → Int} {n s : Nat} {w : fa_W} (h : px_r c n s w) (ht : ps_te c n s ≤ n) : pb_ok (fm_Reader_advance w) (fun w' => px_r c n (ps_sk c n (ps_te c n s)) w' ∧ px_k w w') := pb_mono (px_advance h.1 h.2.2.1 h.2.1.1 ht) (fun _ q => ⟨px_r_k h q.1 q.2, q.2⟩)
theorem px_expect_R {c : Nat → Int} {n s k : Nat} {w : fa_W} (h : px_r c n s w) (hs : s ≤ n) (hk0 : k ≠ 0) (hk : k < 2147483648) : pb_ok (fm_Reader_expect (k : Int) w) (fun w' => (ps_tk c n s = k ∧ px_r c n (ps_sk c n (ps_te c n s)) w' ∧ px_k w w') ∨ (ps_tk c n s ≠ k ∧ px_D s w' ∧ px_fo w w')) := by
  unfold fm_Reader_expect
  rw [h.2.1.2.1, pb_wr ps_tk_lt, pb_wr hk]
  by_cases e : ps_tk c n s = k
  · rw [if_pos (by omega)]
    have sl := ps_lt h.1.1 (s := s) (by omega)
    exact pb_bindm (px_adv_r h (ps_te_p h.1.1 sl).2) (fun w' q => pb_some (Or.inl ⟨e, q.1, q.2⟩))
  · rw [if_neg (by omega)]
    have f := px_fail_r h hs
    exact pb_some (Or.inr ⟨e, f.1, f.2.1⟩)
theorem px_nameV_R {c : Nat → Int} {n s v : Nat} {w : fa_W} (h : px_r c n s w) (hs : s ≤ n) (h21 : w 21 1 = ((74 : Nat) : Int)) (hv : v < 10000) : pb_ok (fm_Reader_nameVariable (v : Int) w) (fun w' => (ps_tk c n s = 2 ∧ px_r c n (ps_sk c n (ps_te c n s)) w' ∧ (v < 74 → w' 22 v = ((ps_tv c n s : Nat) : Int)) ∧ ∀ o k, ¬ (o = 7 ∧ 3 ≤ k ∧ k ≤ 6) → ¬ (o = 22 ∧ k = v) → w' o k = w o k) ∨ (ps_tk c n s ≠ 2 ∧ px_D s w' ∧ px_fo w w')) := by
  unfold fm_Reader_nameVariable fm_Reader_nameVariable_j23
  rw [h.2.1.2.1, pb_wr ps_tk_lt]
  by_cases e : ps_tk c n s = 2
  · rw [if_pos (by omega)]
    dsimp only [fa_let]
    rw [show fa_rf 8 6 = 21 from rfl, h.2.1.2.2.2 (Or.inr e)]
    have keep : ∀ o k, ¬ (o = 22 ∧ k = v) → fr_set 21 (v : Int) ((ps_tv c n s : Nat) : Int) w o k = w o k := by
      intro o k q
      by_cases h74 : v < 74
      · exact (px_set1 (r := 21) rfl h21 h74 (by decide)).2 o k q
      · rw [pb_set_out h21 (by omega) (by omega)]
    have h' : px_r c n s (fr_set 21 (v : Int) ((ps_tv c n s : Nat) : Int) w) := by
      obtain ⟨h1, h2, h3, m, h4, h5⟩ := h
      refine ⟨px_tx_of h1 (keep 1 1 (by omega)) (fun k => keep 2 k (by omega)), ⟨by rw [keep 7 3 (by omega)]; exact h2.1, by rw [keep 7 4 (by omega)]; exact h2.2.1, by rw [keep 7 5 (by omega)]; exact h2.2.2.1, by rw [keep 7 6 (by omega)]; exact h2.2.2.2⟩, by rw [keep 7 7 (by omega)]; exact h3, m, h4, by rw [keep 35 1 (by omega)]; exact h5⟩
    refine pb_bindm (px_expect_R (k := 2) h' hs (by decide) (by decide)) (fun w' q => pb_some ?_)
    rcases q with ⟨q1, q2, q3⟩ | ⟨q1, _⟩
    · refine Or.inl ⟨e, q2, fun h74 => ?_, fun o k r1 r2 => (q3 o k r1).trans (keep o k r2)⟩
      rw [q3 22 v (by omega)]
      exact (px_set1 (r := 21) rfl h21 h74 (by decide)).1
    · exact absurd e q1
  · rw [if_neg (by omega)]
    refine pb_bindm (px_expect_R (k := 2) h hs (by decide) (by decide)) (fun w' q => pb_some ?_)
    rcases q with ⟨q1, _⟩ | ⟨q1, q2⟩
    · exact absurd q1 e
    · exact Or.inr ⟨e, q2⟩
theorem px_count_ok {w : fa_W} {th : Nat} (h : w 7 9 = (th : Int)) (ht : th < 100) : fm_Reader_countThing w = fa_st w 7 9 ((th + 1 : Nat) : Int) := by
  unfold fm_Reader_countThing
  dsimp only [fa_let]
  rw [h, fa_st_eq, show (th : Int) + 1 = ((th + 1 : Nat) : Int) from rfl, pb_wr (by omega), if_pos (by omega)]
theorem px_count_bad {w : fa_W} (h : w 7 9 = ((100 : Nat) : Int)) : fm_Reader_countThing w = fm_Reader_fail (fa_st w 7 9 101) := by
  unfold fm_Reader_countThing
  dsimp only [fa_let]
  rw [h, fa_st_eq, show ((100 : Nat) : Int) + 1 = 101 from rfl, fa_wr_id (x := 101) (by omega) (by omega), if_neg (by decide)]
theorem px_nest_ok {w : fa_W} {ne : Nat} (h : w 7 8 = (ne : Int)) (ht : ne < 20) : fm_Reader_nest w = (true, fa_st w 7 8 ((ne + 1 : Nat) : Int)) := by
  unfold fm_Reader_nest
  rw [h, pb_wr (by omega), if_pos (by omega)]
  rfl
theorem px_nest_bad {w : fa_W} {ne : Nat} (h : w 7 8 = (ne : Int)) (ht : 20 ≤ ne) (hn : ne < 100000) : fm_Reader_nest w = (false, fm_Reader_fail w) := by
  unfold fm_Reader_nest
  rw [h, pb_wr (by omega), if_neg (by omega)]
  rfl
theorem px_r_7 {c : Nat → Int} {n s : Nat} {w : fa_W} (h : px_r c n s w) {k : Nat} {v : Int} (hk : 8 ≤ k) : px_r c n s (fa_st w 7 k v) := by
  obtain ⟨h1, h2, h3, m, h4, h5⟩ := h
  refine ⟨px_tx_of h1 (fa_st_ne (by omega)) (fun k => fa_st_ne (by omega)), ⟨by rw [fa_st_ne (by omega)]; exact h2.1, by rw [fa_st_ne (by omega)]; exact h2.2.1, by rw [fa_st_ne (by omega)]; exact h2.2.2.1, by rw [fa_st_ne (by omega)]; exact h2.2.2.2⟩, by rw [fa_st_ne (by omega)]; exact h3, m, h4, by rw [fa_st_ne (by omega)]; exact h5⟩
theorem px_D_7 {z : Nat} {w : fa_W} (h : px_D z w) {k : Nat} {v : Int} (hk : 8 ≤ k) : px_D z (fa_st w 7 k v) := px_D_of h (fa_st_ne (by omega)) (fa_st_ne (by omega)) (fa_st_ne (by omega)) (fa_st_ne (by omega))
theorem px_sadd_D {z : Nat} {w : fa_W} (h : px_D z w) (v : Int) : px_D z (fr_add 35 v w) ∧ px_fo w (fr_add 35 v w) := by
  have o35 : ∀ o k, o ≠ 35 → o ≠ 36 → fr_add 35 v w o k = w o k := fun o k h1 h2 => px_add_o h1 h2
  obtain ⟨h1, h2, ⟨m, h4, h5⟩, h6⟩ := h
  refine ⟨⟨by rw [o35 7 7 (by decide) (by decide), o35 7 5 (by decide) (by decide)]; exact h1, by rw [o35 7 4 (by decide) (by decide)]; exact h2, ?_, h6⟩, fun o k q => o35 o k (by omega) (by omega)⟩
  by_cases e : m < 21
  · exact ⟨m + 1, by omega, (px_ad1 (r := 35) rfl h5 (by show m < 21; exact e)).1⟩
  · refine ⟨m, h4, ?_⟩
    unfold fr_add
    rw [h5, pb_wr (by omega), if_neg (by intro q; have : fa_cp 35 = 21 := rfl; omega)]
    exact h5
theorem px_sdrop_D {z : Nat} {w : fa_W} (h : px_D z w) : px_D z (fr_drop 35 w).2 ∧ px_fo w (fr_drop 35 w).2 := by
  obtain ⟨h1, h2, ⟨m, h4, h5⟩, h6⟩ := h
  cases m with
  | zero =>
    have e : (fr_drop 35 w).2 = w := by
      unfold fr_drop fm_Row_cut
      dsimp only
      rw [h5, show ((0 : Nat) : Int) - 1 = -1 from rfl, pb_wr1, if_pos (by decide)]
    rw [e]
    exact ⟨⟨h1, h2, ⟨0, h4, h5⟩, h6⟩, px_fo_refl w⟩
  | succ m =>
    rw [pb_drop (r := 35) h5 (by show m + 1 ≤ 21; exact h4)]
    dsimp only
    exact ⟨⟨by rw [fa_st_ne (by decide), fa_st_ne (by decide)]; exact h1, by rw [fa_st_ne (by decide)]; exact h2, ⟨m, by omega, fa_st_eq _ _ _ _⟩, h6⟩, px_fo_st (px_fo_refl w) (by decide)⟩
/-- what the class's reader answers, as the spec's -/
def px_R (c : Nat → Int) (n : Nat) : ps_E → ps_S → fa_W → ps_R → Int × fa_W → Prop
  | _, _, _, none, _ => False
  | _, _, w, some (.error z), q => px_D z q.2 ∧ px_fo w q.2
  | (gl, sc, ow, ne), (_, _, la, _, lt, si, nd), w, some (.ok (t, s')), q => q.1 = ((s'.2.2.2.2.2.2 - 1 : Nat) : Int) ∧ px_S c n (gl, sc, ow, ne) s' q.2 ∧ px_H 8 s'.2.2.2.1 t ow nd q.2 ∧ px_fr la lt si nd sc.length w q.2
def px_RC (c : Nat → Int) (n : Nat) (rs : ps_E → ps_S → ps_R) (rm : fa_W → Option (Int × fa_W)) : Prop := ∀ e s w, ps_SI n e s → px_S c n e s w → rs e s ≠ none → pb_ok (rm w) (px_R c n e s w (rs e s))
def px_DF (rm : fa_W → Option (Int × fa_W)) : Prop := ∀ w z, px_D z w → pb_ok (rm w) (fun q => px_D z q.2 ∧ px_fo w q.2)
theorem px_S_r {c : Nat → Int} {n : Nat} {e : ps_E} {s : ps_S} {w : fa_W} (hs : ps_SI n e s) (h : px_S c n e s w) : px_r c n (ps_sk c n s.1) w := by
  obtain ⟨gl, sc, ow, ne⟩ := e
  obtain ⟨p, th, la, ins, lt, si, nd⟩ := s
  have a10 : sc.length ≤ ne + 1 := hs.2.2.2.2.2.2.2.2.2.1
  have hne : ne ≤ 20 := h.2.2.2.2.2.2.2.2.2.2.2.2.2
  exact ⟨h.1, h.2.1, h.2.2.1, sc.length, by omega, h.2.2.2.2.2.2.2.2.2.2.2.1⟩
theorem px_sc_of {ins ins' : List Nat} : ∀ (sc : List (Nat × Nat)) {w w' : fa_W}, (∀ k, k < sc.length → w' 36 k = w 36 k) → (∀ b ∈ sc, px_xi ins' b.1 = px_xi ins b.1 ∧ w' 22 (px_xi ins b.1) = w 22 (px_xi ins b.1)) → px_sc ins sc w → px_sc ins' sc w' := by
  intro sc
  induction sc with
  | nil => intro w w' _ _ _; trivial
  | cons b r ih =>
    intro w w' h1 h2 h
    have hb := h2 b List.mem_cons_self
    refine ⟨?_, ?_, ?_, ih (fun k hk => h1 k (by rw [List.length_cons]; omega)) (fun b hb => h2 b (List.mem_cons_of_mem _ hb)) h.2.2.2⟩
    · rw [h1 _ (by rw [List.length_cons]; omega), hb.1]; exact h.1
    · rw [hb.1]; exact h.2.1
    · rw [hb.1, hb.2]; exact h.2.2.1
theorem px_gl_of {gl : List Nat} {w w' : fa_W} (h : px_gl gl w) (h1 : w' 8 13 = w 8 13) (h2 : w' 25 1 = w 25 1) (h3 : ∀ k, w' 26 k = w 26 k) : px_gl gl w' := ⟨h1.trans h.1, h2.trans h.2.1, fun k x q => (h3 k).trans (h.2.2 k x q)⟩
/-- only numbers of the reader's own have changed -/
theorem px_S_7 {c : Nat → Int} {n : Nat} {gl : List Nat} {sc : List (Nat × Nat)} {ow : Int} {ne p th la lt si nd : Nat} {ins : List Nat} {w : fa_W} (h : px_S c n (gl, sc, ow, ne) (p, th, la, ins, lt, si, nd) w) {ow' : Int} {ne' p' th' la' lt' si' : Nat} {w' : fa_W} (e : ∀ o k, o ≠ 7 → ¬ (o = 8 ∧ k = 15) → w' o k = w o k) (tok : px_tok c n (ps_sk c n p') w') (e7 : w' 7 7 = -1) (e8 : w' 7 8 = (ne' : Int)) (e9 : w' 7 9 = (th' : Int)) (e10 : w' 7 10 = (la' : Int)) (e11 : w' 7 11 = (lt' : Int)) (e12 : w' 7 12 = ow') (e15 : w' 8 15 = (si' : Int)) (hne : ne' ≤ 20) : px_S c n (gl, sc, ow', ne') (p', th', la', ins, lt', si', nd) w' := by
  obtain ⟨h1, h2, h3, h4, h5, h6, h7, h8, h9, h10, h11, h12, h13, h14⟩ := h
  obtain ⟨z1, z2, z3, z4, z5, z6, z7, z8, z9⟩ := h10
  refine ⟨px_tx_of h1 (e 1 1 (by decide) (by decide)) (fun k => e 2 k (by decide) (by omega)), tok, e7, e8, e9, e10, e11, e12, e15, ⟨?_, ?_, ?_, ?_, ?_, ?_, ?_, ?_, ?_⟩, px_gl_of h11 (e 8 13 (by decide) (by decide)) (e 25 1 (by decide) (by decide)) (fun k => e 26 k (by decide) (by omega)), ?_, px_sc_of sc (fun k _ => e 36 k (by decide) (by omega)) (fun b _ => ⟨rfl, e 22 _ (by decide) (by omega)⟩) h13, hne⟩
  all_goals (rw [e _ 1 (by decide) (by decide)]; assumption)
theorem px_lbx {ins : List Nat} {v la lt : Nat} (hla : la ≤ 18) (hi : ∀ x ∈ ins, 24 ≤ x ∧ x < 24 + lt) (h : pk_lb v la ins.length) (k : Nat) (hk : (k = 6 + la ∧ la < 18) ∨ 24 + lt ≤ k) : px_xi ins v ≠ k := by
  have := px_xi_lb hla hi h
  unfold pk_lb at this
  omega
theorem px_un_7 {nd K v k : Nat} : px_un nd K v 7 k := by unfold px_un; omega
theorem px_fin {c : Nat → Int} {n : Nat} {gl : List Nat} {sc : List (Nat × Nat)} {ow : Int} {ne p th la lt si nd K v st : Nat} {ins : List Nat} {a b d : Int} {w : fa_W} (h : px_S c n (gl, sc, ow, ne) (p, th, la, ins, lt, si, nd) w) (hnd : nd < 100) (hst : (fa_wr a = -1 ∧ st = nd) ∨ ∃ a' : Nat, a = (a' : Int) ∧ a' < nd ∧ w 16 a' = (st : Int)) (hK : K ≤ 9) (h9 : K = 9 → v < 100) (h7 : K = 7 → v < 74) (h5 : K = 5 → v < 24) : ∃ w', fm_Program_add 8 (K : Int) (v : Int) (w 7 12) a b d w = ((nd : Int), w') ∧ px_N 8 w' nd K v ow st a b d ∧ px_S c n (gl, sc, ow, ne) (p, th, la, ins, lt, si, nd + 1) w' ∧ (K = 9 → w' 20 v = (nd : Int)) ∧ (K = 7 ∨ K = 5 → w' 24 v = (nd : Int)) ∧ (K = 5 → w' 28 v = a) ∧ ∀ o k, px_un nd K v o k → w' o k = w o k := by
  obtain ⟨e1, e2, e3, e4, e5, e6, e7, e8, e9, e10, e11, e12, e13, e14⟩ := h
  obtain ⟨w', q1, q2, q3, q4, q5, q6, q7⟩ := px_padd (a := a) (b := b) (c := d) (h := ow) e10 hnd hst hK h9 h7 h5
  have u7 : ∀ k, w' 7 k = w 7 k := fun k => q7 7 k px_un_7
  refine ⟨w', by rw [e8]; exact q1, q2, ⟨px_tx_of e1 (q7 1 1 (by unfold px_un; omega)) (fun k => q7 2 k (by unfold px_un; omega)), ⟨by rw [u7]; exact e2.1, by rw [u7]; exact e2.2.1, by rw [u7]; exact e2.2.2.1, by rw [u7]; exact e2.2.2.2⟩, by rw [u7]; exact e3, by rw [u7]; exact e4, by rw [u7]; exact e5, by rw [u7]; exact e6, by rw [u7]; exact e7, by rw [u7]; exact e8, by rw [q7 8 15 (by unfold px_un; omega)]; exact e9, q3, px_gl_of e11 (q7 8 13 (by unfold px_un; omega)) (q7 25 1 (by unfold px_un; omega)) (fun k => q7 26 k (by unfold px_un; omega)), by rw [q7 35 1 (by unfold px_un; omega)]; exact e12, px_sc_of sc (fun k _ => q7 36 k (by unfold px_un; omega)) (fun b _ => ⟨rfl, q7 22 _ (by unfold px_un; omega)⟩) e13, e14⟩, q4, q5, q6, q7⟩
theorem px_un_fr {la lt si nd sl m K v : Nat} {w w' : fa_W} (h : ∀ o k, px_un m K v o k → w' o k = w o k) (hm : nd ≤ m) (h9 : K = 9 → si ≤ v) (h7 : K = 7 ∨ K = 5 → ¬ pk_lb v la lt) (h5 : K = 5 → 6 + la ≤ v) : px_fr la lt si nd sl w w' := by
  refine ⟨fun o k q => h o k (by unfold px_un; omega), fun k q => h 8 k (by unfold px_un; omega), fun o k q r => h o k (by unfold px_un; omega), fun k r => h 18 k (by unfold px_un; omega), fun k r => h 20 k (by unfold px_un; omega), fun o k q r => h o k ?_, fun k r => h 28 k (by unfold px_un; omega), fun k => h 26 k (by unfold px_un; omega), fun k r => h 36 k (by unfold px_un; omega)⟩
  unfold px_un
  refine ⟨by omega, by omega, by omega, by omega, fun z => h7 z.2.2 (z.2.1 ▸ r), by omega⟩
theorem px_un_ht {lt m K v V : Nat} {k k' : pk_K} {w w' : fa_W} (h : ∀ o k, px_un m K v o k → w' o k = w o k) (hm : k'.2.2.2 ≤ m) (h9 : K = 9 → v < k.2.2.1 ∨ k'.2.2.1 ≤ v) (h7 : K = 7 ∨ K = 5 → v = V) (h5 : K = 5 → v < 6 + k.1 ∨ 6 + k'.1 ≤ v) : px_ht 8 V lt k k' w w' := by
  refine ⟨fun i j q r s => h i j (by unfold px_un; omega), fun j r s => h 18 j (by unfold px_un; omega), fun j r s => h 20 j (by unfold px_un; omega), fun i j q r s => h i j (by unfold px_un; omega), fun j r s => h 28 j (by unfold px_un; omega), fun j => h 26 j (by unfold px_un; omega)⟩
theorem px_fr_ht {la lt si nd sl V : Nat} {k k' : pk_K} {w w' : fa_W} (h : px_fr la lt si nd sl w w') (a1 : k'.1 ≤ la) (a3 : k'.2.2.1 ≤ si) (a4 : k'.2.2.2 ≤ nd) : px_ht 8 V lt k k' w w' := ⟨fun i j q r s => h.2.2.1 i j (by omega) (by omega), fun j r s => h.2.2.2.1 j (by omega), fun j r s => h.2.2.2.2.1 j (by omega), fun i j q r _ => h.2.2.2.2.2.1 i j (by omega) (pk_lb_mono r a1 (Nat.le_refl _)), fun j r s => h.2.2.2.2.2.2.1 j (by omega), fun j => h.2.2.2.2.2.2.2.1 j⟩
