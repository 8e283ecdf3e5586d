theorem rv_EN_en {G nf nv ns : Nat} {fb : Nat → pt_T} {r : pv_R} {hb ho : Nat → Int} {ap : Nat → Bool} (hP : rv_PF G nf nv ns fb r hb ho) : ∀ d, rv_EN G nf nv fb r hb ho (rv_en fb ap d) := by
  intro d
  cases d with
  | zero => exact fun il s a b T X _ _ _ _ _ _ c s' e => by cases e
  | succ d =>
    intro il s a b T X hs h100 hj hl ha hb' c s' e
    obtain ⟨f, hf, e1, e2, e3, e4, e5, e6, e7⟩ := rv_enter (il := il) hP hs h100 hl ha hb'
    have ef : a.2.1.toNat = f := by rw [e1]; rfl
    rw [ef] at e
    obtain ⟨q1, q2, q3, q4⟩ := rv_ok hP d (fb f) e3.1 (f : Int) _ _ e3 e4 c s' e
    refine ⟨q1, rv_gr_tr e5 q2, by rw [← e2]; exact q3, fun i v hi => ?_⟩
    by_cases z : s'.2.1 i v = (rv_nw s f b a.2.2 il.length).2.1 i v
    · rw [z, e6 i v hi]
    · have := (q4 i v (Nat.le_succ_of_le hi) z).1
      change i = s.1 + 1 at this
      omega
theorem px_RL_cut {r : Nat} {l : List Nat} {x : Nat} {w w' : fa_W} (h : px_RL r (l ++ [x]) w) (e : w' r 1 = (l.length : Int)) (o : ∀ j, w' (r + 1) j = w (r + 1) j) : px_RL r l w' := ⟨e, fun i y q => by
  rw [o]
  refine h.2 i y ?_
  have : i < l.length := by
    by_cases z : i < l.length
    · exact z
    · rw [List.getElem?_eq_none (by omega)] at q; cases q
  rw [List.getElem?_append_left this]
  exact q⟩
theorem px_run_N {sc o G nf nv ns nd : Nat} {how A : Int} {ins : List Nat} {fb : Nat → pt_T} {r : pv_R} {hb ho : Nat → Int} {ap : Nat → Bool} {w0 : fa_W} (hP : rv_PF G nf nv ns fb r hb ho) (hX : px_rP sc o nd nf nv ins fb A ap w0) (hsz : ∀ f, f < nf → pt_sz (fb f) < 100) : ∀ d, px_rN sc o how G nf nv fb r hb ho ins A w0 d (rv_en fb ap d) := by
  intro d
  induction d with
  | zero =>
    intro il s a b T X x y Tn Vn w h1 h2 h3
    exact (h2 (by have := h1.1.1; omega)).elim
  | succ d ih =>
    intro il s a b T X x y Tn Vn w h1 h2 h3 h4 h5 h6 h7 h8 h9 h10 h11 h12 h13 h14
    have s100 := h1.1.1
    have nd100 : nd ≤ 100 := hX.2.2.2.1.2.2.2.2.2
    obtain ⟨f, hf, e1, e2, e3, e4, e5, e6, e7⟩ := rv_enter (il := il) hP h1 h2 h5 h6 h7
    have ef : a.2.1.toNat = f := by rw [e1]; rfl
    clear e7
    have hs99 := hsz f hf
    obtain ⟨c, w3, g1, g2, g3, g4, g5, g6, g7, g8, g9⟩ := px_enter hX h8 h9 (by omega) (by omega) h5 h1.1.2.1 h1.1.2.2 hf e1 h13 h14 (fun i v c q => ⟨(h1.2.2 i v c q).1, (h1.2.2 i v c q).2.1⟩)
    have Q := px_run_in (how := how) hP hX (rv_EN_en hP d) ih (fb f) e3.1 (f : Int) (f : Int) ((f, s.1 + 1) :: il) (rv_nw s f b a.2.2 il.length) c (Tn + 1) Vn w3 e3 e4 (show 100 ≤ d + (s.1 + 1) by omega) g2 g3 g4 g5 g7 (by rw [(g9 1).1]; exact h10) (by rw [List.length_cons]; omega) (by rw [List.length_cons]; omega)
    refine ⟨w3, g1, g8, fun j => (g9 j).2, ?_⟩
    rw [ef]
    show px_rQ sc how ins A w0 0 Tn Vn il s w3 (rv_ev fb ap d (fb f) ((f, s.1 + 1) :: il) (rv_nw s f b a.2.2 il.length))
    rw [rv_ev_eq]
    obtain ⟨k, w', k1, k2, k3, k4⟩ := Q
    generalize rv_bt ap (rv_en fb ap d) (fb f) ((f, s.1 + 1) :: il) (rv_nw s f b a.2.2 il.length) = ro at *
    obtain ⟨z, s'⟩ := ro
    change k ≤ 3 * pt_sz (fb f) + 302 * (s'.1 - (s.1 + 1)) at k1
    change s.1 + 1 ≤ s'.1 at k2
    have hsz := pt_sz_pos (fb f)
    cases z with
    | error e =>
      refine ⟨k, w', ?_, ?_, k3, k4⟩
      · show k ≤ 0 + 302 * (s'.1 - s.1)
        omega
      · show s.1 ≤ s'.1
        omega
    | ok v =>
      obtain ⟨p1, p2, p3, p4, p5, p6⟩ := k4
      dsimp only at p1 p6
      have l51 : w' 51 1 = ((il.length + 1 : Nat) : Int) := by rw [p1.2.2.2.1.1, List.length_map, List.length_reverse, List.length_cons]
      have l53 : w' 53 1 = ((il.length + 1 : Nat) : Int) := by rw [p1.2.2.2.2.1.1, List.length_map, List.length_reverse, List.length_cons]
      have lv := px_leave (sc := sc) (how := how) p1.2.1.2.1 p2 (by omega) (by rw [p4 Tn (by omega), g6]) l51 l53 (by omega)
      refine ⟨k + 1, _, ?_, ?_, px_go_tr k3 lv, ?_⟩
      · show k + 1 ≤ 0 + 302 * (s'.1 - s.1)
        omega
      · show s.1 ≤ s'.1
        omega
      · obtain ⟨q1, ⟨a5, a6, a7, a8, a9, a10, a4⟩, q2, q3, q4, q5⟩ := p1
        rw [List.reverse_cons, List.map_append] at q3 q4
        refine ⟨⟨fun i j q => ?_, ⟨?_, ?_, ?_, ?_, ?_, ?_, ?_⟩, ?_, px_RL_cut q3 ?_ (fun j => ?_), px_RL_cut q4 ?_ (fun j => ?_), fun i v a q => ?_⟩, ?_, ?_, fun j q => ?_, fun j q => ?_, ?_⟩
        all_goals first | (rw [fa_st_ne (by omega), fa_st_ne (by omega), fa_st_ne (by omega)]; assumption) | skip
        · rw [fa_st_ne (by omega), fa_st_ne (by omega), fa_st_ne (by omega)]; exact q1 i j q
        · rw [fa_st_ne (by omega), fa_st_eq, List.length_map, List.length_reverse]
        · rw [fa_st_ne (by omega), fa_st_ne (by omega), fa_st_ne (by omega)]
        · rw [fa_st_eq, List.length_map, List.length_reverse]
        · rw [fa_st_ne (by omega), fa_st_ne (by omega), fa_st_ne (by omega)]
        · rw [fa_st_ne (by omega), fa_st_ne (by omega), fa_st_ne (by omega)]; exact q5 i v a q
        · rw [fa_st_ne (by omega), fa_st_ne (by omega), fa_st_eq]
        · rw [fa_st_ne (by omega), fa_st_ne (by omega), fa_st_ne (by omega)]; exact p4 j (by omega)
        · rw [fa_st_ne (by omega), fa_st_ne (by omega), fa_st_ne (by omega)]; exact p5 j q
/-- how a run comes to its end: ending, result, STEPS, the most inside, entered, those inside -/
def rv_E (x : rv_O) : Nat × Int × Nat × Nat × Nat × List Nat := match x with
  | (.ok a, s) => (if a.2.1 = -1 then 0 else 1, if a.2.1 = -1 then a.1 else a.2.1, s.1, s.2.2.2.2.2, s.2.2.2.2.1, [])
  | (.error e, s) => (e.1, 0, s.1, s.2.2.2.2.2, s.2.2.2.2.1, e.2.map (fun p => p.1))
def rv_0 : rv_S := (0, fun _ _ => none, fun _ => -1, fun _ => -1, 0, 0)
def rv_PM (G nf nv ns : Nat) (fb : Nat → pt_T) (t : pt_T) (r : pv_R) (hb ho : Nat → Int) : Prop := rv_PF G nf nv ns fb r hb ho ∧ rv_SF G nf nv ns fb r hb ho t (-1) ∧ ∀ v, ¬ rv_fv t v
theorem rv_0_ST (G nf nv : Nat) (fb : Nat → pt_T) (r : pv_R) (hb ho : Nat → Int) : rv_ST G nf nv fb r hb ho rv_0 := ⟨⟨by decide, by decide, by decide⟩, fun i hi => by
  have : i = 0 := Nat.le_zero.mp hi
  subst this
  exact ⟨Int.le_refl _, by show (-1 : Int) < (nf : Int); omega, Int.le_refl _, by show (-1 : Int) < ((0 : Nat) : Int); omega⟩, fun i v a q => by cases q⟩
theorem rv_0_DF {G nf nv ns : Nat} {fb : Nat → pt_T} {t : pt_T} {r : pv_R} {hb ho : Nat → Int} (h : rv_PM G nf nv ns fb t r hb ho) : rv_DF G nf nv fb r hb ho t (-1) [] rv_0 := ⟨rv_0_ST G nf nv fb r hb ho, ⟨Nat.le_refl _, Nat.le_refl _, rfl⟩, fun v hv => (h.2.2 v hv).elim, fun v _ => rfl⟩
