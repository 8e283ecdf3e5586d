theorem pm_run_N {how : Int} {G nf nv ns : Nat} {fb : Nat → pt_T} {r : pv_R} {hb ho : Nat → Int} {ap : Nat → Bool} {w0 : fa_W} (hP : rv_PF G nf nv ns fb r hb ho) (hX : pm_rP how nf nv fb hb ap w0) (hsz : ∀ f, f < nf → pt_sz (fb f) < 100) : ∀ d, pm_rN how G nf nv fb r hb ho w0 d (rv_en fb ap d) := by
  intro d
  induction d with
  | zero =>
    intro il s a b T X Vn c w h1 h2 h3
    exact (h2 (by have := h1.1.1; omega)).elim
  | succ d ih =>
    intro il s a b T X Vn c w h1 h2 h3 h4 h5 h6 h7 h8 h9 h10 h11 h12 h13
    have s100 := h1.1.1
    obtain ⟨f, hf, e1, e2, e3, e4, e5, e6, e7⟩ := rv_enter (il := il) hP h1 h2 h5 h6 h7
    have ef : a.2.1.toNat = f := by rw [e1]; rfl
    have hs99 := hsz f hf
    obtain ⟨cf, x1, x2, x3, x4⟩ := hX.2.1 f hf
    have hcz := (pm_cz_pos (fb f) e3.1).2
    have h124 := hX.2.2.2.1
    have h24 := hX.2.2.2.2.1
    have hup : ∀ v z, (rv_nw s f b a.2.2 il.length).2.1 (s.1 + 1) v = some z → v ≠ f → hb v ≠ (f : Int) := fun v z q qv => by
      change (if s.1 + 1 = s.1 + 1 then (if v = f then some b else if a.2.2 < 0 then none else s.2.1 a.2.2.toNat v) else _) = some z at q
      rw [if_pos rfl, if_neg qv] at q
      rcases h6 with ⟨_, y⟩ | ⟨g, g1, g2, g3, g4⟩
      · exact (pv_ar_int y).elim
      · have : g = f := by omega
        subst this
        rcases g4 with ⟨_, y⟩ | ⟨_, j, j1, j2, j3, j4, _⟩
        · rw [if_pos (by rw [y]; decide)] at q; cases q
        · rw [if_neg (by omega), show a.2.2.toNat = j by omega] at q
          have := (h1.2.2 j v z q).2.2.2.1
          omega
    clear e7
    obtain ⟨w3, g1, g2, g3, g4, g5, g6, g7⟩ := pm_enter (how := how) (nf := nf) (nv := nv) (V := Vn) (c := c) h8 h9 (by omega) (by omega) h5 h4 h1.1.2.1 h1.1.2.2 (by omega) e1 h12 h124 (fun i v z q => ⟨(h1.2.2 i v z q).1, (h1.2.2 i v z q).2.1⟩) hup x2 h13
    have Q := pm_run_in hP hX (rv_EN_en hP d) ih (fb f) e3.1 (f : Int) ((f, s.1 + 1) :: il) (rv_nw s f b a.2.2 il.length) cf Vn w3 e3 e4 (show 100 ≤ d + (s.1 + 1) by omega) x3 x1 g2 g3 (by rw [List.length_cons]; omega)
    refine ⟨w3, cf, g1, ?_⟩
    rw [ef]
    show ∃ k w', k ≤ 301 + 302 * ((rv_ev fb ap d (fb f) ((f, s.1 + 1) :: il) (rv_nw s f b a.2.2 il.length)).2.1 - (s.1 + 1)) ∧ s.1 + 1 ≤ (rv_ev fb ap d (fb f) ((f, s.1 + 1) :: il) (rv_nw s f b a.2.2 il.length)).2.1 ∧ match (rv_ev fb ap d (fb f) ((f, s.1 + 1) :: il) (rv_nw s f b a.2.2 il.length)).1 with
      | .ok v => pm_go how k (s.1 + 1) cf w3 (rv_j il) (c + 1) w' ∧ pm_rS hb w0 il (rv_ev fb ap d (fb f) ((f, s.1 + 1) :: il) (rv_nw s f b a.2.2 il.length)).2 w' ∧ w' 181 86 = ((Vn + 1 : Nat) : Int) ∧ (∀ j, j < Vn → w' 226 j = w 226 j ∧ w' 227 j = w 227 j ∧ w' 228 j = w 228 j) ∧ (w' 226 Vn = v.1 ∧ w' 227 Vn = v.2.1 ∧ w' 228 Vn = v.2.2) ∧ ∀ j, j < il.length → w' 234 j = w 234 j ∧ w' 235 j = w 235 j
      | .error e => ∃ n1 c1, pm_go how k (s.1 + 1) cf w3 n1 c1 w' ∧ pm_rF w0 e.1 e.2 (rv_ev fb ap d (fb f) ((f, s.1 + 1) :: il) (rv_nw s f b a.2.2 il.length)).2 w'
    rw [rv_ev_eq]
    obtain ⟨k, w', k1, k2, k4⟩ := Q
    generalize rv_bt ap (rv_en fb ap d) (fb f) ((f, s.1 + 1) :: il) (rv_nw s f b a.2.2 il.length) = ro at *
    obtain ⟨z, s'⟩ := ro
    change k ≤ pm_cz (fb f) + 302 * (s'.1 - (s.1 + 1)) at k1
    change s.1 + 1 ≤ s'.1 at k2
    cases z with
    | error e => exact ⟨k, w', by dsimp only; omega, k2, k4⟩
    | ok v =>
      obtain ⟨p1, p2, p3, p4, p5, p6⟩ := k4
      dsimp only at p2
      obtain ⟨o, ⟨a1, a2, a3, a4, a5, a6, a7⟩, o2, o3, o4⟩ := p2
      have lv := pm_leave (how := how) (q := il.length) (c := cf + pm_cz (fb f)) (c1 := c + 1) (n1 := rv_j il) (now := s.1 + 1) a6 x1 (by rw [o _ _ (by omega) (by omega)]; exact x4) (by rw [a2, List.length_cons]) (by omega) (by rw [(p6 il.length (by rw [List.length_cons]; omega)).1]; exact g6) (by rw [(p6 il.length (by rw [List.length_cons]; omega)).2]; exact g7)
      refine ⟨k + 1, _, by dsimp only; omega, k2, pm_go_tr p1 lv, ⟨fun i j p q => ?_, ⟨?_, fa_st_eq _ _ _ _, ?_, ?_, ?_, ?_, ?_⟩, fun i hi => ?_, fun i x q => ?_, fun k v a q q2 => ?_⟩, ?_, fun j q => ?_, ?_, fun j q => ?_⟩
      all_goals first | (rw [fa_st_ne (by omega)]; assumption) | skip
      · rw [fa_st_ne (by omega)]; exact o i j p q
      · rw [fa_st_ne (by omega), fa_st_ne (by omega)]; exact o2 i hi
      · rw [fa_st_ne (by omega)]
        refine o3 i x ?_
        rw [List.reverse_cons, List.map_append]
        have : i < (il.reverse.map (fun p => p.1)).length := by
          by_cases zz : i < (il.reverse.map (fun p => p.1)).length
          · exact zz
          · rw [List.getElem?_eq_none (by omega)] at q; cases q
        rw [List.getElem?_append_left this]
        exact q
      · rw [fa_st_ne (by omega), fa_st_ne (by omega), fa_st_ne (by omega)]; exact o4 k v a q q2
      · rw [fa_st_ne (by omega), fa_st_ne (by omega), fa_st_ne (by omega)]
        exact ⟨(p4 j q).1.trans (g4 j).1, (p4 j q).2.1.trans (g4 j).2.1, (p4 j q).2.2.trans (g4 j).2.2⟩
      · rw [fa_st_ne (by omega), fa_st_ne (by omega)]
        have := p6 j (by rw [List.length_cons]; omega)
        exact ⟨this.1.trans (g5 j q).1, this.2.trans (g5 j q).2⟩
/-- the answers of a run, by the reference -/
def pm_rR (e : Nat × Int × Nat × Nat × Nat × List Nat) (w : fa_W) : Prop := w 181 92 = (e.1 : Int) ∧ w 181 93 = e.2.1 ∧ w 181 89 = (e.2.2.1 : Int) ∧ w 181 90 = (e.2.2.2.1 : Int) ∧ w 181 91 = (e.2.2.2.2.1 : Int) ∧ w 181 88 = (e.2.2.2.2.2.length : Int) ∧ ∀ (i x : Nat), e.2.2.2.2.2.reverse[i]? = some x → w 236 i = (x : Int)
theorem pm_runs {how : Int} {G nf nv ns : Nat} {fb : Nat → pt_T} {t : pt_T} {r : pv_R} {hb ho : Nat → Int} {ap : Nat → Bool} {w : fa_W} (hX : pm_rP how nf nv fb hb ap w) (hsz : ∀ f, f < nf → pt_sz (fb f) < 100) (hszt : pt_sz t ≤ 100) (tf : ∀ f, pt_tw (fb f)) (hM : rv_PM G nf nv ns fb t r hb ho) (hfn : w 181 17 + w 181 18 = (nf : Int)) {c : Nat} (hc : c + pm_cz t < 500) (h223 : w 223 nf = (c : Int)) (hH : pm_cd t c w) (h11 : w 221 (c + pm_cz t) = 11) : ∃ w', fm_Mod_runs how w = some w' ∧ (∀ i j, ¬ (226 ≤ i ∧ i ≤ 236) → ¬ (i = 181 ∧ 86 ≤ j ∧ j ≤ 93) → w' i j = w i j) ∧ pm_rR (rv_E (rv_ev fb ap 100 t [] rv_0)) w' := by
  have h24 := hX.2.2.2.2.1
  have hcz := (pm_cz_pos t hM.2.1.1).2
  obtain ⟨w1, hw1⟩ : ∃ w1, w1 = fa_st (fa_st (fa_st (fa_st (fa_st (fa_st (fa_st (fa_st w 181 86 0) 181 87 0) 181 88 0) 181 89 0) 181 90 0) 181 91 0) 181 92 (-1)) 181 93 0 := ⟨_, rfl⟩
  have w1o : ∀ i j, ¬ (i = 181 ∧ 86 ≤ j ∧ j ≤ 93) → w1 i j = w i j := fun i j q => by
    rw [hw1, fa_st_ne (by omega), fa_st_ne (by omega), fa_st_ne (by omega), fa_st_ne (by omega), fa_st_ne (by omega), fa_st_ne (by omega), fa_st_ne (by omega), fa_st_ne (by omega)]
  have w1n : w1 181 86 = 0 ∧ w1 181 87 = 0 ∧ w1 181 88 = 0 ∧ w1 181 89 = 0 ∧ w1 181 90 = 0 ∧ w1 181 91 = 0 ∧ w1 181 92 = -1 ∧ w1 181 93 = 0 := by
    rw [hw1]
    unfold fa_st
    exact ⟨rfl, rfl, rfl, rfl, rfl, rfl, rfl, rfl⟩
  obtain ⟨b86, b87, b88, b89, b90, b91, b92, b93⟩ := w1n
  obtain ⟨w2, f1, f2, f3, f4, f5⟩ := pm_frame (n := 0) (w := w1) (by rw [b87]; rfl) (by omega) (-1) (-1)
  have w2o : ∀ i j, ¬ (232 ≤ i ∧ i ≤ 233) → ¬ (i = 181 ∧ 86 ≤ j ∧ j ≤ 93) → w2 i j = w i j := fun i j p q => (f5 i j (by omega) (by omega)).trans (w1o i j q)
  have eR : fm_Mod_runs how w = fm_Mod_runs_l57 how fa_FU ((0 : Nat) : Int) (c : Int) w2 := by
    unfold fm_Mod_runs
    rw [pf_let_eq, pf_let_eq, pf_let_eq, pf_let_eq, pf_let_eq, pf_let_eq, pf_let_eq, pf_let_eq, ← hw1, f1, pf_bd_eq]
    unfold fm_Mod_functions
    rw [w2o 181 17 (by omega) (by omega), w2o 181 18 (by omega) (by omega), hfn, pb_ix (show nf < 25 by omega) (by omega), Option.bind_some, w2o 223 nf (by omega) (by omega), h223, pf_let_eq]
  have S0 : pm_rS hb w [] rv_0 w2 := by
    refine ⟨fun i j p q => w2o i j (by omega) q, ⟨f4, ?_, ?_, ?_, ?_, ?_, ?_⟩, fun i hi => ?_, (fun i x q => by cases q), (fun k v a q => by cases q)⟩
    · rw [f5 _ _ (by omega) (by omega)]; exact b88
    · rw [f5 _ _ (by omega) (by omega)]; exact b89
    · rw [f5 _ _ (by omega) (by omega)]; exact b90
    · rw [f5 _ _ (by omega) (by omega)]; exact b91
    · rw [f5 _ _ (by omega) (by omega)]; exact b92
    · rw [f5 _ _ (by omega) (by omega)]; exact b93
    · have : i = 0 := Nat.le_zero.mp hi
      subst this
      exact ⟨f2, f3⟩
  have Q := pm_run_in (d := 100) hM.1 hX (rv_EN_en (ap := ap) hM.1 100) (pm_run_N hM.1 hX hsz 100) t hM.2.1.1 (-1) [] rv_0 c 0 w2 hM.2.1 (rv_0_DF hM) (Nat.le_refl _) hH hc S0 (by rw [f5 _ _ (by omega) (by omega)]; exact b86) (by rw [List.length_nil]; omega)
  rw [← rv_ev_eq] at Q
  obtain ⟨k, w', k1, k2, k4⟩ := Q
  have RS := rv_ok (ap := ap) hM.1 100 t hM.2.1.1 (-1) [] rv_0 hM.2.1 (rv_0_DF hM)
  have RE := rv_err (fb := fb) (ap := ap) tf 100 t hM.2.1.1 [] rv_0
  have RL := rv_le (fb := fb) (ap := ap) tf 100 t hM.2.1.1 [] rv_0 (by decide)
  generalize rv_ev fb ap 100 t [] rv_0 = ro at *
  obtain ⟨z, s'⟩ := ro
  change k ≤ pm_cz t + 302 * (s'.1 - 0) at k1
  change s'.1 ≤ 100 at RL
  obtain ⟨FU, hFU⟩ : ∃ F, fa_FU = F + 1 + 1 + k := ⟨fa_FU - 2 - k, by unfold fa_FU; omega⟩
  rw [eR, hFU]
  have stop : ∀ (F : Nat) (x y : Int) (w3 : fa_W), fa_wr (w3 181 92) ≠ -1 → fm_Mod_runs_l57 how (F + 1) x y w3 = some w3 := fun F x y w3 h => by
    conv => lhs; unfold fm_Mod_runs_l57
    rw [if_neg h]
  cases z with
  | error e =>
    obtain ⟨n1, c1, g1, q1, ⟨q2, q3, q4, q5, q6, q7⟩, q8⟩ := k4
    have ee := RE e s' rfl
    refine ⟨w', ?_, q1, q6, q7, q3, q4, q5, ?_, fun i x q => ?_⟩
    · have := g1 (FU + 1 + 1)
      exact this.trans (stop _ _ _ _ (by rw [q6, pb_wr (by omega)]; omega))
    · show w' 181 88 = ((e.2.map (fun p => p.1)).length : Int)
      rw [List.length_map]
      exact q2
    · refine q8 i x ?_
      rw [List.map_reverse]
      exact q
  | ok a =>
    obtain ⟨g1, q1, q2, q3, q4, q5⟩ := k4
    obtain ⟨o, ⟨d7, d8, d9, d10, d11, d12, d13⟩, _⟩ := q1
    have R := RS a s' rfl
    have e86 : w' 181 86 - 1 = ((0 : Nat) : Int) := by rw [q2]; rfl
    have e1 := g1 (FU + 1 + 1)
    have d8' : w' 181 88 = 0 := d8
    have atag : a.2.1 = -1 ∨ ∃ f : Nat, f < nf ∧ a.2.1 = (f : Int) := by
      rcases R.2.2.1 with h | ⟨f, h1, h2, _⟩
      · exact Or.inl h.1
      · exact Or.inr ⟨f, h1, h2⟩
    have e2 : fm_Mod_runs_l57 how (FU + 1 + 1) ((0 : Nat) : Int) ((c + pm_cz t : Nat) : Int) w' = some (fa_st (fa_st w' 181 92 (if a.2.1 = -1 then 0 else 1)) 181 93 (if a.2.1 = -1 then a.1 else a.2.1)) := by
      conv => lhs; unfold fm_Mod_runs_l57
      rw [d12, if_pos (by decide), pb_ix (show c + pm_cz t < 500 by omega) (by omega), Option.bind_some, pf_let_eq, Option.bind_some, o 221 _ (by omega) (by omega), h11, pf_let_eq, pf_let_eq, if_neg (by decide), if_neg (by decide), if_neg (by decide), if_neg (by decide), if_neg (by decide), if_neg (by decide), if_neg (by decide), if_neg (by decide), if_neg (by decide), if_neg (by decide), d8', if_pos (by decide), e86, pb_ix (show 0 < 55000 by omega) (by omega), Option.bind_some, q4.2.1]
      have tl : ∀ (s0 : Bool) (F : Nat) (x y : Int), fm_Mod_runs_j516 how (fun x2 x3 w9 => fm_Mod_runs_l57 how (F + 1) x2 x3 w9) x y s0 w' = some (fa_st (fa_st w' 181 92 (fa_bi s0)) 181 93 (if s0 = false then a.1 else a.2.1)) := fun s0 F x y => by
        unfold fm_Mod_runs_j516
        rw [pf_let_eq, fa_st_eq, fa_st_ne (show ¬ ((181 : Nat) = 181 ∧ 86 = 92) by omega), e86, pb_ix (show 0 < 55000 by omega) (by omega), Option.bind_some, Option.bind_some, fa_st_ne (show ¬ ((226 : Nat) = 181 ∧ (0 : Nat) = 92) by omega), fa_st_ne (show ¬ ((227 : Nat) = 181 ∧ (0 : Nat) = 92) by omega), q4.1, q4.2.1]
        cases s0 with
        | false =>
          rw [if_pos (by decide), if_pos rfl]
          unfold fm_Mod_runs_j552
          rw [pf_let_eq]
          exact stop _ _ _ _ (by rw [fa_st_ne (by omega), fa_st_eq]; decide)
        | true =>
          rw [if_neg (by decide), if_neg (by decide)]
          unfold fm_Mod_runs_j552
          rw [pf_let_eq]
          exact stop _ _ _ _ (by rw [fa_st_ne (by omega), fa_st_eq]; decide)
      rcases atag with h | ⟨f, h1, h2⟩
      · rw [if_pos h, if_pos h, if_pos (by rw [h]; decide)]
        exact tl false FU _ _
      · rw [if_neg (show ¬ a.2.1 = -1 by omega), if_neg (show ¬ a.2.1 = -1 by omega), if_neg (by rw [h2, pb_wr (by omega)]; omega)]
        exact tl true FU _ _
    refine ⟨_, e1.trans e2, fun i j p q => ?_, ?_, fa_st_eq _ _ _ _, ?_, ?_, ?_, ?_, (fun i x q => by cases q)⟩
    · rw [fa_st_ne (by omega), fa_st_ne (by omega)]; exact o i j p q
    · rw [fa_st_ne (by omega), fa_st_eq]
      show (if a.2.1 = -1 then (0 : Int) else 1) = ((if a.2.1 = -1 then 0 else 1 : Nat) : Int)
      by_cases h : a.2.1 = -1
      · rw [if_pos h, if_pos h]; rfl
      · rw [if_neg h, if_neg h]; rfl
    · rw [fa_st_ne (by omega), fa_st_ne (by omega)]; exact d9
    · rw [fa_st_ne (by omega), fa_st_ne (by omega)]; exact d10
    · rw [fa_st_ne (by omega), fa_st_ne (by omega)]; exact d11
    · rw [fa_st_ne (by omega), fa_st_ne (by omega)]; exact d8'
