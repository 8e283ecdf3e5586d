theorem pm_expr_R {c : Nat → Int} {n : Nat} {fr : Bool} {r1 r2 r3 r4 : ps_E → ps_S → ps_R} {m1 m2 m3 m4 : fa_W → Option (Int × fa_W)} (hx : ps_TX c n) (hn : n ≤ 40000) {e : ps_E} {s : ps_S} {w : fa_W} (hs : ps_SI n e s) (hS : pm_S c n fr e s w) (h1 : ∀ w, ps_tk c n (ps_sk c n s.1) = 92 → w 181 26 = (ps_sk c n s.1 : Int) → pm_S c n fr e s w → r1 e s ≠ none → pb_ok (m1 w) (pm_R c n fr e s w (r1 e s))) (h2 : ∀ w, ps_tk c n (ps_sk c n s.1) = 26982 → w 181 26 = (ps_sk c n s.1 : Int) → pm_S c n fr e s w → r2 e s ≠ none → pb_ok (m2 w) (pm_R c n fr e s w (r2 e s))) (h3 : ∀ w, ps_tk c n (ps_sk c n s.1) = 7103860 → w 181 26 = (ps_sk c n s.1 : Int) → pm_S c n fr e s w → r3 e s ≠ none → pb_ok (m3 w) (pm_R c n fr e s w (r3 e s))) (h4 : ∀ w, pm_S c n fr e s w → r4 e s ≠ none → pb_ok (m4 w) (pm_R c n fr e s w (r4 e s))) (hne : ps_expr c n r1 r2 r3 r4 e s ≠ none) : pb_ok (fm_Mod_expression_b m1 m2 m3 m4 w) (pm_R c n fr e s w (ps_expr c n r1 r2 r3 r4 e s)) := by
  obtain ⟨gl, sc, ow, ne⟩ := e
  obtain ⟨p, th, la, ins, lt, si, nd⟩ := s
  obtain ⟨a1, a2, a3, a4, lb0⟩ := ps_SI_x hs
  have z := ps_sk_p hx p a1
  have ss := ps_sk_sk hx a1
  obtain ⟨pt, e26, l26, s26⟩ := hS.2.1
  unfold fm_Mod_expression_b
  rw [pm_hf hS.2.2.1, if_neg (by decide), pm_blanks hS.1 e26 l26, s26]
  dsimp only [Option.bind_some]
  have lx := pm_lx_bl w (ps_sk c n p)
  have S1 := pm_S_lx (p' := p) hS lx z.2.1 ss
  have f1 : pm_fr la ins.length si nd sc.length w (pm_bl w (ps_sk c n p)) := pm_fr_lx (pm_fr_refl _ _ _ _ _ _) lx
  have k26 := lx.1
  generalize pm_bl w (ps_sk c n p) = w1 at S1 f1 k26 ⊢
  -- what holds from a state that differs by the place alone holds from here
  have up : ∀ (w2 : fa_W) (R : ps_R) (x : Option (Int × fa_W)), pm_fr la ins.length si nd sc.length w w2 → pb_ok x (pm_R c n fr (gl, sc, ow, ne) (p, th, la, ins, lt, si, nd) w2 R) → pb_ok (fa_bd x fun v w' => some (v, w')) (pm_R c n fr (gl, sc, ow, ne) (p, th, la, ins, lt, si, nd) w R) := by
    intro w2 R x hf hq
    refine pb_bdm hq (fun v w3 g => pb_some ?_)
    cases R with
    | none => exact g
    | some R =>
      cases R with
      | error q => exact ⟨g.1, g.2.1, pm_fo_tr hf.1 g.2.2.1, g.2.2.2⟩
      | ok y =>
        obtain ⟨t, S'⟩ := y
        exact ⟨g.1, g.2.1, g.2.2.1, pm_fr_k hf g.2.2.2 (pk_ge_refl _) (Nat.le_refl _)⟩
  rw [pm_isAt S1.1 k26 z.2.1 (by omega) (by omega) (by omega)]
  dsimp only [Option.bind_some]
  have sg := ps_tk_sign (c := c) (n := n) (s := ps_sk c n p) (k := 92) (by decide)
  dsimp only [ps_expr] at hne ⊢
  by_cases k1 : ps_tk c n (ps_sk c n p) = 92
  · rw [if_pos k1] at hne ⊢
    have cs := sg.mp k1
    rw [if_pos (decide_eq_true (by omega))]
    exact up _ _ _ f1 (h1 w1 k1 k26 S1 hne)
  rw [if_neg k1] at hne ⊢
  rw [if_neg (fun d => k1 (sg.mpr (by have := of_decide_eq_true d; omega))), pm_word S1.1 k26 z.2.1, ss, pb_bds]
  have lx2 : pm_lx w1 (fa_st (pm_bl w1 (ps_sk c n p)) 181 34 ((ps_we c n (ps_sk c n p) - ps_sk c n p : Nat) : Int)) (ps_sk c n p) := by
    refine ⟨by rw [fa_st_ne (by decide), pm_bl_26], fun o k r => ?_⟩
    rw [fa_st_ne (by omega), pm_bl_ne _ _ (by omega)]
  have S2 := pm_S_lx (p' := p) S1 lx2 z.2.1 ss
  have f2 := pm_fr_lx f1 lx2
  have k26' := lx2.1
  generalize fa_st (pm_bl w1 (ps_sk c n p)) 181 34 ((ps_we c n (ps_sk c n p) - ps_sk c n p : Nat) : Int) = w2 at S2 f2 k26' ⊢
  have hI := pm_WK (s := ps_sk c n p) (K := 26982) hx z.2.1 hn rfl
  rw [show pm_cv 26982 = 249 from rfl] at hI
  have hL := pm_WK (s := ps_sk c n p) (K := 7103860) hx z.2.1 hn rfl
  rw [show pm_cv 7103860 = 8903 from rfl] at hL
  have hb : pm_W c n (ps_sk c n p) ≤ 1088576 := by
    rcases pm_Wk hx z.2.1 hn with ⟨h1, h2, _⟩ | ⟨h1, h2, h3, h4⟩ | ⟨h1, h2, h3, h4, h5⟩
    · omega
    · omega
    · have := pm_cv_lt h2; omega
  rw [pb_wr (by omega)]
  by_cases k2 : ps_tk c n (ps_sk c n p) = 26982
  · rw [if_pos k2] at hne ⊢
    rw [if_pos (by have := hI.mpr k2; omega)]
    exact up _ _ _ f2 (h2 w2 k2 k26' S2 hne)
  rw [if_neg k2] at hne ⊢
  rw [if_neg (fun q => k2 (hI.mp (by omega)))]
  by_cases k3 : ps_tk c n (ps_sk c n p) = 7103860
  · rw [if_pos k3] at hne ⊢
    rw [if_pos (by have := hL.mpr k3; omega)]
    exact up _ _ _ f2 (h3 w2 k3 k26' S2 hne)
  rw [if_neg k3] at hne ⊢
  rw [if_neg (fun q => k3 (hL.mp (by omega)))]
  exact up _ _ _ f2 (h4 w2 S2 hne)
theorem pm_t_f : ∀ (d : Nat) (w : fa_W) (z : Nat), w 181 28 = (z : Int) → z ≤ 40000 → fm_Mparse_t (d + 1) 0 w = some (-1, w) := by
  intro d w z h hz
  show fm_Mod_expression_b _ _ _ _ w = _
  unfold fm_Mod_expression_b
  rw [pm_hft h hz, if_pos rfl]
theorem pm_loop_R {c : Nat → Int} {n : Nat} {fr : Bool} {rs : ps_E → ps_S → ps_R} {rm : fa_W → Option (Int × fa_W)} (hn : n ≤ 40000) (hp : ps_RC n rs) (hr : pm_RC c n fr rs rm) {e : ps_E} {s : ps_S} {w : fa_W} (hs : ps_SI n e s) (hS : pm_S c n fr e s w) (ls : pt_T → ps_S → ps_R) (lm : Int → fa_W → Option (Int × fa_W)) (hF : ∀ v w z, w 181 28 = ((z : Nat) : Int) → z ≤ 40000 → lm v w = some (v, w)) (hl : ∀ a S1 v1 w1, ps_PO n e s a S1 → pm_R c n fr e s w (ps_re a S1) (v1, w1) → ls a S1 ≠ none → pb_ok (lm v1 w1) (pm_R c n fr e s w (ls a S1))) (hne : ps_bd (rs e s) ls ≠ none) : pb_ok (fa_bd (rm w) lm) (pm_R c n fr e s w (ps_bd (rs e s) ls)) := by
  have n1 : rs e s ≠ none := by
    intro r
    rw [r] at hne
    exact hne rfl
  refine pb_bdm (hr _ _ _ hs hS n1) (fun v1 w1 g => ?_)
  cases hq : rs e s with
  | none => exact absurd hq n1
  | some r =>
  rw [hq] at g hne
  cases r with
  | error z =>
    have g21 : w1 181 28 = (z : Int) := g.2.1
    rw [hF v1 w1 z g21 (Nat.le_trans g.1 hn)]
    exact pb_some g
  | ok y =>
    obtain ⟨a, S1⟩ := y
    exact hl a S1 v1 w1 (hp _ _ _ _ hs hq) g hne
theorem pm_t_R {c : Nat → Int} {n : Nat} {fr : Bool} (hx : ps_TX c n) (hn : n ≤ 40000) : ∀ (f d m : Nat) (e : ps_E) (s : ps_S) (w : fa_W), f < d → (m = 1 → ps_tk c n (ps_sk c n s.1) = 92 ∧ w 181 26 = (ps_sk c n s.1 : Int)) → (m = 2 → ps_tk c n (ps_sk c n s.1) = 26982 ∧ w 181 26 = (ps_sk c n s.1 : Int)) → (m = 3 → ps_tk c n (ps_sk c n s.1) = 7103860 ∧ w 181 26 = (ps_sk c n s.1 : Int)) → ps_SI n e s → pm_S c n fr e s w → ps_t c n fr f m e s ≠ none → pb_ok (fm_Mparse_t d m w) (pm_R c n fr e s w (ps_t c n fr f m e s)) := by
  intro f
  induction f with
  | zero => intro d m e s w _ _ _ _ _ _ hne; exact absurd rfl hne
  | succ f ih =>
    intro d m e s w hd m1 m2 m3 hs hS hne
    obtain ⟨d, rfl⟩ : ∃ z, d = z + 1 := ⟨d - 1, by omega⟩
    have hd : f < d := by omega
    have hp : ∀ m, m = 0 ∨ 3 < m → ps_RC n (ps_t c n fr f m) := fun m hm e s t s' hs h => ps_t_po hx f m e s t s' (by omega) (by omega) (by omega) hs h
    have hr : ∀ m, m = 0 ∨ 3 < m → pm_RC c n fr (ps_t c n fr f m) (fm_Mparse_t d m) := fun m hm e s w hs hS h => ih d m e s w hd (by omega) (by omega) (by omega) hs hS h
    have hF : ∀ (w : fa_W) (z : Nat), w 181 28 = (z : Int) → z ≤ 40000 → fm_Mparse_t d 0 w = some (-1, w) := by
      intro w z h hz
      obtain ⟨d', rfl⟩ : ∃ z, d = z + 1 := ⟨d - 1, by omega⟩
      exact pm_t_f d' w z h hz
    obtain ⟨FU, hFU, hF2⟩ : ∃ F, F = fa_FU ∧ 200 < F := ⟨_, rfl, by unfold fa_FU; omega⟩
    match m, m1, m2, m3, hne with
    | 0, _, _, _, hne =>
      exact pm_expr_R (r1 := ps_t c n fr f 1) (r2 := ps_t c n fr f 2) (r3 := ps_t c n fr f 3) (r4 := ps_t c n fr f 4) (m1 := fun w => fm_Mparse_t d 1 w) (m2 := fun w => fm_Mparse_t d 2 w) (m3 := fun w => fm_Mparse_t d 3 w) (m4 := fun w => fm_Mparse_t d 4 w) hx hn hs hS (fun w k a b h => ih d 1 e s w hd (fun _ => ⟨k, a⟩) (by omega) (by omega) hs b h) (fun w k a b h => ih d 2 e s w hd (by omega) (fun _ => ⟨k, a⟩) (by omega) hs b h) (fun w k a b h => ih d 3 e s w hd (by omega) (by omega) (fun _ => ⟨k, a⟩) hs b h) (fun w b h => ih d 4 e s w hd (by omega) (by omega) (by omega) hs b h) hne
    | 1, m1, _, _, hne => exact pm_lam_R hx hn (hp 0 (by omega)) (hr 0 (by omega)) hs hS (m1 rfl).2 (m1 rfl).1 hne
    | 2, _, m2, _, hne => exact pm_cho_R hx hn (hp 0 (by omega)) (hr 0 (by omega)) hF hs hS (m2 rfl).2 (m2 rfl).1 hne
    | 3, _, _, m3, hne => exact pm_let_R hx hn (hp 0 (by omega)) (hr 0 (by omega)) hF hs hS (m3 rfl).2 (m3 rfl).1 hne
    | 4, _, _, _, hne => exact pm_tst_R hx hn (hp 5 (by omega)) (hr 5 (by omega)) hs hS hne
    | 5, _, _, _, hne =>
      show pb_ok (fm_Mod_sum_b (fun w9 => fm_Mparse_t d 6 w9) w) _
      unfold fm_Mod_sum_b
      rw [← hFU]
      obtain ⟨F, rfl⟩ : ∃ z, FU = z + 1 := ⟨FU - 1, by omega⟩
      refine pm_loop_R hn (hp 6 (by omega)) (hr 6 (by omega)) hs hS (fun a s1 => ps_lp c n 43 45 (ps_t c n fr f 6) e 200 a s1) _ (fun v w z h hz => ?_) (fun a S1 v1 w1 o g h => pm_sum_l hx hn (hp 6 (by omega)) (hr 6 (by omega)) hs 200 (F + 1) a S1 v1 w1 (by omega) o g h) hne
      unfold fm_Mod_sum_l5
      rw [pm_hft h hz, if_pos rfl]
    | 6, _, _, _, hne =>
      show pb_ok (fm_Mod_product_b (fun w9 => fm_Mparse_t d 7 w9) w) _
      unfold fm_Mod_product_b
      rw [← hFU]
      obtain ⟨F, rfl⟩ : ∃ z, FU = z + 1 := ⟨FU - 1, by omega⟩
      refine pm_loop_R hn (hp 7 (by omega)) (hr 7 (by omega)) hs hS (fun a s1 => ps_lp c n 42 47 (ps_t c n fr f 7) e 200 a s1) _ (fun v w z h hz => ?_) (fun a S1 v1 w1 o g h => pm_product_l hx hn (hp 7 (by omega)) (hr 7 (by omega)) hs 200 (F + 1) a S1 v1 w1 (by omega) o g h) hne
      unfold fm_Mod_product_l5
      rw [pm_hft h hz, if_pos rfl]
    | 7, _, _, _, hne =>
      show pb_ok (fm_Mod_call_b (fun w9 => fm_Mparse_t d 8 w9) w) _
      unfold fm_Mod_call_b
      rw [← hFU]
      obtain ⟨F, rfl⟩ : ∃ z, FU = z + 1 := ⟨FU - 1, by omega⟩
      refine pm_loop_R hn (hp 8 (by omega)) (hr 8 (by omega)) hs hS (fun a s1 => ps_ch c n (ps_t c n fr f 8) e 200 a s1) _ (fun v w z h hz => ?_) (fun a S1 v1 w1 o g h => pm_call_l hx hn (hp 8 (by omega)) (hr 8 (by omega)) hs 200 (F + 1) a S1 v1 w1 (by omega) o g h) hne
      unfold fm_Mod_call_l5
      rw [pm_hft h hz, if_pos rfl]
    | 8, _, _, _, hne => exact pm_atom_R hx hn (hp 0 (by omega)) (hr 0 (by omega)) hs hS hne
    | m + 9, _, _, _, hne => exact absurd rfl hne
