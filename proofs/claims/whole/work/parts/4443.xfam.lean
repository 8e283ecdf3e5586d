theorem px_expr_R {c : Nat → Int} {n : Nat} {r1 r2 r3 r4 : ps_E → ps_S → ps_R} {m1 m2 m3 m4 : fa_W → Option (Int × fa_W)} {e : ps_E} {s : ps_S} {w : fa_W} (hS : px_S c n e s w) (h1 : ps_tk c n (ps_sk c n s.1) = 92 → r1 e s ≠ none → pb_ok (m1 w) (px_R c n e s w (r1 e s))) (h2 : ps_tk c n (ps_sk c n s.1) = 26982 → r2 e s ≠ none → pb_ok (m2 w) (px_R c n e s w (r2 e s))) (h3 : ps_tk c n (ps_sk c n s.1) = 7103860 → r3 e s ≠ none → pb_ok (m3 w) (px_R c n e s w (r3 e s))) (h4 : r4 e s ≠ none → pb_ok (m4 w) (px_R c n e s w (r4 e s))) (hne : ps_expr c n r1 r2 r3 r4 e s ≠ none) : pb_ok (fm_Reader_expression_b m1 m2 m3 m4 w) (px_R c n e s w (ps_expr c n r1 r2 r3 r4 e s)) := by
  have tt : fa_wr (w 7 4) = ((ps_tk c n (ps_sk c n s.1) : Nat) : Int) := by
    obtain ⟨gl, sc, ow, ne⟩ := e
    obtain ⟨p, th, la, ins, lt, si, nd⟩ := s
    rw [hS.2.1.2.1, pb_wr ps_tk_lt]
  unfold fm_Reader_expression_b
  unfold ps_expr at hne ⊢
  rw [tt]
  by_cases k1 : ps_tk c n (ps_sk c n s.1) = 92
  · rw [if_pos k1] at hne ⊢
    rw [if_pos (by omega)]
    exact pb_bdm (h1 k1 hne) (fun v w' q => pb_some q)
  rw [if_neg k1] at hne ⊢
  rw [if_neg (by omega)]
  by_cases k2 : ps_tk c n (ps_sk c n s.1) = 26982
  · rw [if_pos k2] at hne ⊢
    rw [if_pos (by omega)]
    exact pb_bdm (h2 k2 hne) (fun v w' q => pb_some q)
  rw [if_neg k2] at hne ⊢
  rw [if_neg (by omega)]
  by_cases k3 : ps_tk c n (ps_sk c n s.1) = 7103860
  · rw [if_pos k3] at hne ⊢
    rw [if_pos (by omega)]
    exact pb_bdm (h3 k3 hne) (fun v w' q => pb_some q)
  rw [if_neg k3] at hne ⊢
  rw [if_neg (by omega)]
  exact pb_bdm (h4 hne) (fun v w' q => pb_some q)
theorem ps_t8_wrong {c : Nat → Int} {n : Nat} {fr : Bool} (f : Nat) (e : ps_E) (s : ps_S) (h : ps_tk c n (ps_sk c n s.1) = 3) : ps_t c n fr f 8 e s = none ∨ ps_t c n fr f 8 e s = ps_er (ps_sk c n s.1) := by
  cases f with
  | zero => exact Or.inl rfl
  | succ f =>
    obtain ⟨gl, sc, ow, ne⟩ := e
    refine Or.inr ?_
    show ps_atom c n fr (ps_t c n fr f 0) (gl, sc, ow, ne) s = _
    unfold ps_atom
    dsimp only
    rw [h, if_neg (by decide), if_neg (by decide), if_neg (by decide), if_neg (by decide)]
theorem px_t_R {c : Nat → Int} {n : Nat} (hx : ps_TX c n) (hn : n ≤ 400) : ∀ (f d m : Nat) (e : ps_E) (s : ps_S) (w : fa_W), 2 * f + 8 ≤ d → (m = 1 → ps_tk c n (ps_sk c n s.1) = 92) → (m = 2 → ps_tk c n (ps_sk c n s.1) = 26982) → (m = 3 → ps_tk c n (ps_sk c n s.1) = 7103860) → ps_SI n e s → px_S c n e s w → ps_t c n false f m e s ≠ none → pb_ok (fm_Rparse_t d m w) (px_R c n e s w (ps_t c n false f m e s)) := by
  intro f
  induction f with
  | zero => intro d m e s w _ _ _ _ _ _ hne; exact absurd rfl hne
  | succ f ih =>
    intro d m e s w hd m1 m2 m3 hs hS hne
    obtain ⟨d, rfl⟩ : ∃ z, d = z + 9 := ⟨d - 9, by omega⟩
    have hd : 2 * f + 8 ≤ d + 7 := by omega
    have hd8 : 2 * f + 8 ≤ d + 8 := by omega
    have hp : ∀ m, m = 0 ∨ 3 < m → ps_RC n (ps_t c n false f m) := fun m hm e s t s' hs h => ps_t_po hx f m e s t s' (by omega) (by omega) (by omega) hs h
    have hr : ∀ m, m = 0 ∨ 3 < m → px_RC c n (ps_t c n false f m) (fm_Rparse_t (d + 8) m) := fun m hm e s w hs hS h => ih (d + 8) m e s w hd8 (by omega) (by omega) (by omega) hs hS h
    have hr7 : px_RC c n (ps_t c n false f 0) (fm_Rparse_t (d + 7) 0) := fun e s w hs hS h => ih (d + 7) 0 e s w hd (by omega) (by omega) (by omega) hs hS h
    have D0 : px_DF (fm_Rparse_t (d + 8) 0) := fun w z h => px_0_D h (d + 2)
    match m, m1, m2, m3, hne with
    | 0, _, _, _, hne =>
      exact px_expr_R (r1 := ps_t c n false f 1) (r2 := ps_t c n false f 2) (r3 := ps_t c n false f 3) (r4 := ps_t c n false f 4) (m1 := fun w => fm_Rparse_t (d + 8) 1 w) (m2 := fun w => fm_Rparse_t (d + 8) 2 w) (m3 := fun w => fm_Rparse_t (d + 8) 3 w) (m4 := fun w => fm_Rparse_t (d + 8) 4 w) hS (fun k h => ih (d + 8) 1 e s w hd8 (fun _ => k) (by omega) (by omega) hs hS h) (fun k h => ih (d + 8) 2 e s w hd8 (by omega) (fun _ => k) (by omega) hs hS h) (fun k h => ih (d + 8) 3 e s w hd8 (by omega) (by omega) (fun _ => k) hs hS h) (fun h => ih (d + 8) 4 e s w hd8 (by omega) (by omega) (by omega) hs hS h) hne
    | 1, m1, _, _, hne => exact px_lam_R hx hn (hp 0 (by omega)) (hr 0 (by omega)) D0 hs hS (m1 rfl) hne
    | 2, _, m2, _, hne => exact px_cho_R hx hn (hp 0 (by omega)) (hr 0 (by omega)) D0 hs hS (m2 rfl) hne
    | 3, _, _, m3, hne => exact px_let_R hx hn (hp 0 (by omega)) (hr 0 (by omega)) D0 hs hS (m3 rfl) hne
    | 4, _, _, _, hne => exact px_tst_R hx hn (hp 5 (by omega)) (hr 5 (by omega)) (fun w z h => px_5_D h (d + 4)) hs hS hne
    | 5, _, _, _, hne => exact px_sum_R hx hn (hp 6 (by omega)) (hr 6 (by omega)) (fun w z h => px_6_D h (d + 5)) hs hS hne
    | 6, _, _, _, hne => exact px_product_R hx hn (hp 7 (by omega)) (hr 7 (by omega)) (fun w z h => px_7_D h (d + 6)) hs hS hne
    | 7, _, _, _, hne => exact px_chain_R hx hn (hp 8 (by omega)) (hr 8 (by omega)) (fun w z h => px_8_D h (d + 7)) (fun e s h => ps_t8_wrong f e s h) hs hS hne
    | 8, _, _, _, hne => exact px_atom_R (rm := fm_Rparse_t (d + 7) 0) hx hn (hp 0 (by omega)) hr7 (fun w z h => px_0_D h (d + 1)) (fun w => rfl) hs hS hne
    | m + 9, _, _, _, hne => exact absurd rfl hne
