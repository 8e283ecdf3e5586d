theorem px_gn_at {o : Nat} {w : fa_W} : ∀ (gs : ps_G) (g : Nat), px_gn o gs g w → ∀ (i x v : Nat) (t : pt_T), gs[i]? = some (x, v, t) → w (o + 18) (g + i) = (x : Int) ∧ w (o + 14) (g + i) = (v : Int) ∧ w (o + 16) (g + i) = -1 := by
  intro gs
  induction gs with
  | nil => intro g _ i x v t h; cases h
  | cons e r ih =>
    intro g H i x v t h
    obtain ⟨x0, v0, t0⟩ := e
    obtain ⟨h1, h2, h3, h4⟩ := H
    cases i with
    | zero =>
      have : (x0, v0, t0) = (x, v, t) := Option.some.inj h
      cases this
      exact ⟨h1, h2, h3⟩
    | succ i =>
      have := ih (g + 1) h4 i x v t h
      rw [show g + (i + 1) = g + 1 + i by omega]
      exact this
theorem px_item {o : Nat} {gs : ps_G} {t : pt_T} {la li si nd : Nat} {ins os : List Nat} {fb : Nat → pt_T} {sb : pf_sT} {tb : pf_TB} {w : fa_W} (hV : pn_V gs t la li si nd) (hG : pf_G gs t la li si fb sb) (hT : pf_XT o nd (gs.length + la) (24 + li) si fb sb t ins tb w) (u : pt_T) (tu : pt_tw u) {h : Int} {c : Nat} (hc : c + pt_sz u ≤ nd) (hN : pf_N tb u h c) : px_P o ins u h c w ∧ pf_W (gs.length + la) (24 + li) si u := by
  have pp := pt_sz_pos u
  have r := pf_N_root u tu h c hN
  obtain ⟨_, _, _, q1, q2, _⟩ := hT.1 (c + pt_sz u - 1) (by omega)
  rw [r] at q1 q2
  exact ⟨q1, q2⟩
theorem px_items {o : Nat} {gs : ps_G} {t : pt_T} {la li si nd : Nat} {ins os : List Nat} {fb : Nat → pt_T} {sb : pf_sT} {tb : pf_TB} {w : fa_W} (hV : pn_V gs t la li si nd) (hG : pf_G gs t la li si fb sb) (hT : pf_XT o nd (gs.length + la) (24 + li) si fb sb t ins tb w) {g : Nat} (hg : g ≤ gs.length) : ∃ c h, c + pt_sz (pn_tr gs t g) ≤ nd ∧ pt_tw (pn_tr gs t g) ∧ pf_N tb (pn_tr gs t g) h c ∧ px_P o ins (pn_tr gs t g) h c w ∧ pf_W (gs.length + la) (24 + li) si (pn_tr gs t g) := by
  obtain ⟨v1, v2, v3, v4, v5, v6, v7, k1, v8, v9⟩ := id hV
  have tw := pn_tr_tw v6 gs _ _ _ v8 g
  by_cases e : g < gs.length
  · obtain ⟨c, c1, c2, c3⟩ := hT.2.1 g (by omega)
    rw [hG.1 g e] at c1 c3
    have q := px_item (os := os) hV hG hT _ tw c1 c3
    exact ⟨c, _, c1, tw, c3, q.1, q.2⟩
  · have eg : g = gs.length := by omega
    obtain ⟨c, c1, c2, c3⟩ := hT.2.2
    have et : pn_tr gs t g = t := by rw [eg]; exact pn_tr_len gs t
    rw [← et] at c1 c3
    have q := px_item (os := os) hV hG hT _ tw c1 c3
    exact ⟨c, _, c1, tw, c3, q.1, q.2⟩
/-- the FIELDS of a FUNCTION by the class -/
theorem px_fields {o r : Nat} {gs : ps_G} {t : pt_T} {la li si nd f : Nat} {ins os : List Nat} {fb : Nat → pt_T} {sb : pf_sT} {tb : pf_TB} {w : fa_W} (hp : px_po o) (hr : fa_rf r 0 = r + 1) (hc : fa_cp r = 74) (hro : r + 1 < o) (hV : pn_V gs t la li si nd) (hG : pf_G gs t la li si fb sb) (hX : px_V o gs t la li si nd ins os w) (hT : pf_XT o nd (gs.length + la) (24 + li) si fb sb t ins tb w) (hf : f < gs.length + la) : ∃ w', fm_Program_listFields o (f : Int) r w = some w' ∧ (∀ i j, i ≠ r → i ≠ r + 1 → w' i j = w i j) ∧ px_RL r ((pd_fl f (fb f)).map (px_xi ins)) w' ∧ ∀ v ∈ pd_fl f (fb f), v < 24 + li := by
  obtain ⟨v1, v2, v3, v4, v5, v6, v7, k1, v8, v9⟩ := id hV
  have h24 : gs.length + la ≤ 24 := by omega
  have hz := px_V_pz hX v3
  obtain ⟨x1, x2, x3, x4, x5, x6, x7, x8, x9, x10⟩ := hX
  obtain ⟨c, c1, c2, c3⟩ := hT.2.1 f hf
  have pp := pt_sz_pos (fb f)
  have tf := hG.2.1 f
  obtain ⟨fP, fW⟩ := px_item (os := os) hV hG hT (fb f) tf c1 c3
  have hnv : 24 + li = 24 + ins.length := by rw [x10]
  have ho : ∀ v ∈ pd_oc (fb f), v < 24 + li ∧ (v ≠ f → ∃ bv : Int, -1 ≤ bv ∧ bv < 100 ∧ w (o + 16) (px_xi ins v) = bv ∧ ((bv < (c : Int) ∨ ((c + pt_sz (fb f) - 1 : Nat) : Int) < bv) ↔ pd_in f (fb f) v = false)) ∧ (v = f → pd_in f (fb f) v = true) := by
    obtain ⟨g, g1, g2, g3, g4⟩ := pd_where hV hG hf
    intro v hv
    obtain ⟨_, bd⟩ := g2 v hv
    have ff : v = f → pd_in f (fb f) v = true := fun e => decide_eq_true (Or.inl e)
    rcases bd with bd | ⟨bd, bl⟩
    · obtain ⟨c', h', i1, i2, i3, i4, i5⟩ := px_items (os := os) hV hG hT g1
      obtain ⟨y, hy⟩ := pd_bl_bn _ i2 v bd
      obtain ⟨b1, b2, i, b3, b4, b5, b6⟩ := pd_bi_at h24 (by omega) _ i2 _ _ i3 i4 i5 v y hy
      refine ⟨b1, fun ne => ⟨(i : Int), by omega, by omega, b5, ⟨fun q => ?_, fun q => ?_⟩⟩, ff⟩
      · refine decide_eq_false (fun k => ?_)
        rcases k with k | k
        · exact ne k
        · obtain ⟨y', hy'⟩ := pd_bl_bn _ tf v k
          obtain ⟨_, _, i', d3, d4, d5, _⟩ := pd_bi_at h24 (by omega) _ tf _ _ c3 fP fW v y' hy'
          rw [b5] at d5
          omega
      · have nk := of_decide_eq_false q
        by_cases l : i < c
        · exact Or.inl (by omega)
        · by_cases l2 : c + pt_sz (fb f) - 1 < i
          · exact Or.inr (by omega)
          · exact absurd (Or.inr (pd_rb_in (fb f) tf _ _ c3 i (by omega) (by omega) v b6)) nk
    · have e1 : px_xi ins v = v := by unfold px_xi; exact if_pos (by omega)
      have hge : ∃ a b d, gs[g]? = some (a, b, d) := ⟨gs[g].1, gs[g].2.1, gs[g].2.2, List.getElem?_eq_getElem bl⟩
      obtain ⟨a, b, d, hgs⟩ := hge
      have gn := (px_gn_at gs 0 x3 g a b d hgs).2.2
      rw [Nat.zero_add] at gn
      refine ⟨by omega, fun ne => ⟨-1, by omega, by omega, by rw [e1, bd]; exact gn, ⟨fun _ => ?_, fun _ => Or.inl (by omega)⟩⟩, ff⟩
      refine decide_eq_false (fun k => ?_)
      rcases k with k | k
      · exact ne k
      · obtain ⟨y', hy'⟩ := pd_bl_bn _ tf v k
        obtain ⟨_, _, i', d3, d4, d5, _⟩ := pd_bi_at h24 (by omega) _ tf _ _ c3 fP fW v y' hy'
        rw [e1, bd, gn] at d5
        omega
  obtain ⟨FU, hFU⟩ : ∃ F, F = fa_FU := ⟨_, rfl⟩
  have hF2 : 1000 < FU := by rw [hFU]; unfold fa_FU; omega
  have fr0 : ∀ i j, i ≠ r → i ≠ r + 1 → fm_Row_clear r w i j = w i j := fun i j p q => fa_st_ne (fun z => p z.1)
  have r9 := (px_po_r9 hp).1
  have s9 := (px_po_r9 hp).2.1
  have m9 := (px_po_r9 hp).2.2
  have r3 := (px_po_r3 hp).1
  have s3 := (px_po_r3 hp).2.1
  have m3 := (px_po_r3 hp).2.2
  obtain ⟨K, vv, ax, ay, az, N, hN0⟩ := px_root_kind (fb f) tf _ _ fP
  have nst := N.2.2.2.1
  clear hN0 N
  have hRL := px_RL_0 (r := r) (w := w)
  have hvo : px_vo o w (fm_Row_clear r w) := fun i j p q => fr0 i j (by omega) (by omega)
  have hT2 := pf_XT_ob hvo hT
  have hz2 := px_pz_ob hz hvo
  unfold fm_Program_listFields
  rw [← hFU, pf_let_eq]
  generalize fm_Row_clear r w = w2 at fr0 hRL hT2 hz2
  have a9 : fr_at (fa_rf o 9) (f : Int) w2 = ((c + pt_sz (fb f) - 1 : Nat) : Int) := by
    rw [r9, pb_at ((fr0 _ _ (by omega) (by omega)).trans x1.2.2.2.2.2.2.2.2.2) (by omega) (by rw [m9]; exact Nat.le_refl _), s9, show o + 19 + 1 = o + 20 by omega, fr0 _ _ (by omega) (by omega)]
    exact c2
  have a3 : fr_at (fa_rf o 3) ((c + pt_sz (fb f) - 1 : Nat) : Int) w2 = (c : Int) := by
    rw [r3, pb_at hz2.2.2.2.1 (by omega) (by rw [m3]; exact v3), s3, show o + 7 + 1 = o + 8 by omega, fr0 _ _ (by omega) (by omega)]
    exact nst
  have mx : fa_max (c : Int) 0 = (c : Int) := by
    unfold fa_max
    rw [pb_wr (by omega), if_neg (by rw [show fa_wr 0 = 0 from by decide]; omega)]
  rw [a9, pf_let_eq, pb_wr (by omega), if_neg (by omega), a3, pf_let_eq, mx, pf_let_eq]
  have eo := pd_oc_oi (fb f) tf _ _ c3
  obtain ⟨w', q1, q2, q3⟩ := px_lf_l (r := r) (f := f) (body := c + pt_sz (fb f) - 1) (start := c) (p := pd_in f (fb f)) (w0 := w2) hp hr hc hro h24 hf (by omega) hnv x9 x8 (by omega) (by omega) hT2 hz2 ((fr0 _ _ (by omega) (by omega)).trans x1.2.2.2.2.2.2.2.1) (pt_sz (fb f)) c FU [] w2 (by omega) (by omega) (fun _ _ _ _ => rfl) hRL List.nodup_nil (fun v hv => by cases hv) (fun v hv => by
    rw [← eo] at hv
    obtain ⟨q1, q2, q3⟩ := ho v hv
    refine ⟨q1, fun ne => ?_, q3⟩
    obtain ⟨bv, b1, b2, b3, b4⟩ := q2 ne
    exact ⟨bv, b1, b2, (fr0 _ _ (by omega) (by omega)).trans b3, b4⟩)
  refine ⟨w', q1, fun i j p q => (q2 i j p q).trans (fr0 i j p q), ?_, fun v hv => (ho v (pd_fl_oc hv)).1⟩
  rw [← eo] at q3
  exact q3
