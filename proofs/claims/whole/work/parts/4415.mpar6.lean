theorem pm_call_l {c : Nat → Int} {n : Nat} {fr : Bool} {rs : ps_E → ps_S → ps_R} {rm : fa_W → Option (Int × fa_W)} (hx : ps_TX c n) (hn : n ≤ 40000) (hp : ps_RC n rs) (hr : pm_RC c n fr rs rm) {e : ps_E} {s : ps_S} {w : fa_W} (hs : ps_SI n e s) : ∀ (f F : Nat) (a : pt_T) (S1 : ps_S) (v1 : Int) (w1 : fa_W), f < F → ps_PO n e s a S1 → pm_R c n fr e s w (ps_re a S1) (v1, w1) → ps_ch c n rs e f a S1 ≠ none → pb_ok (fm_Mod_call_l5 rm F v1 w1) (pm_R c n fr e s w (ps_ch c n rs e f a S1)) := by
  intro f
  induction f with
  | zero => intro F a S1 v1 w1 _ _ _ hne; exact absurd rfl hne
  | succ f ih =>
  intro F a S1 v1 w1 hF o1 g hne
  obtain ⟨F, rfl⟩ : ∃ z, F = z + 1 := ⟨F - 1, by omega⟩
  have hF : f < F := by omega
  have i1 := ps_PO_SI hs o1
  obtain ⟨gl, sc, ow, ne⟩ := e
  obtain ⟨p, th, la, ins, lt, si, nd⟩ := s
  obtain ⟨p1, th1, la1, ins1, lt1, si1, nd1⟩ := S1
  unfold ps_ch at hne ⊢
  unfold fm_Mod_call_l5
  have g0 := g
  obtain ⟨y1, y2, y3, y4⟩ := g
  dsimp only at y1 y2 y3 y4
  obtain ⟨pt1, e26, l26, s26⟩ := y2.2.1
  rw [pm_hf y2.2.2.1, if_neg (by decide)]
  have z := ps_sk_p hx p1 i1.1
  have ss := ps_sk_sk hx i1.1
  refine pb_bdm (pm_atomAhead y2.1 e26 l26) (fun b8 w8 q => ?_)
  dsimp only at q
  obtain ⟨q1, lx⟩ := q
  rw [s26] at q1 lx
  have S2 := pm_S_lx (p' := p1) y2 lx z.2.1 ss
  have f2 : pm_fr la1 ins1.length si1 nd1 sc.length w1 w8 := pm_fr_lx (pm_fr_refl _ _ _ _ _ _) lx
  by_cases k1 : ps_sa c n (ps_sk c n p1) = true
  · rw [if_pos k1] at hne ⊢
    rw [if_pos (by rw [q1]; exact k1)]
    rw [lx.1, pm_begins S2.2.2.1 S2.2.2.2.2.1 (ps_SI_x i1).2.1]
    by_cases c2 : th1 = 100
    · rw [if_pos c2, if_pos c2]
      exact pb_some (pm_R_er z.2.1 (by dsimp only; exact fa_st_eq _ _ _ _) (pm_fo_s (pm_fo_tr y4.1 f2.1) rfl) (pm_po_s (pm_po_S S2) (Or.inr (by decide))))
    rw [if_neg c2] at hne
    rw [if_neg c2, if_neg c2]
    dsimp only [fa_l2]
    rw [if_pos rfl]
    have S3 := pm_S_th S2
    have f3 : pm_fr la1 ins1.length si1 nd1 sc.length w1 (fa_st w8 181 35 ((th1 + 1 : Nat) : Int)) := pm_fr_s f2 rfl
    generalize fa_st w8 181 35 ((th1 + 1 : Nat) : Int) = w3 at S3 f3 ⊢
    have si100 := (ps_SI_y i1).2.2.2.1
    have e20 : w3 181 20 = (si1 : Int) := S3.2.2.2.2.2.2.2.1
    have e30 : w3 181 30 = ow := S3.2.2.2.2.2.2.2.2.2.1
    have e30' : fa_st w3 181 20 ((si1 : Int) + 1) 181 30 = ow := by rw [fa_st_ne (by decide)]; exact e30
    dsimp only [fa_let]
    rw [e20, pb_ix (show si1 < 101 by omega) (by decide)]
    dsimp only [Option.bind_some]
    rw [e30', show ((si1 : Int) + 1) = ((si1 + 1 : Nat) : Int) from rfl]
    have f4 : pm_fr la1 ins1.length si1 nd1 sc.length w1 (fa_st (fa_st w3 181 20 ((si1 + 1 : Nat) : Int)) 195 si1 ow) := pm_fr_st (pm_fr_s f3 rfl) (Or.inr (Or.inr (Or.inl ⟨Or.inr rfl, Nat.le_refl _⟩)))
    have h195 : fa_st (fa_st w3 181 20 ((si1 + 1 : Nat) : Int)) 195 si1 ow 195 si1 = ow := fa_st_eq _ _ _ _
    have S4 : pm_S c n fr (gl, sc, ow, ne) (p1, th1 + 1, la1, ins1, lt1, si1 + 1, nd1) (fa_st (fa_st w3 181 20 ((si1 + 1 : Nat) : Int)) 195 si1 ow) := by
      obtain ⟨h1, h2, h3, h4, h5, h6, h7, h8, h9, h10, h11, h12, h13, h14, h15⟩ := id S3
      have nn : ∀ o k, ¬ (o = 181 ∧ k = 20) → o ≠ 195 → fa_st (fa_st w3 181 20 ((si1 + 1 : Nat) : Int)) 195 si1 ow o k = w3 o k := by
        intro o k r1 r2
        rw [fa_st_ne (by omega), fa_st_ne (by omega)]
      refine pm_S_up S3 (fun k => nn 196 k (by omega) (by decide)) (fun k => nn 190 k (by omega) (by decide)) (fun k _ => nn 198 k (by omega) (by decide)) (fun b _ => nn 192 _ (by omega) (by decide)) (nn 181 _ (by decide) (by decide)) (nn 181 _ (by decide) (by decide)) (nn 181 _ (by decide) (by decide)) (nn 181 _ (by decide) (by decide)) ?_ ?_ ?_ ?_ ?_ ?_ ?_ ?_ ?_
      · rw [nn 181 _ (by decide) (by decide)]; exact h2
      · rw [nn 181 _ (by decide) (by decide)]; exact h3
      · rw [nn 181 _ (by decide) (by decide)]; exact h4
      · rw [nn 181 _ (by decide) (by decide)]; exact h5
      · rw [nn 181 _ (by decide) (by decide)]; exact h6
      · rw [nn 181 _ (by decide) (by decide)]; exact h7
      · rw [fa_st_ne (by omega), fa_st_eq]
      · rw [nn 181 _ (by decide) (by decide)]; exact h9
      · rw [nn 181 _ (by decide) (by decide)]; exact h10
    generalize fa_st (fa_st w3 181 20 ((si1 + 1 : Nat) : Int)) 195 si1 ow = w4 at S4 f4 h195 ⊢
    have i2 : ps_SI n (gl, sc, ow, ne) (p1, th1 + 1, la1, ins1, lt1, si1 + 1, nd1) := ps_SI_op (d := 1) i1 (q := p1) (Nat.le_refl _) i1.1 c2 (by decide)
    have n2 : rs (gl, sc, ow, ne) (p1, th1 + 1, la1, ins1, lt1, si1 + 1, nd1) ≠ none := by
      intro r
      rw [r] at hne
      exact hne rfl
    refine pb_bdm (hr _ _ _ i2 S4 n2) (fun v2 w5 g => ?_)
    cases hq2 : rs (gl, sc, ow, ne) (p1, th1 + 1, la1, ins1, lt1, si1 + 1, nd1) with
    | none => exact absurd hq2 n2
    | some r =>
    rw [hq2] at g hne
    cases r with
    | error z2 =>
      have g21 : w5 181 28 = (z2 : Int) := g.2.1
      have zl := Nat.le_trans g.1 hn
      rw [pm_node_f g21 zl, pb_bds]
      obtain ⟨F', rfl⟩ : ∃ z, F = z + 1 := ⟨F - 1, by omega⟩
      unfold fm_Mod_call_l5
      have g22 : fa_st w5 194 si1 (-1) 181 28 = (z2 : Int) := by rw [fa_st_ne (by omega)]; exact g21
      rw [pm_hft g22 zl, if_pos rfl]
      exact pb_some (pm_R_er g.1 g22 (pm_fo_st (pm_fo_tr (pm_fo_tr y4.1 f4.1) g.2.2.1) (Or.inr (Or.inr (Or.inl ⟨by decide, by decide⟩)))) (pm_po_s g.2.2.2 (Or.inl (by decide))))
    | ok y =>
      obtain ⟨b, S5⟩ := y
      have o2 := hp _ _ _ _ i2 hq2
      obtain ⟨p2, th2, la2, ins2, lt2, si2, nd2⟩ := S5
      have fin := pm_site_R hs o1 g0 f4 h195 i2 o2 g
      rw [fin.1, pb_bds]
      have op := ps_PO_site o1 (Nat.le_refl _) o2
      exact ih F _ _ _ _ hF op fin.2 hne
  · rw [if_neg k1, if_neg (by rw [q1]; exact k1)]
    refine pb_some ⟨y1, S2, ?_, pm_fr_lx y4 lx⟩
    obtain ⟨b1, b2, b3, b4, b5, b6⟩ := ps_PO_x o1
    exact pm_H_fr b2 b4 b3 (ps_SI_x hs).2.2.2.2 f2 y3
/-- a name among those that are seen -/
theorem pm_seen {rm : fa_W → Option (Int × fa_W)} {w : fa_W} {x : Nat} {at' : Int} (hxn : pk_nm x) : ∀ (sc : List (Nat × Nat)) (F : Nat), pm_sc sc w → (∀ b ∈ sc, b.1 < 124 ∧ pk_nm b.2) → sc.length < 124 → sc.length < F → fm_Mod_atom_l179 rm F ((pm_cv x : Nat) : Int) at' ((sc.length : Int) - 1) w = match ps_lk sc x with
    | some v => fa_bd (fm_Mod_node 1 (v : Int) (-1) (-1) 0 w) fun v46 w47 => some (v46, w47)
    | none => fm_Mod_atom_l221 rm fa_FU ((pm_cv x : Nat) : Int) at' 0 w := by
  intro sc
  induction sc with
  | nil =>
    intro F _ _ _ hF
    obtain ⟨F, rfl⟩ : ∃ z, F = z + 1 := ⟨F - 1, by omega⟩
    show fm_Mod_atom_l179 rm (F + 1) _ at' (-1) w = _
    unfold fm_Mod_atom_l179
    rw [pb_wr1, if_pos (by decide)]
    rfl
  | cons b r ih =>
    intro F hsc hb hl hF
    obtain ⟨F, rfl⟩ : ∃ z, F = z + 1 := ⟨F - 1, by omega⟩
    rw [List.length_cons] at hl hF
    have e : (((b :: r).length : Nat) : Int) - 1 = (r.length : Int) := by rw [List.length_cons]; omega
    have lb := (hb b List.mem_cons_self).1
    have nb := (hb b List.mem_cons_self).2
    rw [e]
    unfold fm_Mod_atom_l179
    rw [pb_wr (by omega), if_neg (by omega), pb_ix (show r.length < 124 by omega) (by decide)]
    dsimp only [Option.bind_some]
    rw [hsc.1, pb_ix lb (by decide)]
    dsimp only [Option.bind_some]
    have l1 := pm_cv_lt hxn.1
    have l2 := pm_cv_lt nb.1
    rw [hsc.2.1, pb_wr (n := pm_cv b.2) (by omega), pb_wr (n := pm_cv x) (by omega)]
    unfold ps_lk
    by_cases h : b.2 = x
    · rw [if_pos h, if_pos (by rw [h])]
    · rw [if_neg h, if_neg (fun q => h (pm_cv_inj nb hxn (by omega)))]
      have i := ih F hsc.2.2 (fun b hb' => hb b (List.mem_cons_of_mem _ hb')) (by omega) (by omega)
      rw [show ((r.length : Int) - 1) = (r.length : Int) + (-1) from rfl] at i
      exact i
theorem pm_glos {rm : fa_W → Option (Int × fa_W)} {w : fa_W} {x : Nat} {at' : Int} (hxn : pk_nm x) {gl : List Nat} (hg : w 181 17 = (gl.length : Int)) (hl : gl.length ≤ 6) (hn : ∀ y ∈ gl, pk_nm y) (hw : ∀ k y, gl[k]? = some y → w 190 k = ((pm_cv y : Nat) : Int)) : ∀ (r : List Nat) (k F : Nat), gl.drop k = r → k + r.length = gl.length → r.length < F → fm_Mod_atom_l221 rm F ((pm_cv x : Nat) : Int) at' (k : Int) w = match ps_gx r x k with
    | some g => fa_bd (fm_Mod_node 2 (g : Int) (-1) (-1) 0 w) fun v38 w39 => some (v38, w39)
    | none => fa_l2 (fm_Mod_fails at' w) fun v32 w33 => some (v32, w33) := by
  intro r
  induction r with
  | nil =>
    intro k F hd hk hF
    obtain ⟨F, rfl⟩ : ∃ z, F = z + 1 := ⟨F - 1, by omega⟩
    rw [List.length_nil] at hk
    unfold fm_Mod_atom_l221
    rw [hg, pb_wr (by omega), pb_wr (by omega), if_pos (by omega)]
    rfl
  | cons y r ih =>
    intro k F hd hk hF
    obtain ⟨F, rfl⟩ : ∃ z, F = z + 1 := ⟨F - 1, by omega⟩
    rw [List.length_cons] at hk hF
    have gk : gl[k]? = some y := by
      have := congrArg (fun l => l[0]?) hd
      simpa using this
    have gd : gl.drop (k + 1) = r := by
      have := congrArg List.tail hd
      simpa using this
    have ny : pk_nm y := hn y (List.mem_of_getElem? gk)
    unfold fm_Mod_atom_l221
    rw [hg, pb_wr (by omega), pb_wr (by omega), if_neg (by omega), pb_ix (show k < 6 by omega) (by decide)]
    dsimp only [Option.bind_some]
    have l1 := pm_cv_lt hxn.1
    have l2 := pm_cv_lt ny.1
    rw [hw k y gk, pb_wr (n := pm_cv y) (by omega), pb_wr (n := pm_cv x) (by omega)]
    unfold ps_gx
    by_cases h : y = x
    · rw [if_pos h, if_pos (by rw [h])]
    · rw [if_neg h, if_neg (fun q => h (pm_cv_inj ny hxn (by omega)))]
      exact ih (k + 1) F gd (by omega) (by omega)
/-- a leaf is laid -/
theorem pm_leaf_R {c : Nat → Int} {n : Nat} {fr : Bool} {gl : List Nat} {sc : List (Nat × Nat)} {ow : Int} {ne p th la lt si nd q : Nat} {ins : List Nat} {t : pt_T} {w w1 : fa_W} {K a v : Int} (hnd : nd ≤ 100) (hS : pm_S c n fr (gl, sc, ow, ne) (q, th + 1, la, ins, lt, si, nd) w1) (f : pm_fr la ins.length si nd sc.length w w1) (hH : pm_H t ow nd (pm_nw w1 nd K a (-1) (-1) v)) : pb_ok (fa_bd (fm_Mod_node K a (-1) (-1) v w1) fun v1 w2 => some (v1, w2)) (pm_R c n fr (gl, sc, ow, ne) (p, th, la, ins, lt, si, nd) w (ps_re t (q, th + 1, la, ins, lt, si, nd + 1))) := by
  rw [pm_node hS.2.2.1 hS.2.2.2.1 hnd]
  exact pb_some ⟨rfl, pm_S_node hS _ _ _ _ _, hH, pm_nw_fr f (Nat.le_refl _) _ _ _ _ _⟩
