/-! reading what was written: whole programs -/
def pr_raw (G : Nat) (gs : ps_G) : ps_G := gs.map (fun e => (e.1, e.2.1, pr_tr G e.2.2))
theorem pr_all {c : Nat → Int} {n G : Nat} (hx : ps_TX c n) (hG : G ≤ 6) {t : pt_T} (tt : pt_tw t) : ∀ (r gd : ps_G) (k k1 k2 : pk_K) (q th : Nat) (ins : List Nat) (lt f : Nat), pn_GW G r (gd.map (fun g => g.1)) k k1 → pn_can G t k1 k2 → pk_wfs t (gd.map (fun g => g.1) ++ r.map (fun g => g.1)) [] → k2.1 ≤ 18 → gd.length + r.length = G → pr_ws c q (pw_g pw_al pw_al r gd.length ++ pw_e pw_al t) → q + (pw_g pw_al pw_al r gd.length ++ pw_e pw_al t).length = n → th + k2.2.2.2 ≤ 100 + k.2.2.2 → ins.length = k.2.1 → r.length < f → ∃ (ins' : List Nat) (lt' : Nat), ins'.length = k2.2.1 ∧ ps_all c n true f gd (q, th, k.1, ins, lt, k.2.2.1, k.2.2.2) = some (.ok (gd ++ pr_raw G r, pr_tr G t, (n, th + (k2.2.2.2 - k.2.2.2), k2.1, ins', lt', k2.2.2.1, k2.2.2.2))) := by
  obtain ⟨x0, x1, x2, x3, x9, x10, x11, x12, x14, x15, x16, x17, x18, x19, x20⟩ := pw_txe
  obtain ⟨k0, k10, k16, k17, k18, k19, k20⟩ := pk_kws
  obtain ⟨q16, q17, q18, q19, q20, q0, q10, w16, w17, w18, w19, w20, w0, w10⟩ := pr_kwl
  intro r
  induction r with
  | nil =>
    intro gd k k1 k2 q th ins lt f hg hc hw h18 hl hs hq hth hi hf
    cases hg
    obtain ⟨f, rfl⟩ : ∃ m, f = m + 1 := ⟨f - 1, by omega⟩
    have e0 : pw_g pw_al pw_al [] gd.length = [] := rfl
    rw [e0, List.nil_append] at hs hq
    have cn : c n = -1 := hx.1 n (Nat.le_refl _)
    have msz := (pn_mono t tt _ _ hc).2.2.2
    obtain ⟨i1, i2⟩ := pr_t (n := n) hG t tt k k2 _ [] 894 q (-1) 0 hc hw h18 hs (by omega) (by rw [hq, cn]; decide) (by rw [hq, cn]; decide) (by omega)
    have skn : ps_sk c n n = n := pr_nb (by rw [cn]; decide)
    have tkn : ps_tk c n n = 0 := ps_tk_end hx (Nat.le_refl _)
    rw [hq] at i2
    have hm := pr_x i1 i2 (pr_st_of (s := 0) (by rw [skn]; exact tkn) (by decide))
    obtain ⟨ins', lt', r1, r2⟩ := hm q th ins lt i1.1 hi (by omega)
    refine ⟨ins', lt', r1, ?_⟩
    have r2' : ps_t c n true 899 0 (gd.map (fun g => g.1), [], -1, 0) (q, th, k.1, ins, lt, k.2.2.1, k.2.2.2) = ps_re (pr_tr G t) (n, th + pt_sz t, k2.1, ins', lt', k2.2.2.1, k2.2.2.2) := by
      have e1 : gd.map (fun g => g.1) ++ ([] : ps_G).map (fun g => g.1) = gd.map (fun g => g.1) := by rw [List.map_nil, List.append_nil]
      rw [e1] at r2
      exact r2
    unfold ps_all
    rw [i1.1, if_neg (by have := i1.2.2; omega), r2']
    show (if ps_tk c n (ps_sk c n n) = 0 then (some (Except.ok (gd, pr_tr G t, (n, th + pt_sz t, k2.1, ins', lt', k2.2.2.1, k2.2.2.2))) : ps_Q) else some (Except.error (ps_sk c n n))) = _
    rw [skn, if_pos tkn, show th + pt_sz t = th + (k2.2.2.2 - k.2.2.2) by omega]
    show _ = some (Except.ok (gd ++ [], _, _))
    rw [List.append_nil]
  | cons e r ih =>
    intro gd k k1 k2 q th ins lt f hg hc hw h18 hl hs hq hth hi hf
    obtain ⟨x, v, u⟩ := e
    obtain ⟨nx, nxn, nv, tu, wu, ku, cu, hg2⟩ := hg
    obtain ⟨f, rfl⟩ : ∃ m, f = m + 1 := ⟨f - 1, by omega⟩
    rw [List.length_cons] at hl hf
    have msz := (pn_mono t tt _ _ hc).2.2.2
    have mu := (pn_mono u tu _ _ cu).2.2.2
    have mg := pn_GWge _ _ _ _ hg2
    have mg2 := (pn_sz_G (t := t) _ _ _ _ hg2).1
    have mt := pn_mono t tt _ _ hc
    have mu1 := pn_mono u tu _ _ cu
    have psu := pt_sz_pos u
    have ee : pw_g pw_al pw_al ((x, v, u) :: r) gd.length ++ pw_e pw_al t = pw_nm 6714734 ++ ([32] ++ (pw_nm x ++ ([32] ++ (pw_nm v ++ ([61] ++ (pw_e pw_al u ++ ([59] ++ (pw_g pw_al pw_al r (gd.length + 1) ++ pw_e pw_al t)))))))) := by
      show (pw_tx 0 ++ (pw_nm x ++ (pw_tx 1 ++ (pw_nm v ++ (pw_tx 2 ++ (pw_e pw_al u ++ pw_tx 3)))))) ++ pw_g pw_al pw_al r (gd.length + 1) ++ pw_e pw_al t = _
      rw [x0, x1, x2, x3]
      simp only [List.append_assoc]
    rw [ee] at hs hq
    obtain ⟨s1, hs⟩ := pr_ws_app hs
    obtain ⟨s2, hs⟩ := pr_ws_app hs
    obtain ⟨s3, hs⟩ := pr_ws_app hs
    obtain ⟨s4, hs⟩ := pr_ws_app hs
    obtain ⟨s5, hs⟩ := pr_ws_app hs
    obtain ⟨s6, hs⟩ := pr_ws_app hs
    obtain ⟨s7, hs⟩ := pr_ws_app hs
    obtain ⟨s8, hs⟩ := pr_ws_app hs
    simp only [List.length_singleton, q0] at s2 s3 s4 s5 s6 s7 s8 hs
    have hqq : q + 3 + 1 + (pw_nm x).length + 1 + (pw_nm v).length + 1 + (pw_e pw_al u).length + 1 + (pw_g pw_al pw_al r (gd.length + 1) ++ pw_e pw_al t).length = n := by
      rw [← hq]
      simp only [List.length_append, List.length_singleton, q0]
      omega
    have c2 := (pr_ws_1 s2).1
    have c4 := (pr_ws_1 s4).1
    have c6 := (pr_ws_1 s6).1
    have c8 := (pr_ws_1 s8).1
    obtain ⟨a1, a2, _, a4⟩ := pr_word (n := n) k0 (by omega) s1 (by rw [q0]; omega) (by rw [q0, c2]; decide)
    rw [if_pos w0] at a2
    rw [q0] at a4
    obtain ⟨b1, b2, b3, b4⟩ := pr_word (n := n) nx.1 nx.2.1 s3 (by omega) (by rw [c4]; decide)
    rw [if_neg (by rw [nx.2.2]; decide)] at b2
    obtain ⟨d1, d2, d3, d4⟩ := pr_word (n := n) nv.1 nv.2.1 s5 (by omega) (by rw [c6]; decide)
    rw [if_neg (by rw [nv.2.2]; decide)] at d2
    obtain ⟨u1, u2, u3⟩ := pr_sg (n := n) (s := 61) (by unfold pr_sig; omega) c6
    obtain ⟨v1, v2, v3⟩ := pr_sg (n := n) (s := 59) (by unfold pr_sig; omega) c8
    have sk1 : ps_sk c n (q + 3) = q + 3 + 1 := by rw [pr_bl (by omega) c2]; exact b1
    have sk2 : ps_sk c n (q + 3 + 1 + (pw_nm x).length) = q + 3 + 1 + (pw_nm x).length + 1 := by rw [pr_bl (by omega) c4]; exact d1
    obtain ⟨i1, i2⟩ := pr_t (n := n) hG u tu k ku _ [((gd.map (fun g => g.1)).length, v)] 894 (q + 3 + 1 + (pw_nm x).length + 1 + (pw_nm v).length + 1) (gd.length : Int) 0 cu wu (by omega) s7 (by omega) (by rw [c8]; decide) (by rw [c8]; decide) (by omega)
    have hm := pr_x i1 i2 (pr_st_of (s := 59) (by rw [v1]; exact v2) (by decide))
    obtain ⟨ins1, lt1, r1, r2⟩ := hm (q + 3 + 1 + (pw_nm x).length + 1 + (pw_nm v).length + 1) th ins lt i1.1 hi (by omega)
    have eru : pr_ru G (gd.map (fun g => g.1)).length = gd.length := by
      rw [List.length_map]; unfold pr_ru; rw [if_pos (by omega)]
    have r2' : ps_t c n true 899 0 (gd.map (fun g => g.1) ++ [x], [(gd.length, v)], (gd.length : Int), 0) (q + 3 + 1 + (pw_nm x).length + 1 + (pw_nm v).length + 1, th, k.1, ins, lt, k.2.2.1, k.2.2.2) = ps_re (pr_tr G u) (q + 3 + 1 + (pw_nm x).length + 1 + (pw_nm v).length + 1 + (pw_e pw_al u).length, th + pt_sz u, ku.1, ins1, lt1, ku.2.2.1, ku.2.2.2) := by
      simp only [List.map_cons, List.map_nil] at r2
      rw [eru] at r2
      exact r2
    have em : (gd ++ [(x, v, pr_tr G u)]).map (fun g => g.1) = gd.map (fun g => g.1) ++ [x] := by rw [List.map_append]; rfl
    have eln : (gd ++ [(x, v, pr_tr G u)]).length = gd.length + 1 := by rw [List.length_append]; rfl
    obtain ⟨ins', lt', r3, r4⟩ := ih (gd ++ [(x, v, pr_tr G u)]) ku k1 k2 (q + 3 + 1 + (pw_nm x).length + 1 + (pw_nm v).length + 1 + (pw_e pw_al u).length + 1) (th + pt_sz u) ins1 lt1 f (by rw [em]; exact hg2) hc (by rw [em, List.append_assoc]; exact hw) h18 (by rw [eln]; omega) (by rw [eln]; exact hs) (by rw [eln]; exact hqq) (by omega) r1 (by omega)
    refine ⟨ins', lt', r3, ?_⟩
    unfold ps_all
    dsimp only
    rw [a1, if_pos a2, a4, sk1, if_neg (by omega), if_neg (by rintro (z | z); exact z b2; rw [b3] at z; exact nxn z), b3, b4]
    unfold ps_glo
    rw [sk2, if_neg (by rw [d2]; decide), d4, u1, if_neg (by rw [u2]; decide), u3, d3]
    dsimp only
    rw [r2']
    show (if ps_tk c n (ps_sk c n (q + 3 + 1 + (pw_nm x).length + 1 + (pw_nm v).length + 1 + (pw_e pw_al u).length)) = 59 then ps_all c n true f (gd ++ [(x, v, pr_tr G u)]) (ps_te c n (ps_sk c n (q + 3 + 1 + (pw_nm x).length + 1 + (pw_nm v).length + 1 + (pw_e pw_al u).length)), th + pt_sz u, ku.1, ins1, lt1, ku.2.2.1, ku.2.2.2) else _) = _
    rw [v1, if_pos v2, v3, r4, List.append_assoc, show th + pt_sz u + (k2.2.2.2 - ku.2.2.2) = th + (k2.2.2.2 - k.2.2.2) by omega]
    rfl
/-- numbers as they are told, again -/
theorem pr_rn {G : Nat} (hG : G ≤ 6) (t : pt_T) (tt : pt_tw t) : ∀ (k k' : pk_K) (gl : List Nat) (sc : List (Nat × Nat)), pn_can G t k k' → k'.1 ≤ 18 → pk_wfs t gl sc → (∀ b ∈ sc, b.1 < G + 18 ∨ 24 ≤ b.1) → pk_rn G (pr_tr G t) = t := by
  induction t, tt using pt_indh with
  | num v => intro k k' gl sc _ _ _ _; rfl
  | var v x =>
    intro k k' gl sc _ _ hw hs
    show pt_var (pk_rb G (pr_ru G v)) x = pt_var v x
    rw [pr_rb hG (hs (v, x) (ps_lk_mem sc x v hw.1))]
  | glo g x => intro k k' gl sc _ _ _ _; rfl
  | dead d => intro k k' gl sc _ _ _ _; rfl
  | lam f x b tb ih =>
    intro k k' gl sc cn h18 hw hs
    obtain ⟨ef, k1, cb, rfl⟩ := cn
    have m1 := (pn_mono b tb _ _ cb).1
    dsimp only at h18 m1
    show pt_lam (pk_rf G (pr_ru G f)) x (pk_rn G (pr_tr G b)) = pt_lam f x b
    rw [ih _ _ gl _ cb (by omega) hw.2 (fun b hb => by
      rcases List.mem_cons.mp hb with z | z
      · rw [z]; exact Or.inl (by show f < G + 18; omega)
      · exact hs b z)]
    have : pk_rf G (pr_ru G f) = f := by
      unfold pk_rf pr_ru
      rw [if_neg (show ¬ f < G by omega), if_pos (show f < 24 by omega), if_neg (by omega)]
      omega
    rw [this]
  | ife a b c ta tb tc iha ihb ihc =>
    intro k k' gl sc cn h18 hw hs
    obtain ⟨k1, k2, k3, c1, c2, c3, rfl⟩ := cn
    have m2 := (pn_mono b tb _ _ c2).1
    have m3 := (pn_mono c tc _ _ c3).1
    dsimp only at h18
    show pt_ife (pk_rn G (pr_tr G a)) (pk_rn G (pr_tr G b)) (pk_rn G (pr_tr G c)) = _
    rw [iha _ _ gl sc c1 (by omega) hw.1 hs, ihb _ _ gl sc c2 (by omega) hw.2.1 hs, ihc _ _ gl sc c3 (by omega) hw.2.2 hs]
  | lt v x a b ta tb iha ihb =>
    intro k k' gl sc cn h18 hw hs
    obtain ⟨k1, k2, c1, ev, c2, rfl⟩ := cn
    have m2 := (pn_mono b tb _ _ c2).1
    dsimp only at h18 m2
    show pt_let v x (pk_rn G (pr_tr G a)) (pk_rn G (pr_tr G b)) = _
    rw [iha _ _ gl sc c1 (by omega) hw.2.1 hs, ihb _ _ gl _ c2 (by omega) hw.2.2 (fun b hb => by
      rcases List.mem_cons.mp hb with z | z
      · rw [z]; exact Or.inr (by show 24 ≤ v; omega)
      · exact hs b z)]
  | op s a b ta tb iha ihb =>
    intro k k' gl sc cn h18 hw hs
    obtain ⟨k1, k2, c1, c2, rfl⟩ := cn
    have m2 := (pn_mono b tb _ _ c2).1
    dsimp only at h18
    show pt_op s (pk_rn G (pr_tr G a)) (pk_rn G (pr_tr G b)) = _
    rw [iha _ _ gl sc c1 (by omega) hw.2.1 hs, ihb _ _ gl sc c2 (by omega) hw.2.2 hs]
  | site s a b ta tb iha ihb =>
    intro k k' gl sc cn h18 hw hs
    obtain ⟨k1, k2, c1, _, c2, rfl⟩ := cn
    have m2 := (pn_mono b tb _ _ c2).1
    dsimp only at h18 m2
    show pt_site s (pk_rn G (pr_tr G a)) (pk_rn G (pr_tr G b)) = _
    rw [iha _ _ gl sc c1 (by omega) hw.1 hs, ihb _ _ gl sc c2 (by omega) hw.2 hs]
theorem pr_rnG {G : Nat} (hG : G ≤ 6) {t : pt_T} (tt : pt_tw t) : ∀ (gs : ps_G) (gl : List Nat) (k k1 : pk_K), pn_GW G gs gl k k1 → gl.length + gs.length ≤ G → k1.1 ≤ 18 → pk_rnG G (pr_raw G gs) = gs := by
  intro gs
  induction gs with
  | nil => intro gl k k1 _ _ _; rfl
  | cons e r ih =>
    intro gl k k1 h hl h18
    obtain ⟨x, v, u⟩ := e
    obtain ⟨nx, nxn, nv, tu, wu, ku, cu, hg2⟩ := h
    have mg := (pn_GWge _ _ _ _ hg2).1
    rw [List.length_cons] at hl
    show (x, v, pk_rn G (pr_tr G u)) :: pk_rnG G (pr_raw G r) = _
    rw [ih _ _ _ hg2 (by rw [List.length_append, List.length_singleton]; omega) h18, pr_rn hG u tu k ku _ _ cu (by omega) wu (fun b hb => by
      have := List.mem_singleton.mp hb
      rw [this]
      exact Or.inl (by show gl.length < G + 18; omega))]
/-- a program that is written is read as it is -/
theorem pr_read {c : Nat → Int} {n : Nat} {gs : ps_G} {t : pt_T} {la li si nd : Nat} (hx : ps_TX c n) (hV : pn_V gs t la li si nd) (hs : pr_ws c 0 (pw_pr pw_al pw_al gs t)) (hn : (pw_pr pw_al pw_al gs t).length = n) : ∃ (ins : List Nat) (lt : Nat), ins.length = li ∧ ps_all c n true 9 [] ps_S0 = some (.ok (pr_raw gs.length gs, pr_tr gs.length t, (n, nd, la, ins, lt, si, nd))) ∧ pk_rnG gs.length (pr_raw gs.length gs) = gs ∧ pk_rn gs.length (pr_tr gs.length t) = t ∧ (pr_raw gs.length gs).length = gs.length := by
  obtain ⟨v1, v2, v3, v4, v5, v6, v7, k1, v8, v9⟩ := hV
  obtain ⟨ins, lt, r1, r2⟩ := pr_all hx v1 v6 gs [] (0, 0, 0, 0) k1 (la, li, si, nd) 0 0 [] 0 9 v8 v9 (by rw [List.map_nil, List.nil_append]; exact v7) v2 (by rw [List.length_nil]; omega) hs (by rw [Nat.zero_add]; exact hn) (by dsimp only; omega) rfl (by omega)
  have m := (pn_mono t v6 _ _ v9).1
  dsimp only at m
  refine ⟨ins, lt, r1, ?_, pr_rnG v1 v6 gs [] _ _ v8 (by rw [List.length_nil]; omega) (by omega), pr_rn v1 t v6 k1 _ _ [] v9 v2 v7 (fun b hb => by cases hb), by unfold pr_raw; rw [List.length_map]⟩
  rw [List.nil_append] at r2
  have e : (0 : Nat) + ((la, li, si, nd) : pk_K).2.2.2 - ((0, 0, 0, 0) : pk_K).2.2.2 = nd := by dsimp only; omega
  dsimp only at r2
  rw [show 0 + (nd - 0) = nd by omega] at r2
  exact r2
