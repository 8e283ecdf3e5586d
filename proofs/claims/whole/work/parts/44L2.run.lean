/-! reading what was written: every EXPR -/
theorem pr_e_pos (t : pt_T) (tt : pt_tw t) (gl : List Nat) (sc : List (Nat × Nat)) (h : pk_wfs t gl sc) : 0 < (pw_e pw_al t).length := by
  obtain ⟨t0, t1, t2, t3, t9, t10, t11, t12, t14, t16, t17, t18, t19, t20⟩ := pw_txl
  induction t, tt using pt_indh with
  | num v => exact (pw_nu_len v).1
  | var v x => exact pr_nm_pos h.2.2.1
  | glo g x => exact pr_nm_pos h.2.2.2.1
  | dead d => show 0 < (pw_tx 10).length; omega
  | lam f x b tb ih => show 0 < (pw_tx 11 ++ _).length; rw [List.length_append]; omega
  | ife a b c ta tb tc iha ihb ihc => show 0 < (pw_tx 16 ++ _).length; rw [List.length_append]; omega
  | lt v x a b ta tb iha ihb => show 0 < (pw_tx 19 ++ _).length; rw [List.length_append]; omega
  | op s a b ta tb iha ihb => show 0 < (pw_tx 14 ++ _).length; rw [List.length_append]; omega
  | site s a b ta tb iha ihb => show 0 < (pw_tx 14 ++ _).length; rw [List.length_append]; omega
theorem pr_t8 (c : Nat → Int) (n : Nat) (fr : Bool) (f : Nat) (e : ps_E) (s : ps_S) : ps_t c n fr (f + 1) 8 e s = ps_atom c n fr (ps_t c n fr f 0) e s := rfl
theorem pr_t0 (c : Nat → Int) (n : Nat) (fr : Bool) (f : Nat) (e : ps_E) (s : ps_S) : ps_t c n fr (f + 1) 0 e s = ps_expr c n (ps_t c n fr f 1) (ps_t c n fr f 2) (ps_t c n fr f 3) (ps_t c n fr f 4) e s := rfl
theorem pr_t1 (c : Nat → Int) (n : Nat) (fr : Bool) (f : Nat) (e : ps_E) (s : ps_S) : ps_t c n fr (f + 1) 1 e s = ps_lam c n fr (ps_t c n fr f 0) e s := rfl
theorem pr_t2 (c : Nat → Int) (n : Nat) (fr : Bool) (f : Nat) (e : ps_E) (s : ps_S) : ps_t c n fr (f + 1) 2 e s = ps_cho c n fr (ps_t c n fr f 0) e s := rfl
theorem pr_t3 (c : Nat → Int) (n : Nat) (fr : Bool) (f : Nat) (e : ps_E) (s : ps_S) : ps_t c n fr (f + 1) 3 e s = ps_let c n fr (ps_t c n fr f 0) e s := rfl
theorem pr_t4 (c : Nat → Int) (n : Nat) (fr : Bool) (f : Nat) (e : ps_E) (s : ps_S) : ps_t c n fr (f + 1) 4 e s = ps_tst c n (ps_t c n fr f 5) e s := rfl
theorem pr_t5 (c : Nat → Int) (n : Nat) (fr : Bool) (f : Nat) (e : ps_E) (s : ps_S) : ps_t c n fr (f + 1) 5 e s = ps_bd (ps_t c n fr f 6 e s) fun a s1 => ps_lp c n 43 45 (ps_t c n fr f 6) e 200 a s1 := rfl
theorem pr_t6 (c : Nat → Int) (n : Nat) (fr : Bool) (f : Nat) (e : ps_E) (s : ps_S) : ps_t c n fr (f + 1) 6 e s = ps_bd (ps_t c n fr f 7 e s) fun a s1 => ps_lp c n 42 47 (ps_t c n fr f 7) e 200 a s1 := rfl
theorem pr_t7 (c : Nat → Int) (n : Nat) (fr : Bool) (f : Nat) (e : ps_E) (s : ps_S) : ps_t c n fr (f + 1) 7 e s = ps_bd (ps_t c n fr f 8 e s) fun a s1 => ps_ch c n (ps_t c n fr f 8) e 200 a s1 := rfl
theorem pr_at_sg {c : Nat → Int} {n q : Nat} (hq : q < n) (h : c q = ((40 : Nat) : Int)) : pr_at c n q := by
  obtain ⟨s1, s2, s3⟩ := pr_sg (n := n) (s := 40) (Or.inl rfl) h
  exact ⟨s1, hq, Or.inl s2⟩
/-- a keyword between blanks -/
theorem pr_kwd {c : Nat → Int} {n p v : Nat} {b : List Nat} (hv : pk_vw 4 v) (hn : v ≠ 0) (hk : ps_kw v = true) (hw : pr_ws c p ([32] ++ (pw_nm v ++ ([32] ++ b)))) (hp : p + 2 + (pw_nm v).length ≤ n) : ps_tk c n (ps_sk c n p) = v ∧ ps_te c n (ps_sk c n p) = p + 1 + (pw_nm v).length ∧ c (p + 1 + (pw_nm v).length) = ((32 : Nat) : Int) ∧ pr_ws c (p + 2 + (pw_nm v).length) b ∧ c p = ((32 : Nat) : Int) := by
  obtain ⟨a1, a2⟩ := pr_ws_app hw
  obtain ⟨b1, b2⟩ := pr_ws_app a2
  obtain ⟨d1, d2⟩ := pr_ws_app b2
  have e1 := (pr_ws_1 a1).1
  have e2 := (pr_ws_1 d1).1
  rw [List.length_singleton] at b1 e2 d2
  obtain ⟨w1, w2, _, w4⟩ := pr_word (n := n) hv hn b1 (by omega) (by rw [e2]; decide)
  rw [if_pos hk] at w2
  rw [pr_bl (by omega) e1, w1]
  refine ⟨w2, w4, e2, ?_, e1⟩
  rw [show p + 2 + (pw_nm v).length = p + 1 + (pw_nm v).length + 1 by omega]
  exact d2
theorem pr_kwl : (pw_nm 26982).length = 2 ∧ (pw_nm 1952998766).length = 4 ∧ (pw_nm 1701606245).length = 4 ∧ (pw_nm 7103860).length = 3 ∧ (pw_nm 26990).length = 2 ∧ (pw_nm 6714734).length = 3 ∧ (pw_nm 1684365668).length = 4 ∧ ps_kw 26982 = true ∧ ps_kw 1952998766 = true ∧ ps_kw 1701606245 = true ∧ ps_kw 7103860 = true ∧ ps_kw 26990 = true ∧ ps_kw 6714734 = true ∧ ps_kw 1684365668 = true := by decide +kernel
theorem pr_leaf {c : Nat → Int} {n G F q len : Nat} {e : ps_E} {t : pt_T} {k k' : pk_K} (hsz : pt_sz t = 1) (hk : k' = (k.1, k.2.1, k.2.2.1, k.2.2.2 + 1)) (hte : ps_te c n q = q + len) (h : ∀ s : ps_S, s.2.2.2.2.2.2 = k.2.2.2 → ps_sk c n s.1 = q → ps_t c n true F 8 e s = ps_leaf c n (pr_tr G t) s) : pr_rd c n G (ps_t c n true F 8 e) q t k k' (q + len) := fun p0 th ins lt h1 h2 h3 => by
  refine ⟨ins, lt, by rw [hk]; exact h2, ?_⟩
  rw [h _ rfl h1]
  show (if th = 100 then ps_er (ps_sk c n p0) else ps_re (pr_tr G t) (ps_te c n (ps_sk c n p0), th + 1, k.1, ins, lt, k.2.2.1, k.2.2.2 + 1)) = _
  rw [if_neg (by omega), h1, hte, hsz, hk]
theorem pr_lpop {c : Nat → Int} {n G o1 o2 s q1 q2 p1 p2 : Nat} {rc : ps_E → ps_S → ps_R} {e : ps_E} {a b : pt_T} {k ka kb : pk_K} (hA : pr_rd c n G (rc e) q1 a k ka p1) (hB : pr_rd c n G (rc e) q2 b ka kb p2) (hsk : ps_sk c n p1 = p1) (htk : ps_tk c n p1 = s) (ho : s = o1 ∨ s = o2) (hq2 : ps_sk c n (p1 + 1) = q2) (h1 : ps_tk c n (ps_sk c n p2) ≠ o1) (h2 : ps_tk c n (ps_sk c n p2) ≠ o2) : pr_rd c n G (fun s0 => ps_bd (rc e s0) fun a s1 => ps_lp c n o1 o2 rc e 200 a s1) q1 (pt_op s a b) k (kb.1, kb.2.1, kb.2.2.1, kb.2.2.2 + 1) p2 := fun p0 th ins lt g1 g2 g3 => by
  have e2 : pt_sz (pt_op s a b) = pt_sz a + pt_sz b + 1 := rfl
  have pb := pt_sz_pos b
  rw [e2] at g3 ⊢
  obtain ⟨i1, l1, r1, r2⟩ := hA p0 th ins lt g1 g2 (by omega)
  obtain ⟨i2, l2, r3, r4⟩ := hB (p1 + 1) (th + pt_sz a + 1) i1 l1 hq2 r1 (by omega)
  refine ⟨i2, l2, r3, ?_⟩
  dsimp only
  rw [r2, pr_bd]
  show (if ps_tk c n (ps_sk c n p1) = o1 ∨ ps_tk c n (ps_sk c n p1) = o2 then (if th + pt_sz a = 100 then ps_er (ps_sk c n p1) else ps_bd (ps_bd (rc e (ps_sk c n p1 + 1, th + pt_sz a + 1, ka.1, i1, l1, ka.2.2.1, ka.2.2.2)) fun b s2 => ps_nd (pt_op (ps_tk c n (ps_sk c n p1)) (pr_tr G a) b) s2) fun t s3 => ps_lp c n o1 o2 rc e 199 t s3) else _) = _
  rw [hsk, htk, if_pos ho, if_neg (by omega), r4, pr_bd]
  unfold ps_nd
  dsimp only
  rw [pr_bd, pr_lp (f := 198) h1 h2, show th + pt_sz a + 1 + pt_sz b = th + (pt_sz a + pt_sz b + 1) by omega]
  rfl
theorem pr_tst {c : Nat → Int} {n G q1 q2 p1 p2 : Nat} {rc : ps_E → ps_S → ps_R} {e : ps_E} {a b : pt_T} {k ka kb : pk_K} (hA : pr_rd c n G (rc e) q1 a k ka p1) (hB : pr_rd c n G (rc e) q2 b ka kb p2) (hsk : ps_sk c n p1 = p1) (htk : ps_tk c n p1 = 60) (hq2 : ps_sk c n (p1 + 1) = q2) : pr_rd c n G (ps_tst c n rc e) q1 (pt_op 60 a b) k (kb.1, kb.2.1, kb.2.2.1, kb.2.2.2 + 1) p2 := fun p0 th ins lt g1 g2 g3 => by
  have e2 : pt_sz (pt_op 60 a b) = pt_sz a + pt_sz b + 1 := rfl
  have pb := pt_sz_pos b
  rw [e2] at g3 ⊢
  obtain ⟨i1, l1, r1, r2⟩ := hA p0 th ins lt g1 g2 (by omega)
  obtain ⟨i2, l2, r3, r4⟩ := hB (p1 + 1) (th + pt_sz a + 1) i1 l1 hq2 r1 (by omega)
  refine ⟨i2, l2, r3, ?_⟩
  unfold ps_tst
  rw [r2, pr_bd]
  dsimp only
  rw [hsk, htk, if_pos rfl, if_neg (by omega), r4, pr_bd]
  unfold ps_nd
  dsimp only
  rw [show th + pt_sz a + 1 + pt_sz b = th + (pt_sz a + pt_sz b + 1) by omega]
  rfl
theorem pr_chs {c : Nat → Int} {n G q1 q2 p1 p2 : Nat} {rc : ps_E → ps_S → ps_R} {e : ps_E} {a b : pt_T} {k ka kb : pk_K} (hA : pr_rd c n G (rc e) q1 a k ka p1) (hB : pr_rd c n G (rc e) q2 b (ka.1, ka.2.1, ka.2.2.1 + 1, ka.2.2.2) kb p2) (hsa : ps_sa c n (ps_sk c n p1) = true) (hq2 : ps_sk c n p1 = q2) (h1 : ps_sa c n (ps_sk c n p2) = false) : pr_rd c n G (fun s0 => ps_bd (rc e s0) fun a s1 => ps_ch c n rc e 200 a s1) q1 (pt_site ka.2.2.1 a b) k (kb.1, kb.2.1, kb.2.2.1, kb.2.2.2 + 1) p2 := fun p0 th ins lt g1 g2 g3 => by
  have e2 : pt_sz (pt_site ka.2.2.1 a b) = pt_sz a + pt_sz b + 1 := rfl
  have pb := pt_sz_pos b
  rw [e2] at g3 ⊢
  obtain ⟨i1, l1, r1, r2⟩ := hA p0 th ins lt g1 g2 (by omega)
  obtain ⟨i2, l2, r3, r4⟩ := hB p1 (th + pt_sz a + 1) i1 l1 hq2 r1 (by omega)
  refine ⟨i2, l2, r3, ?_⟩
  dsimp only
  rw [r2, pr_bd]
  show (if ps_sa c n (ps_sk c n p1) = true then (if th + pt_sz a = 100 then ps_er (ps_sk c n p1) else ps_bd (ps_bd (rc e (p1, th + pt_sz a + 1, ka.1, i1, l1, ka.2.2.1 + 1, ka.2.2.2)) fun b s2 => ps_nd (pt_site ka.2.2.1 (pr_tr G a) b) s2) fun t s3 => ps_ch c n rc e 199 t s3) else _) = _
  rw [if_pos hsa, if_neg (by omega)]
  dsimp only at r4
  rw [r4, pr_bd]
  unfold ps_nd
  dsimp only
  rw [pr_bd]
  show (if ps_sa c n (ps_sk c n p2) = true then _ else _) = _
  rw [if_neg (by rw [h1]; decide), show th + pt_sz a + 1 + pt_sz b = th + (pt_sz a + pt_sz b + 1) by omega]
  rfl
theorem pr_t {c : Nat → Int} {n G : Nat} (hG : G ≤ 6) (t : pt_T) (tt : pt_tw t) : ∀ (k k' : pk_K) (gl : List Nat) (sc : List (Nat × Nat)) (F q : Nat) (ow : Int) (ne : Nat), pn_can G t k k' → pk_wfs t gl sc → k'.1 ≤ 18 → pr_ws c q (pw_e pw_al t) → q + (pw_e pw_al t).length ≤ n → ps_le (c (q + (pw_e pw_al t).length)) = false → ps_di (c (q + (pw_e pw_al t).length)) = false → 8 * pt_sz t ≤ F → pr_at c n q ∧ pr_rd c n G (ps_t c n true F 8 (gl, sc.map (fun b => (pr_ru G b.1, b.2)), ow, ne)) q t k k' (q + (pw_e pw_al t).length) := by
  obtain ⟨x0, x1, x2, x3, x9, x10, x11, x12, x14, x15, x16, x17, x18, x19, x20⟩ := pw_txe
  obtain ⟨k0, k10, k16, k17, k18, k19, k20⟩ := pk_kws
  obtain ⟨q16, q17, q18, q19, q20, q0, q10, w16, w17, w18, w19, w20, w0, w10⟩ := pr_kwl
  induction t, tt using pt_indh with
  | num v =>
    intro k k' gl sc F q ow ne cn hw h18 hs hq he1 he2 hF
    obtain ⟨a1, a2, a3, a4⟩ := pr_num hw hs hq he2
    have e2 : pt_sz (pt_num v) = 1 := rfl
    have hpos := pr_e_pos (pt_num v) trivial gl sc hw
    obtain ⟨F, rfl⟩ : ∃ m, F = m + 1 := ⟨F - 1, by omega⟩
    refine ⟨⟨a1, by omega, Or.inr (Or.inl a2)⟩, pr_leaf rfl cn a4 (fun s _ h1 => ?_)⟩
    rw [pr_t8]
    unfold ps_atom
    dsimp only
    rw [h1, a2, if_neg (by decide), if_pos rfl, a3]
    rfl
  | var v x =>
    intro k k' gl sc F q ow ne cn hw h18 hs hq he1 he2 hF
    obtain ⟨a1, a2, a3, a4⟩ := pr_word hw.2.1 hw.2.2.1 hs hq he1
    rw [if_neg (by rw [hw.2.2.2]; decide)] at a2
    have e2 : pt_sz (pt_var v x) = 1 := rfl
    have hpos := pr_e_pos (pt_var v x) trivial gl sc hw
    obtain ⟨F, rfl⟩ : ∃ m, F = m + 1 := ⟨F - 1, by omega⟩
    refine ⟨⟨a1, by omega, Or.inr (Or.inr (Or.inl a2))⟩, pr_leaf rfl cn a4 (fun s _ h1 => ?_)⟩
    rw [pr_t8]
    unfold ps_atom
    dsimp only
    rw [h1, a2, if_neg (by decide), if_neg (by decide), if_neg (by decide), if_pos rfl, a3]
    unfold ps_word
    rw [pr_lk, hw.1]
    rfl
  | glo g x =>
    intro k k' gl sc F q ow ne cn hw h18 hs hq he1 he2 hF
    obtain ⟨a1, a2, a3, a4⟩ := pr_word hw.2.2.1 hw.2.2.2.1 hs hq he1
    rw [if_neg (by rw [hw.2.2.2.2]; decide)] at a2
    have e2 : pt_sz (pt_glo g x) = 1 := rfl
    have hpos := pr_e_pos (pt_glo g x) trivial gl sc hw
    obtain ⟨F, rfl⟩ : ∃ m, F = m + 1 := ⟨F - 1, by omega⟩
    refine ⟨⟨a1, by omega, Or.inr (Or.inr (Or.inl a2))⟩, pr_leaf rfl cn a4 (fun s _ h1 => ?_)⟩
    rw [pr_t8]
    unfold ps_atom
    dsimp only
    rw [h1, a2, if_neg (by decide), if_neg (by decide), if_neg (by decide), if_pos rfl, a3]
    unfold ps_word
    rw [pr_lk, hw.1, hw.2.1]
    rfl
  | dead d =>
    intro k k' gl sc F q ow ne cn hw h18 hs hq he1 he2 hF
    have ee : pw_e pw_al (pt_dead d) = pw_nm 1684365668 := x10
    rw [ee] at hs hq he1 he2 ⊢
    obtain ⟨a1, a2, a3, a4⟩ := pr_word k10 (by omega) hs hq he1
    rw [if_pos w10] at a2
    have e2 : pt_sz (pt_dead d) = 1 := rfl
    obtain ⟨F, rfl⟩ : ∃ m, F = m + 1 := ⟨F - 1, by omega⟩
    obtain ⟨cd, cn⟩ := cn
    refine ⟨⟨a1, by omega, Or.inr (Or.inr (Or.inr a2))⟩, pr_leaf rfl cn a4 (fun s h2 h1 => ?_)⟩
    rw [pr_t8]
    unfold ps_atom
    dsimp only
    rw [h1, a2, if_neg (by decide), if_neg (by decide), if_pos rfl, h2, ← cd]
    rfl
  | lam f x b tb ih =>
    intro k k' gl sc F q ow ne cn hw h18 hs hq he1 he2 hF
    obtain ⟨ef, k1, cb, rfl⟩ := cn
    have ee : pw_e pw_al (pt_lam f x b) = [40] ++ ([92] ++ (pw_nm x ++ ([46] ++ (pw_e pw_al b ++ [41])))) := by
      show pw_tx 11 ++ (pw_nm x ++ (pw_tx 9 ++ (pw_e pw_al b ++ pw_tx 12))) = _
      rw [x11, x9, x12, List.append_assoc]
    have e2 : pt_sz (pt_lam f x b) = pt_sz b + 1 := rfl
    have hsb := pt_sz_pos b
    have m1 := (pn_mono b tb _ _ cb).1
    dsimp only at h18 m1
    have el : (pw_e pw_al (pt_lam f x b)).length = (pw_nm x).length + (pw_e pw_al b).length + 4 := by
      rw [ee]; simp only [List.length_append, List.length_singleton]; omega
    rw [el] at hq he1 he2 ⊢
    rw [ee] at hs
    obtain ⟨s1, hs⟩ := pr_ws_app hs
    obtain ⟨s2, hs⟩ := pr_ws_app hs
    obtain ⟨s3, hs⟩ := pr_ws_app hs
    obtain ⟨s4, hs⟩ := pr_ws_app hs
    obtain ⟨s5, hs⟩ := pr_ws_app hs
    simp only [List.length_singleton] at s2 s3 s4 s5 hs
    have c1 := (pr_ws_1 s1).1
    have c2 := (pr_ws_1 s2).1
    have c4 := (pr_ws_1 s4).1
    have c6 := (pr_ws_1 hs).1
    obtain ⟨F, rfl⟩ : ∃ m, F = m + 5 + 1 + 1 + 1 := ⟨F - 8, by omega⟩
    refine ⟨pr_at_sg (by omega) c1, ?_⟩
    have eru : 6 + k.1 = pr_ru G f := by unfold pr_ru; rw [if_neg (by omega), if_pos (by omega)]; omega
    obtain ⟨i1, i2⟩ := ih (k.1 + 1, k.2) k1 gl ((f, x) :: sc) F (q + 1 + 1 + (pw_nm x).length + 1) ((6 + k.1 : Nat) : Int) (ne + 1 + 1) cb hw.2 (by omega) s5 (by omega) (by rw [c6]; decide) (by rw [c6]; decide) (by omega)
    have hb := pr_x i1 i2 (pr_st_of (s := 41) (by obtain ⟨a, b, _⟩ := pr_sg (n := n) (s := 41) (Or.inr (Or.inl rfl)) c6; rw [a]; exact b) (by decide))
    rw [show q + ((pw_nm x).length + (pw_e pw_al b).length + 4) = q + 1 + 1 + (pw_nm x).length + 1 + (pw_e pw_al b).length + 1 by omega]
    refine pr_par c1 c6 (fun th ins lt h2 h3 => ?_)
    rw [e2] at h3
    obtain ⟨ins', lt', r1, r2⟩ := hb (q + 1 + 1 + (pw_nm x).length + 1) (th + 1) ins lt i1.1 h2 (by omega)
    refine ⟨ins', lt', r1, ?_⟩
    obtain ⟨t1, t2, t3⟩ := pr_sg (n := n) (s := 92) (by unfold pr_sig; omega) c2
    obtain ⟨u1, u2, u3⟩ := pr_sg (n := n) (s := 46) (by unfold pr_sig; omega) c4
    obtain ⟨v1, v2, v3, v4⟩ := pr_word (n := n) hw.1.1 hw.1.2.1 s3 (by omega) (by rw [c4]; decide)
    rw [if_neg (by rw [hw.1.2.2]; decide)] at v2
    rw [pr_t0]
    unfold ps_expr
    dsimp only
    rw [t1, if_pos t2, pr_t1]
    unfold ps_lam ps_nm ps_ex
    dsimp only
    rw [t1, if_neg (by rintro (z | z | ⟨_, z⟩); omega; omega; cases z), v1, if_pos v2, v3, v4, u1, if_pos u2, u3, eru]
    rw [eru] at r2
    simp only [List.map_cons] at r2
    rw [r2, pr_bd]
    unfold ps_nd
    dsimp only
    rw [e2, show th + 1 + pt_sz b = th + (pt_sz b + 1) by omega]
    rfl
  | ife a b d ta tb td iha ihb ihd =>
    intro k k' gl sc F q ow ne cn hw h18 hs hq he1 he2 hF
    obtain ⟨ka, kb, kd, ca, cb, cd, rfl⟩ := cn
    have ee : pw_e pw_al (pt_ife a b d) = [40] ++ (pw_nm 26982 ++ ([32] ++ (pw_e pw_al a ++ ([32] ++ (pw_nm 1952998766 ++ ([32] ++ (pw_e pw_al b ++ ([32] ++ (pw_nm 1701606245 ++ ([32] ++ (pw_e pw_al d ++ [41]))))))))))) := by
      show pw_tx 16 ++ (pw_e pw_al a ++ (pw_tx 17 ++ (pw_e pw_al b ++ (pw_tx 18 ++ (pw_e pw_al d ++ pw_tx 12))))) = _
      rw [x16, x17, x18, x12]
      simp only [List.append_assoc]
    have e2 : pt_sz (pt_ife a b d) = pt_sz a + pt_sz b + pt_sz d + 1 := rfl
    have pa := pt_sz_pos a
    have pb := pt_sz_pos b
    have pd := pt_sz_pos d
    have ma := (pn_mono a ta _ _ ca).1
    have mb := (pn_mono b tb _ _ cb).1
    have md := (pn_mono d td _ _ cd).1
    dsimp only at h18
    have el : (pw_e pw_al (pt_ife a b d)).length = (pw_e pw_al a).length + (pw_e pw_al b).length + (pw_e pw_al d).length + 17 := by
      rw [ee]; simp only [List.length_append, List.length_singleton]; omega
    rw [el] at hq he1 he2 ⊢
    rw [ee] at hs
    obtain ⟨s1, hs⟩ := pr_ws_app hs
    obtain ⟨s2, hs⟩ := pr_ws_app hs
    obtain ⟨s3, hs⟩ := pr_ws_app hs
    obtain ⟨s4, hs⟩ := pr_ws_app hs
    simp only [List.length_singleton, q16] at s2 s3 s4 hs
    have c1 := (pr_ws_1 s1).1
    have c3 := (pr_ws_1 s3).1
    obtain ⟨y1, y2, y3, hs, y0⟩ := pr_kwd (n := n) k17 (by omega) w17 hs (by rw [q17]; omega)
    rw [q17] at y2 y3 hs
    obtain ⟨s5, hs⟩ := pr_ws_app hs
    obtain ⟨z1, z2, z3, hs, z0⟩ := pr_kwd (n := n) k18 (by omega) w18 hs (by rw [q18]; omega)
    rw [q18] at z2 z3 hs
    obtain ⟨s6, hs⟩ := pr_ws_app hs
    have c9 := (pr_ws_1 hs).1
    obtain ⟨F, rfl⟩ : ∃ m, F = m + 5 + 1 + 1 + 1 := ⟨F - 8, by omega⟩
    refine ⟨pr_at_sg (by omega) c1, ?_⟩
    obtain ⟨v1, v2, v3, v4⟩ := pr_word (n := n) k16 (by omega) s2 (by omega) (by rw [q16, c3]; decide)
    rw [if_pos w16] at v2
    rw [q16] at v4
    obtain ⟨ia1, ia2⟩ := iha k ka gl sc F (q + 1 + 2 + 1) ow (ne + 1 + 1) ca hw.1 (by omega) s4 (by omega) (by rw [y0]; decide) (by rw [y0]; decide) (by omega)
    obtain ⟨ib1, ib2⟩ := ihb ka kb gl sc F (q + 1 + 2 + 1 + (pw_e pw_al a).length + 2 + 4) ow (ne + 1 + 1) cb hw.2.1 (by omega) s5 (by omega) (by rw [z0]; decide) (by rw [z0]; decide) (by omega)
    obtain ⟨id1, id2⟩ := ihd kb kd gl sc F (q + 1 + 2 + 1 + (pw_e pw_al a).length + 2 + 4 + (pw_e pw_al b).length + 2 + 4) ow (ne + 1 + 1) cd hw.2.2 (by omega) s6 (by omega) (by rw [c9]; decide) (by rw [c9]; decide) (by omega)
    have ha := pr_x ia1 ia2 (pr_st_of y1 (by decide))
    have hb := pr_x ib1 ib2 (pr_st_of z1 (by decide))
    have hd := pr_x id1 id2 (pr_st_of (s := 41) (by obtain ⟨a, b, _⟩ := pr_sg (n := n) (s := 41) (Or.inr (Or.inl rfl)) c9; rw [a]; exact b) (by decide))
    rw [show q + ((pw_e pw_al a).length + (pw_e pw_al b).length + (pw_e pw_al d).length + 17) = q + 1 + 2 + 1 + (pw_e pw_al a).length + 2 + 4 + (pw_e pw_al b).length + 2 + 4 + (pw_e pw_al d).length + 1 by omega]
    refine pr_par c1 c9 (fun th ins lt h2 h3 => ?_)
    rw [e2] at h3
    have sk1 : ps_sk c n (q + 1 + 2) = q + 1 + 2 + 1 := by rw [pr_bl (by omega) c3]; exact ia1.1
    obtain ⟨ins1, lt1, r1, r2⟩ := ha (q + 1 + 2) (th + 1) ins lt sk1 h2 (by omega)
    have sk2 : ps_sk c n (q + 1 + 2 + 1 + (pw_e pw_al a).length + 1 + 4) = q + 1 + 2 + 1 + (pw_e pw_al a).length + 2 + 4 := by
      rw [pr_bl (by omega) y3, show q + 1 + 2 + 1 + (pw_e pw_al a).length + 1 + 4 + 1 = q + 1 + 2 + 1 + (pw_e pw_al a).length + 2 + 4 by omega]; exact ib1.1
    obtain ⟨ins2, lt2, r3, r4⟩ := hb _ (th + 1 + pt_sz a) ins1 lt1 sk2 r1 (by omega)
    have sk3 : ps_sk c n (q + 1 + 2 + 1 + (pw_e pw_al a).length + 2 + 4 + (pw_e pw_al b).length + 1 + 4) = q + 1 + 2 + 1 + (pw_e pw_al a).length + 2 + 4 + (pw_e pw_al b).length + 2 + 4 := by
      rw [pr_bl (by omega) z3, show q + 1 + 2 + 1 + (pw_e pw_al a).length + 2 + 4 + (pw_e pw_al b).length + 1 + 4 + 1 = q + 1 + 2 + 1 + (pw_e pw_al a).length + 2 + 4 + (pw_e pw_al b).length + 2 + 4 by omega]; exact id1.1
    obtain ⟨ins3, lt3, r5, r6⟩ := hd _ (th + 1 + pt_sz a + pt_sz b) ins2 lt2 sk3 r3 (by omega)
    refine ⟨ins3, lt3, r5, ?_⟩
    rw [pr_t0]
    unfold ps_expr
    dsimp only
    rw [v1, v2, if_neg (by decide), if_pos rfl, pr_t2]
    unfold ps_cho
    dsimp only
    rw [v1, if_neg (by rintro (z | ⟨_, z⟩); omega; cases z), v4, r2, pr_bd]
    unfold ps_ex
    dsimp only
    rw [y1, if_pos rfl, y2, r4, pr_bd]
    dsimp only
    rw [z1, if_pos rfl, z2, r6, pr_bd]
    unfold ps_nd
    dsimp only
    rw [e2, show th + 1 + pt_sz a + pt_sz b + pt_sz d = th + (pt_sz a + pt_sz b + pt_sz d + 1) by omega]
    rfl
  | lt u x a b ta tb iha ihb =>
    intro k k' gl sc F q ow ne cn hw h18 hs hq he1 he2 hF
    obtain ⟨ka, kb, ca, eu, cb, rfl⟩ := cn
    have ee : pw_e pw_al (pt_let u x a b) = [40] ++ (pw_nm 7103860 ++ ([32] ++ (pw_nm x ++ ([61] ++ (pw_e pw_al a ++ ([32] ++ (pw_nm 26990 ++ ([32] ++ (pw_e pw_al b ++ [41]))))))))) := by
      show pw_tx 19 ++ (pw_nm x ++ (pw_tx 2 ++ (pw_e pw_al a ++ (pw_tx 20 ++ (pw_e pw_al b ++ pw_tx 12))))) = _
      rw [x19, x2, x20, x12]
      simp only [List.append_assoc]
    have e2 : pt_sz (pt_let u x a b) = pt_sz a + pt_sz b + 1 := rfl
    have pa := pt_sz_pos a
    have pb := pt_sz_pos b
    have ma := (pn_mono a ta _ _ ca).1
    have mb := (pn_mono b tb _ _ cb).1
    dsimp only at h18 mb
    have el : (pw_e pw_al (pt_let u x a b)).length = (pw_nm x).length + (pw_e pw_al a).length + (pw_e pw_al b).length + 11 := by
      rw [ee]; simp only [List.length_append, List.length_singleton]; omega
    rw [el] at hq he1 he2 ⊢
    rw [ee] at hs
    obtain ⟨s1, hs⟩ := pr_ws_app hs
    obtain ⟨s2, hs⟩ := pr_ws_app hs
    obtain ⟨s3, hs⟩ := pr_ws_app hs
    obtain ⟨s4, hs⟩ := pr_ws_app hs
    obtain ⟨s5, hs⟩ := pr_ws_app hs
    obtain ⟨s6, hs⟩ := pr_ws_app hs
    simp only [List.length_singleton, q19] at s2 s3 s4 s5 s6 hs
    have c1 := (pr_ws_1 s1).1
    have c3 := (pr_ws_1 s3).1
    have c5 := (pr_ws_1 s5).1
    obtain ⟨y1, y2, y3, hs, y0⟩ := pr_kwd (n := n) k20 (by omega) w20 hs (by rw [q20]; omega)
    rw [q20] at y2 y3 hs
    obtain ⟨s7, hs⟩ := pr_ws_app hs
    have c9 := (pr_ws_1 hs).1
    obtain ⟨F, rfl⟩ : ∃ m, F = m + 5 + 1 + 1 + 1 := ⟨F - 8, by omega⟩
    refine ⟨pr_at_sg (by omega) c1, ?_⟩
    obtain ⟨v1, v2, v3, v4⟩ := pr_word (n := n) k19 (by omega) s2 (by omega) (by rw [q19, c3]; decide)
    rw [if_pos w19] at v2
    rw [q19] at v4
    obtain ⟨n1, n2, n3, n4⟩ := pr_word (n := n) hw.1.1 hw.1.2.1 s4 (by omega) (by rw [c5]; decide)
    rw [if_neg (by rw [hw.1.2.2]; decide)] at n2
    obtain ⟨u1, u2, u3⟩ := pr_sg (n := n) (s := 61) (by unfold pr_sig; omega) c5
    obtain ⟨ia1, ia2⟩ := iha k ka gl sc F (q + 1 + 3 + 1 + (pw_nm x).length + 1) ow (ne + 1 + 1) ca hw.2.1 (by omega) s6 (by omega) (by rw [y0]; decide) (by rw [y0]; decide) (by omega)
    obtain ⟨ib1, ib2⟩ := ihb (ka.1, ka.2.1 + 1, ka.2.2) kb gl ((u, x) :: sc) F (q + 1 + 3 + 1 + (pw_nm x).length + 1 + (pw_e pw_al a).length + 2 + 2) ow (ne + 1 + 1) cb hw.2.2 (by omega) s7 (by omega) (by rw [c9]; decide) (by rw [c9]; decide) (by omega)
    have ha := pr_x ia1 ia2 (pr_st_of y1 (by decide))
    have hb := pr_x ib1 ib2 (pr_st_of (s := 41) (by obtain ⟨a, b, _⟩ := pr_sg (n := n) (s := 41) (Or.inr (Or.inl rfl)) c9; rw [a]; exact b) (by decide))
    rw [show q + ((pw_nm x).length + (pw_e pw_al a).length + (pw_e pw_al b).length + 11) = q + 1 + 3 + 1 + (pw_nm x).length + 1 + (pw_e pw_al a).length + 2 + 2 + (pw_e pw_al b).length + 1 by omega]
    refine pr_par c1 c9 (fun th ins lt h2 h3 => ?_)
    rw [e2] at h3
    obtain ⟨ins1, lt1, r1, r2⟩ := ha (q + 1 + 3 + 1 + (pw_nm x).length + 1) (th + 1) ins (lt + 1) ia1.1 h2 (by omega)
    have sk2 : ps_sk c n (q + 1 + 3 + 1 + (pw_nm x).length + 1 + (pw_e pw_al a).length + 1 + 2) = q + 1 + 3 + 1 + (pw_nm x).length + 1 + (pw_e pw_al a).length + 2 + 2 := by
      rw [pr_bl (by omega) y3, show q + 1 + 3 + 1 + (pw_nm x).length + 1 + (pw_e pw_al a).length + 1 + 2 + 1 = q + 1 + 3 + 1 + (pw_nm x).length + 1 + (pw_e pw_al a).length + 2 + 2 by omega]; exact ib1.1
    obtain ⟨ins2, lt2, r3, r4⟩ := hb _ (th + 1 + pt_sz a) (ins1 ++ [24 + lt]) lt1 sk2 (by rw [List.length_append, List.length_singleton, r1]) (by omega)
    refine ⟨ins2, lt2, r3, ?_⟩
    have sk3 : ps_sk c n (q + 1 + 3) = q + 1 + 3 + 1 := by rw [pr_bl (by omega) c3]; exact n1
    have eru : 24 + ins1.length = pr_ru G u := by unfold pr_ru; rw [if_neg (by omega), if_neg (by omega)]; omega
    have eu2 : pr_ru G u = u := by omega
    rw [pr_t0]
    unfold ps_expr
    dsimp only
    rw [v1, v2, if_neg (by decide), if_neg (by decide), if_pos rfl, pr_t3]
    unfold ps_let ps_nm
    dsimp only
    rw [v1, if_neg (by rintro (z | ⟨_, z⟩); omega; cases z), v4, sk3, if_pos n2, n3, n4]
    unfold ps_ex
    dsimp only
    rw [u1, if_pos u2, u3, r2, pr_bd]
    dsimp only
    rw [y1, if_pos rfl, y2, eru]
    simp only [List.map_cons] at r4
    rw [r4, pr_bd]
    unfold ps_nd
    dsimp only
    rw [e2, show th + 1 + pt_sz a + pt_sz b = th + (pt_sz a + pt_sz b + 1) by omega, eu2]
    rfl
  | op s a b ta tb iha ihb =>
    intro k k' gl sc F q ow ne cn hw h18 hs hq he1 he2 hF
    obtain ⟨ka, kb, ca, cb, rfl⟩ := cn
    have ee : pw_e pw_al (pt_op s a b) = [40] ++ (pw_e pw_al a ++ ([s] ++ (pw_e pw_al b ++ [41]))) := by
      show pw_tx 14 ++ (pw_e pw_al a ++ ([s] ++ (pw_e pw_al b ++ pw_tx 12))) = _
      rw [x14, x12]
    have e2 : pt_sz (pt_op s a b) = pt_sz a + pt_sz b + 1 := rfl
    have pa := pt_sz_pos a
    have pb := pt_sz_pos b
    have ma := (pn_mono a ta _ _ ca).1
    have mb := (pn_mono b tb _ _ cb).1
    dsimp only at h18
    have el : (pw_e pw_al (pt_op s a b)).length = (pw_e pw_al a).length + (pw_e pw_al b).length + 3 := by
      rw [ee]; simp only [List.length_append, List.length_singleton]; omega
    rw [el] at hq he1 he2 ⊢
    rw [ee] at hs
    obtain ⟨s1, hs⟩ := pr_ws_app hs
    obtain ⟨s2, hs⟩ := pr_ws_app hs
    obtain ⟨s3, hs⟩ := pr_ws_app hs
    obtain ⟨s4, hs⟩ := pr_ws_app hs
    simp only [List.length_singleton] at s2 s3 s4 hs
    have c1 := (pr_ws_1 s1).1
    have c3 := (pr_ws_1 s3).1
    have c9 := (pr_ws_1 hs).1
    have hsig : pr_sig s := by have := hw.1; unfold pr_sig; omega
    obtain ⟨t1, t2, t3⟩ := pr_sg (n := n) hsig c3
    obtain ⟨F, rfl⟩ : ∃ m, F = m + 1 + 1 + 1 + 1 + 1 + 1 := ⟨F - 6, by omega⟩
    refine ⟨pr_at_sg (by omega) c1, ?_⟩
    have sle : ps_le ((s : Nat) : Int) = false := by rcases hw.1 with h | h | h | h | h <;> subst h <;> decide
    have sdi : ps_di ((s : Nat) : Int) = false := by rcases hw.1 with h | h | h | h | h <;> subst h <;> decide
    obtain ⟨ia1, ia2⟩ := iha k ka gl sc F (q + 1) ow (ne + 1) ca hw.2.1 (by omega) s2 (by omega) (by rw [c3]; exact sle) (by rw [c3]; exact sdi) (by omega)
    obtain ⟨ib1, ib2⟩ := ihb ka kb gl sc F (q + 1 + (pw_e pw_al a).length + 1) ow (ne + 1) cb hw.2.2 (by omega) s4 (by omega) (by rw [c9]; decide) (by rw [c9]; decide) (by omega)
    have st9 : pr_st c n (q + 1 + (pw_e pw_al a).length + 1 + (pw_e pw_al b).length) := pr_st_of (s := 41) (by obtain ⟨a, b, _⟩ := pr_sg (n := n) (s := 41) (Or.inr (Or.inl rfl)) c9; rw [a]; exact b) (by decide)
    have nsa : ps_sa c n (ps_sk c n (q + 1 + (pw_e pw_al a).length)) = false := by
      rw [t1]
      unfold ps_sa
      refine decide_eq_false ?_
      rw [t2]
      rcases hw.1 with h | h | h | h | h <;> subst h <;> (rintro (z | z | z | z | z); omega; omega; omega; omega; exact absurd z.1 (by decide))
    have a7 := pr_7 ia2 nsa
    have b7 := pr_7 ib2 st9.1
    rw [show q + ((pw_e pw_al a).length + (pw_e pw_al b).length + 3) = q + 1 + (pw_e pw_al a).length + 1 + (pw_e pw_al b).length + 1 by omega]
    have whole : pr_rd c n G (ps_t c n true (F + 1 + 1 + 1 + 1) 4 (gl, sc.map (fun b => (pr_ru G b.1, b.2)), ow, ne + 1)) (q + 1) (pt_op s a b) k (kb.1, kb.2.1, kb.2.2.1, kb.2.2.2 + 1) (q + 1 + (pw_e pw_al a).length + 1 + (pw_e pw_al b).length) := by
      have lo : (s = 42 ∨ s = 47) ∨ (s = 43 ∨ s = 45) ∨ s = 60 := by have := hw.1; omega
      rcases lo with h | h | h
      · have m6 : pr_rd c n G (ps_t c n true (F + 1 + 1) 6 (gl, sc.map (fun b => (pr_ru G b.1, b.2)), ow, ne + 1)) (q + 1) (pt_op s a b) k (kb.1, kb.2.1, kb.2.2.1, kb.2.2.2 + 1) _ := pr_lpop (o1 := 42) (o2 := 47) a7 b7 t1 t2 h ib1.1 st9.2.1 st9.2.2.1
        exact pr_4 (pr_5 m6 ⟨st9.2.2.2.1, st9.2.2.2.2.1⟩) st9.2.2.2.2.2
      · have a6 := pr_6 a7 (by rw [t1, t2]; omega)
        have b6 := pr_6 b7 ⟨st9.2.1, st9.2.2.1⟩
        have m5 : pr_rd c n G (ps_t c n true (F + 1 + 1 + 1) 5 (gl, sc.map (fun b => (pr_ru G b.1, b.2)), ow, ne + 1)) (q + 1) (pt_op s a b) k (kb.1, kb.2.1, kb.2.2.1, kb.2.2.2 + 1) _ := pr_lpop (o1 := 43) (o2 := 45) a6 b6 t1 t2 h ib1.1 st9.2.2.2.1 st9.2.2.2.2.1
        exact pr_4 m5 st9.2.2.2.2.2
      · subst h
        have a5 := pr_5 (pr_6 a7 (by rw [t1, t2]; omega)) (by rw [t1, t2]; omega)
        have b5 := pr_5 (pr_6 b7 ⟨st9.2.1, st9.2.2.1⟩) ⟨st9.2.2.2.1, st9.2.2.2.2.1⟩
        exact pr_tst a5 b5 t1 t2 ib1.1
    have w0' := pr_0 ia1 whole
    exact pr_par c1 c9 (fun th ins lt h2 h3 => w0' (q + 1) th ins lt ia1.1 h2 h3)
  | site s a b ta tb iha ihb =>
    intro k k' gl sc F q ow ne cn hw h18 hs hq he1 he2 hF
    obtain ⟨ka, kb, ca, es, cb, rfl⟩ := cn
    have ee : pw_e pw_al (pt_site s a b) = [40] ++ (pw_e pw_al a ++ ([32] ++ (pw_e pw_al b ++ [41]))) := by
      show pw_tx 14 ++ (pw_e pw_al a ++ (pw_tx 1 ++ (pw_e pw_al b ++ pw_tx 12))) = _
      rw [x14, x1, x12]
    have e2 : pt_sz (pt_site s a b) = pt_sz a + pt_sz b + 1 := rfl
    have pa := pt_sz_pos a
    have pb := pt_sz_pos b
    have ma := (pn_mono a ta _ _ ca).1
    have mb := (pn_mono b tb _ _ cb).1
    dsimp only at h18 mb
    have el : (pw_e pw_al (pt_site s a b)).length = (pw_e pw_al a).length + (pw_e pw_al b).length + 3 := by
      rw [ee]; simp only [List.length_append, List.length_singleton]; omega
    rw [el] at hq he1 he2 ⊢
    rw [ee] at hs
    obtain ⟨s1, hs⟩ := pr_ws_app hs
    obtain ⟨s2, hs⟩ := pr_ws_app hs
    obtain ⟨s3, hs⟩ := pr_ws_app hs
    obtain ⟨s4, hs⟩ := pr_ws_app hs
    simp only [List.length_singleton] at s2 s3 s4 hs
    have c1 := (pr_ws_1 s1).1
    have c3 := (pr_ws_1 s3).1
    have c9 := (pr_ws_1 hs).1
    obtain ⟨F, rfl⟩ : ∃ m, F = m + 1 + 1 + 1 + 1 + 1 + 1 := ⟨F - 6, by omega⟩
    refine ⟨pr_at_sg (by omega) c1, ?_⟩
    obtain ⟨ia1, ia2⟩ := iha k ka gl sc F (q + 1) ow (ne + 1) ca hw.1 (by omega) s2 (by omega) (by rw [c3]; decide) (by rw [c3]; decide) (by omega)
    obtain ⟨ib1, ib2⟩ := ihb (ka.1, ka.2.1, ka.2.2.1 + 1, ka.2.2.2) kb gl sc F (q + 1 + (pw_e pw_al a).length + 1) ow (ne + 1) cb hw.2 (by omega) s4 (by omega) (by rw [c9]; decide) (by rw [c9]; decide) (by omega)
    have st9 : pr_st c n (q + 1 + (pw_e pw_al a).length + 1 + (pw_e pw_al b).length) := pr_st_of (s := 41) (by obtain ⟨a, b, _⟩ := pr_sg (n := n) (s := 41) (Or.inr (Or.inl rfl)) c9; rw [a]; exact b) (by decide)
    have skb : ps_sk c n (q + 1 + (pw_e pw_al a).length) = q + 1 + (pw_e pw_al a).length + 1 := by rw [pr_bl (by omega) c3]; exact ib1.1
    have sab : ps_sa c n (ps_sk c n (q + 1 + (pw_e pw_al a).length)) = true := by
      rw [skb]
      unfold ps_sa
      refine decide_eq_true ?_
      rcases ib1.2.2 with h | h | h | h
      · exact Or.inr (Or.inr (Or.inr (Or.inl h)))
      · exact Or.inl h
      · exact Or.inr (Or.inl h)
      · exact Or.inr (Or.inr (Or.inl h))
    rw [show q + ((pw_e pw_al a).length + (pw_e pw_al b).length + 3) = q + 1 + (pw_e pw_al a).length + 1 + (pw_e pw_al b).length + 1 by omega]
    have m7 : pr_rd c n G (ps_t c n true (F + 1) 7 (gl, sc.map (fun b => (pr_ru G b.1, b.2)), ow, ne + 1)) (q + 1) (pt_site s a b) k (kb.1, kb.2.1, kb.2.2.1, kb.2.2.2 + 1) (q + 1 + (pw_e pw_al a).length + 1 + (pw_e pw_al b).length) := by
      rw [es]
      exact pr_chs ia2 ib2 sab skb st9.1
    have w0' := pr_0 ia1 (pr_4 (pr_5 (pr_6 m7 ⟨st9.2.1, st9.2.2.1⟩) ⟨st9.2.2.2.1, st9.2.2.2.2.1⟩) st9.2.2.2.2.2)
    exact pr_par c1 c9 (fun th ins lt h2 h3 => w0' (q + 1) th ins lt ia1.1 h2 h3)
