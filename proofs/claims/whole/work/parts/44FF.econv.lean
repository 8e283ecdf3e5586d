/-! copying: what stands there is the program that is told -/
theorem pc_gl_get (LV : Nat → Bool) : ∀ (l : List Nat) (g i : Nat), i < l.length → LV (g + i) = true → (pc_gl LV l g).getD (pc_rk LV (g + i) - pc_rk LV g) 0 = l.getD i 0 := by
  intro l
  induction l with
  | nil => intro g i h; cases h
  | cons y r ih =>
    intro g i h hl
    have mono : pc_rk LV g ≤ pc_rk LV (g + i) := pc_rk_mono LV (by omega)
    show (if LV g = true then y :: pc_gl LV r (g + 1) else pc_gl LV r (g + 1)).getD _ 0 = _
    cases i with
    | zero =>
      rw [Nat.add_zero] at hl
      show (if LV g = true then y :: pc_gl LV r (g + 1) else pc_gl LV r (g + 1)).getD (pc_rk LV g - pc_rk LV g) 0 = y
      rw [if_pos hl, Nat.sub_self]; rfl
    | succ i =>
      rw [List.length_cons] at h
      have q := ih (g + 1) i (by omega) (by rw [show g + 1 + i = g + (i + 1) by omega]; exact hl)
      rw [show g + 1 + i = g + (i + 1) by omega] at q
      have mono1 : pc_rk LV (g + 1) ≤ pc_rk LV (g + (i + 1)) := pc_rk_mono LV (by omega)
      by_cases c : LV g = true
      · rw [if_pos c]
        rw [pc_rk_t c] at q mono1
        rw [show pc_rk LV (g + (i + 1)) - pc_rk LV g = (pc_rk LV (g + (i + 1)) - (pc_rk LV g + 1)) + 1 by omega]
        exact q
      · rw [if_neg c]
        rw [pc_rk_f (pc_bf c)] at q
        exact q
theorem pe_xi {LV M : Nat → Bool} {ins : List Nat} {v : Nat} (h24 : 24 ≤ v) (hl : v - 24 < ins.length) (hv : LV (v - 24) = true) : px_xi (pc_gl LV ins 0) (pc_ρ M LV v) = px_xi ins v := by
  have q := pc_gl_get LV ins 0 (v - 24) hl (by rw [Nat.zero_add]; exact hv)
  rw [Nat.zero_add, show pc_rk LV 0 = 0 from rfl, Nat.sub_zero] at q
  have e : pc_ρ M LV v = 24 + pc_rk LV (v - 24) := if_neg (by omega)
  rw [e]
  unfold px_xi
  rw [if_neg (by omega), if_neg (by omega), show 24 + pc_rk LV (v - 24) - 24 = pc_rk LV (v - 24) by omega]
  exact q
theorem pe_xif {LV M : Nat → Bool} {l : List Nat} {v : Nat} (h24 : v < 24) : px_xi l (pc_ρ M LV v) = pc_rk M v ∧ pc_ρ M LV v = pc_rk M v := by
  have r := pc_rk_le M v
  have e : pc_ρ M LV v = pc_rk M v := if_pos h24
  refine ⟨?_, e⟩
  rw [e]
  unfold px_xi
  exact if_pos (by omega)
def pe_WF (o oP G : Nat) (M CL SV : Nat → Bool) (w0 : fa_W) (mk : Nat → Int) (c : Nat → Nat) (nd : Nat) (W : fa_W) : Prop := (∀ i, i < nd → mk i ≠ -1 → pe_NR o oP M SV CL w0 c W i) ∧ (∀ f, f < 24 → M f = true → W (o + 14) (pc_rk M f) = w0 (oP + 14) f) ∧ (∀ v, 24 ≤ v → v < 74 → W (o + 14) v = w0 (oP + 14) v) ∧ ∀ g, g < G → M g = true → W (o + 18) (pc_rk M g) = w0 (oP + 18) g
theorem pe_hf {M : Nat → Bool} (f : Nat) : pe_hh M (f : Int) = ((pc_rk M f : Nat) : Int) := by
  unfold pe_hh
  rw [if_neg (by omega), Int.toNat_natCast]
theorem pe_ppn {c : Nat → Nat} (j : Nat) : pe_pp c (j : Int) = ((c (j + 1) - 1 : Nat) : Int) := by
  unfold pe_pp
  rw [if_neg (by omega), Int.toNat_natCast]
theorem pe_pp1 {c : Nat → Nat} : pe_pp c (-1) = -1 := if_pos rfl
theorem pe_nl {oP i K V st : Nat} {CL : Nat → Bool} {w0 : fa_W} {h x y z : Int} (N : px_N oP w0 i K V h st x y z) (hK : K ≠ 5) : pe_lose oP CL w0 i = false := by
  unfold pe_lose
  rw [N.1, decide_eq_false (by omega)]; rfl
set_option maxHeartbeats 4000000 in
theorem pe_conv {o oP B nf nv G nd : Nat} {M CL SV LV : Nat → Bool} {ins : List Nat} {w0 W : fa_W} {mk : Nat → Int} (h24 : nf ≤ 24) (hx : ∀ v, px_xi ins v < 74) (hge : ∀ i, i < ins.length → 24 ≤ ins.getD i 0) (hW : pe_WF o oP G M CL SV w0 mk (pe_c (pe_e oP CL w0 mk)) nd W) (t : pt_T) (tt : pt_tw t) : ∀ (gl : List Nat) (sc : List (Nat × Nat)) (h : Int) (a n : Nat) (k k' : pk_K), px_P oP ins t h a w0 → a + pt_sz t ≤ nd → pn_can B t k k' → k'.2.1 ≤ ins.length → pf_W nf nv 100 t → gl.length ≤ G → pk_wfs t gl sc → (∀ b ∈ sc, ((b.1 < 24 → M b.1 = true) ∧ b.1 < 24 + ins.length) ∧ (24 ≤ b.1 → LV (b.1 - 24) = true)) → pc_ok M CL SV LV t true → pe_mk CL t a mk → pe_Xh M h → px_P o (pc_gl LV ins 0) (pc_t CL (pc_ρ M LV) (pc_rk SV) t n) (pe_hh M h) (pe_c (pe_e oP CL w0 mk) a) W := by
  obtain ⟨w1, w2, w3, w4⟩ := hW
  have sub := fun {u : pt_T} (tu : pt_tw u) {gl : List Nat} {sc : List (Nat × Nat)} {h : Int} {a : Nat} {k k' : pk_K} (H : px_P oP ins u h a w0) (hc : pn_can B u k k') (hi : k'.2.1 ≤ ins.length) (Wf : pf_W nf nv 100 u) (wf : pk_wfs u gl sc) (hs : ∀ b ∈ sc, ((b.1 < 24 → M b.1 = true) ∧ b.1 < 24 + ins.length) ∧ (24 ≤ b.1 → LV (b.1 - 24) = true)) (ok : pc_ok M CL SV LV u true) (m : pe_mk CL u a mk) (hh : pe_Xh M h) => (pe_tree (oP := oP) h24 hx hge u tu gl sc h a k k' H hc hi Wf wf (fun b hb => (hs b hb).1) ok m hh).1
  induction t, tt using pt_indh with
  | num v =>
    intro gl sc h a n k k' H ha hc hi Wf hg wf hs ok m hh
    have q := ((w1 a ha (pe_nz m)) 1 v a h _ _ _ H).2.1 (pe_nl H (by decide))
    rw [pe_pp1] at q
    have e : pe_vv M SV 1 v = v := by unfold pe_vv; rw [if_neg (by omega), if_neg (by omega)]
    rw [e] at q
    exact q
  | var v x =>
    intro gl sc h a n k k' H ha hc hi Wf hg wf hs ok m hh
    have q := ((w1 a ha (pe_nz m)) 2 _ a h _ _ _ H.1).2.1 (pe_nl H.1 (by decide))
    rw [pe_pp1] at q
    obtain ⟨b, b1, b2⟩ := pd_lk_mem sc x v wf.1
    obtain ⟨⟨s1, s2⟩, s3⟩ := hs b b1
    rw [b2] at s1 s2 s3
    by_cases l : v < 24
    · have e0 : px_xi ins v = v := by unfold px_xi; exact if_pos l
      have e : pe_vv M SV 2 v = pc_rk M v := by unfold pe_vv; rw [if_pos (Or.inl ⟨rfl, l⟩)]
      obtain ⟨x1, x2⟩ := pe_xif (LV := LV) (M := M) (l := pc_gl LV ins 0) l
      rw [e0, e] at q
      show px_N o W _ 2 (px_xi (pc_gl LV ins 0) (pc_ρ M LV v)) _ _ _ _ _ ∧ W (o + 14) (px_xi (pc_gl LV ins 0) (pc_ρ M LV v)) = (x : Int)
      rw [x1]
      have H2 := H.2
      rw [e0] at H2
      exact ⟨q, (w2 v l (s1 l)).trans H2⟩
    · have l2 : 24 ≤ v := by omega
      have xe := pe_xi (M := M) (ins := ins) l2 (by omega) (s3 l2)
      have xg : 24 ≤ px_xi ins v := by
        have e : px_xi ins v = ins.getD (v - 24) 0 := by unfold px_xi; exact if_neg l
        rw [e]; exact hge _ (by omega)
      have e : pe_vv M SV 2 (px_xi ins v) = px_xi ins v := by unfold pe_vv; rw [if_neg (by omega), if_neg (by omega)]
      rw [e] at q
      show px_N o W _ 2 (px_xi (pc_gl LV ins 0) (pc_ρ M LV v)) _ _ _ _ _ ∧ W (o + 14) (px_xi (pc_gl LV ins 0) (pc_ρ M LV v)) = (x : Int)
      rw [xe]
      exact ⟨q, (w3 _ xg (hx v)).trans H.2⟩
  | glo g x =>
    intro gl sc h a n k k' H ha hc hi Wf hg wf hs ok m hh
    have q := ((w1 a ha (pe_nz m)) 3 g a h _ _ _ H.1).2.1 (pe_nl H.1 (by decide))
    rw [pe_pp1] at q
    have e : pe_vv M SV 3 g = pc_rk M g := by unfold pe_vv; rw [if_pos (Or.inr (Or.inl rfl))]
    have gl2 := (ps_gx_mem _ _ _ _ wf.2.1).2.1
    have g24 : g < 24 := by have : g < nf := Wf; omega
    have x2 := (pe_xif (LV := LV) (M := M) (l := ins) g24).2
    rw [e] at q
    show px_N o W _ 3 (pc_ρ M LV g) _ _ _ _ _ ∧ W (o + 18) (pc_ρ M LV g) = (x : Int)
    rw [x2]
    exact ⟨q, (w4 g (by omega) (ok rfl)).trans H.2⟩
  | dead d =>
    intro gl sc h a n k k' H ha hc hi Wf hg wf hs ok m hh
    have q := ((w1 a ha (pe_nz m)) 4 0 a h _ _ _ H).2.1 (pe_nl H (by decide))
    rw [pe_pp1] at q
    exact q
  | lam f x b tb ih =>
    intro gl sc h a n k k' H ha hc hi Wf hg wf hs ok m hh
    obtain ⟨ef, k1, h1, rfl⟩ := hc
    obtain ⟨H1, H2, H3, H4, H5⟩ := H
    obtain ⟨o1, o2, o3⟩ := ok
    obtain ⟨m1, m2⟩ := m
    have fl : f < 24 := by have := Wf.1; omega
    have pp := pt_sz_pos b
    have sz : pt_sz (pt_lam f x b) = pt_sz b + 1 := rfl
    rw [sz] at ha
    have x2 := (pe_xif (LV := LV) (M := M) (l := ins) fl).2
    have x0 : px_xi ins f = f := by unfold px_xi; exact if_pos fl
    have hN := (w1 (a + pt_sz b) ha (pe_nz m1)) 5 f a h _ _ _ H2
    have e : pc_t CL (pc_ρ M LV) (pc_rk SV) (pt_lam f x b) n = if CL f = true then pt_lam (pc_ρ M LV f) x (pc_t CL (pc_ρ M LV) (pc_rk SV) b n) else pt_lam (pc_ρ M LV f) x (pt_dead n) := rfl
    have cep := pe_e_pos (oP := oP) (CL := CL) (w0 := w0) (mk := mk) (i := a + pt_sz b) (pe_nz m1)
    have nm := (w2 f fl o1).trans H3
    have lo : pe_lose oP CL w0 (a + pt_sz b) = !CL f := by
      unfold pe_lose
      rw [H2.1, H2.2.1, Int.toNat_natCast, decide_eq_true (by rfl)]; rfl
    rw [e]
    by_cases cl : CL f = true
    · rw [if_pos cl] at m2 ⊢
      rw [cl] at o3 lo
      have hs' : ∀ b ∈ (f, x) :: sc, ((b.1 < 24 → M b.1 = true) ∧ b.1 < 24 + ins.length) ∧ (24 ≤ b.1 → LV (b.1 - 24) = true) := fun b hb => by
        rcases List.mem_cons.mp hb with rfl | hb
        · exact ⟨⟨fun _ => o1, by dsimp only; omega⟩, fun z => by dsimp only at z; omega⟩
        · exact hs b hb
      have hhf : pe_Xh M (f : Int) := Or.inr ⟨f, rfl, fl, o1⟩
      have cb := sub tb H1 h1 hi Wf.2 wf.2 hs' o3 m2 hhf
      have i := ih gl ((f, x) :: sc) (f : Int) a n _ _ H1 (by omega) h1 hi Wf.2 hg wf.2 hs' o3 m2 hhf
      obtain ⟨_, n2, _, _, n5⟩ := hN
      have n2 := n2 lo
      have n5 := n5 rfl
      have lof : pe_lose oP CL w0 (a + pt_sz b) = false := lo
      rw [lof, if_neg (by decide)] at cep n5
      rw [pe_vv5, pe_ppn, pe_pp1, show a + pt_sz b - 1 + 1 = a + pt_sz b by omega, cb] at n2
      rw [← cep, cb, pe_ppn, show a + pt_sz b - 1 + 1 = a + pt_sz b by omega, cb] at n5
      have tw := pc_t_tw (CL := CL) (ρ := pc_ρ M LV) (σ := pc_rk SV) b tb n
      rw [pe_hf] at i
      show px_P o _ _ ((pc_ρ M LV f : Nat) : Int) _ W ∧ px_N o W (pe_c (pe_e oP CL w0 mk) a + pt_sz (pc_t CL (pc_ρ M LV) (pc_rk SV) b n)) 5 (pc_ρ M LV f) (pe_hh M h) _ ((_ + pt_sz (pc_t CL (pc_ρ M LV) (pc_rk SV) b n) - 1 : Nat) : Int) (-1) (-1) ∧ W (o + 14) (pc_ρ M LV f) = (x : Int) ∧ W (o + 16) (pc_ρ M LV f) = ((_ + pt_sz (pc_t CL (pc_ρ M LV) (pc_rk SV) b n) : Nat) : Int) ∧ W (o + 20) (pc_ρ M LV f) = ((_ + pt_sz (pc_t CL (pc_ρ M LV) (pc_rk SV) b n) - 1 : Nat) : Int)
      rw [tw.2, x2]
      exact ⟨i, n2, nm, n5.1, n5.2⟩
    · rw [if_neg cl] at m2 ⊢
      have cf := pc_bf cl
      rw [cf] at lo
      have lot : pe_lose oP CL w0 (a + pt_sz b) = true := lo
      have cb : pe_c (pe_e oP CL w0 mk) (a + pt_sz b) = pe_c (pe_e oP CL w0 mk) a := pe_c_z _ (fun i p q => pe_e_0 (m2 i p q))
      obtain ⟨n1, _, _, _, n5⟩ := hN
      have n1 := n1 lot
      have n5 := n5 rfl
      rw [lot, if_pos rfl] at cep n5
      rw [cb] at n1 cep n5
      rw [← cep] at n5
      show px_N o W (pe_c (pe_e oP CL w0 mk) a) 4 0 ((pc_ρ M LV f : Nat) : Int) _ (-1) (-1) (-1) ∧ px_N o W (pe_c (pe_e oP CL w0 mk) a + 1) 5 (pc_ρ M LV f) (pe_hh M h) _ ((_ + 1 - 1 : Nat) : Int) (-1) (-1) ∧ W (o + 14) (pc_ρ M LV f) = (x : Int) ∧ W (o + 16) (pc_ρ M LV f) = ((_ + 1 : Nat) : Int) ∧ W (o + 20) (pc_ρ M LV f) = ((_ + 1 - 1 : Nat) : Int)
      rw [x2]
      exact ⟨n1.1, n1.2, nm, n5.1, n5.2⟩
  | ife ta t2 tc wa wb wc iha ihb ihc =>
    intro gl sc h a n k k' H ha hc hi Wf hg wf hs ok m hh
    obtain ⟨k1, k2, k3, h1, h2, h3, rfl⟩ := hc
    obtain ⟨H1, H2, H3, H4⟩ := H
    obtain ⟨m1, m2, m3, m4⟩ := m
    have j2 := pn_mono t2 wb _ _ h2
    have j3 := pn_mono tc wc _ _ h3
    dsimp only at hi
    have p1 := pt_sz_pos ta
    have p2 := pt_sz_pos t2
    have p3 := pt_sz_pos tc
    have sz : pt_sz (pt_ife ta t2 tc) = pt_sz ta + pt_sz t2 + pt_sz tc + 1 := rfl
    rw [sz] at ha
    have ca := sub wa H1 h1 (by omega) Wf.1 wf.1 hs ok.1 m1 hh
    have cb := sub wb H2 h2 (by omega) Wf.2.1 wf.2.1 hs ok.2.1 m2 hh
    have cc := sub wc H3 h3 hi Wf.2.2 wf.2.2 hs ok.2.2 m3 hh
    have i1 := iha gl sc h a n _ _ H1 (by omega) h1 (by omega) Wf.1 hg wf.1 hs ok.1 m1 hh
    have i2 := ihb gl sc h _ (n + pc_sz CL ta) _ _ H2 (by omega) h2 (by omega) Wf.2.1 hg wf.2.1 hs ok.2.1 m2 hh
    have i3 := ihc gl sc h _ (n + pc_sz CL ta + pc_sz CL t2) _ _ H3 (by omega) h3 hi Wf.2.2 hg wf.2.2 hs ok.2.2 m3 hh
    have q := ((w1 (a + pt_sz ta + pt_sz t2 + pt_sz tc) (by omega) (pe_nz m4)) 6 0 a h _ _ _ H4).2.1 (pe_nl H4 (by decide))
    have e : pe_vv M SV 6 0 = 0 := by unfold pe_vv; rw [if_neg (by omega), if_neg (by omega)]
    rw [e, pe_ppn, pe_ppn, pe_ppn, show a + pt_sz ta - 1 + 1 = a + pt_sz ta by omega, show a + pt_sz ta + pt_sz t2 - 1 + 1 = a + pt_sz ta + pt_sz t2 by omega, show a + pt_sz ta + pt_sz t2 + pt_sz tc - 1 + 1 = a + pt_sz ta + pt_sz t2 + pt_sz tc by omega, cc, cb, ca] at q
    rw [cb, ca] at i3
    rw [ca] at i2
    have t1 := (pc_t_tw (CL := CL) (ρ := pc_ρ M LV) (σ := pc_rk SV) ta wa n).2
    have t3 := (pc_t_tw (CL := CL) (ρ := pc_ρ M LV) (σ := pc_rk SV) t2 wb (n + pc_sz CL ta)).2
    have t4 := (pc_t_tw (CL := CL) (ρ := pc_ρ M LV) (σ := pc_rk SV) tc wc (n + pc_sz CL ta + pc_sz CL t2)).2
    show px_P o (pc_gl LV ins 0) (pt_ife (pc_t CL (pc_ρ M LV) (pc_rk SV) ta n) (pc_t CL (pc_ρ M LV) (pc_rk SV) t2 (n + pc_sz CL ta)) (pc_t CL (pc_ρ M LV) (pc_rk SV) tc (n + pc_sz CL ta + pc_sz CL t2))) (pe_hh M h) _ W
    generalize pc_t CL (pc_ρ M LV) (pc_rk SV) ta n = A1 at i1 t1 ⊢
    generalize pc_t CL (pc_ρ M LV) (pc_rk SV) t2 (n + pc_sz CL ta) = A2 at i2 t3 ⊢
    generalize pc_t CL (pc_ρ M LV) (pc_rk SV) tc (n + pc_sz CL ta + pc_sz CL t2) = A3 at i3 t4 ⊢
    refine ⟨i1, ?_, ?_, ?_⟩
    · rw [t1]; exact i2
    · rw [t1, t3]; exact i3
    · rw [t1, t3, t4]; exact q
  | lt v x ta t2 wa wb iha ihb =>
    intro gl sc h a n k k' H ha hc hi Wf hg wf hs ok m hh
    obtain ⟨k1, k2, h1, ev, h2, rfl⟩ := hc
    obtain ⟨H1, H2, H3, H4, H5⟩ := H
    obtain ⟨m1, m2, m3⟩ := m
    have j2 := pn_mono t2 wb _ _ h2
    dsimp only at hi j2
    have p1 := pt_sz_pos ta
    have p2 := pt_sz_pos t2
    have sz : pt_sz (pt_let v x ta t2) = pt_sz ta + pt_sz t2 + 1 := rfl
    rw [sz] at ha
    have lv : LV (v - 24) = true := ok.1
    have xe := pe_xi (M := M) (ins := ins) (v := v) (by omega) (by omega) lv
    have xg : 24 ≤ px_xi ins v := by
      have e : px_xi ins v = ins.getD (v - 24) 0 := by unfold px_xi; exact if_neg (by omega)
      rw [e]; exact hge _ (by omega)
    have hs' : ∀ b ∈ (v, x) :: sc, ((b.1 < 24 → M b.1 = true) ∧ b.1 < 24 + ins.length) ∧ (24 ≤ b.1 → LV (b.1 - 24) = true) := fun b hb => by
      rcases List.mem_cons.mp hb with rfl | hb
      · exact ⟨⟨fun z => by dsimp only at z; omega, by dsimp only; omega⟩, fun _ => lv⟩
      · exact hs b hb
    have ca := sub wa H1 h1 (by omega) Wf.2.1 wf.2.1 hs ok.2.1 m1 hh
    have cb := sub wb H2 h2 hi Wf.2.2 wf.2.2 hs' ok.2.2 m2 hh
    have i1 := iha gl sc h a n _ _ H1 (by omega) h1 (by omega) Wf.2.1 hg wf.2.1 hs ok.2.1 m1 hh
    have i2 := ihb gl ((v, x) :: sc) h _ (n + pc_sz CL ta) _ _ H2 (by omega) h2 hi Wf.2.2 hg wf.2.2 hs' ok.2.2 m2 hh
    have hN := (w1 (a + pt_sz ta + pt_sz t2) (by omega) (pe_nz m3)) 7 _ a h _ _ _ H3
    have q := hN.2.1 (pe_nl H3 (by decide))
    have q4 := hN.2.2.2.1 rfl
    have cep := pe_e_pos (oP := oP) (CL := CL) (w0 := w0) (mk := mk) (i := a + pt_sz ta + pt_sz t2) (pe_nz m3)
    rw [pe_nl H3 (by decide), if_neg (by decide), cb, ca] at cep
    rw [← cep] at q4
    rw [pe_vv7, pe_ppn, pe_ppn, pe_pp1, show a + pt_sz ta - 1 + 1 = a + pt_sz ta by omega, show a + pt_sz ta + pt_sz t2 - 1 + 1 = a + pt_sz ta + pt_sz t2 by omega, cb, ca] at q
    rw [ca] at i2
    have t1 := (pc_t_tw (CL := CL) (ρ := pc_ρ M LV) (σ := pc_rk SV) ta wa n).2
    have t3 := (pc_t_tw (CL := CL) (ρ := pc_ρ M LV) (σ := pc_rk SV) t2 wb (n + pc_sz CL ta)).2
    show px_P o (pc_gl LV ins 0) (pt_let (pc_ρ M LV v) x (pc_t CL (pc_ρ M LV) (pc_rk SV) ta n) (pc_t CL (pc_ρ M LV) (pc_rk SV) t2 (n + pc_sz CL ta))) (pe_hh M h) _ W
    generalize pc_t CL (pc_ρ M LV) (pc_rk SV) ta n = A1 at i1 t1 ⊢
    generalize pc_t CL (pc_ρ M LV) (pc_rk SV) t2 (n + pc_sz CL ta) = A2 at i2 t3 ⊢
    refine ⟨i1, ?_, ?_, ?_, ?_⟩
    · rw [t1]; exact i2
    · rw [t1, t3, xe]; exact q
    · rw [xe]; exact (w3 _ xg (hx v)).trans H4
    · rw [t1, t3, xe]; exact q4
  | op s ta t2 wa wb iha ihb =>
    intro gl sc h a n k k' H ha hc hi Wf hg wf hs ok m hh
    obtain ⟨k1, k2, h1, h2, rfl⟩ := hc
    obtain ⟨H1, H2, H3⟩ := H
    obtain ⟨m1, m2, m3⟩ := m
    have j2 := pn_mono t2 wb _ _ h2
    dsimp only at hi j2
    have p1 := pt_sz_pos ta
    have p2 := pt_sz_pos t2
    have sz : pt_sz (pt_op s ta t2) = pt_sz ta + pt_sz t2 + 1 := rfl
    rw [sz] at ha
    have ca := sub wa H1 h1 (by omega) Wf.1 wf.2.1 hs ok.1 m1 hh
    have cb := sub wb H2 h2 hi Wf.2 wf.2.2 hs ok.2 m2 hh
    have i1 := iha gl sc h a n _ _ H1 (by omega) h1 (by omega) Wf.1 hg wf.2.1 hs ok.1 m1 hh
    have i2 := ihb gl sc h _ (n + pc_sz CL ta) _ _ H2 (by omega) h2 hi Wf.2 hg wf.2.2 hs ok.2 m2 hh
    have q := ((w1 (a + pt_sz ta + pt_sz t2) (by omega) (pe_nz m3)) 8 s a h _ _ _ H3).2.1 (pe_nl H3 (by decide))
    have e : pe_vv M SV 8 s = s := by unfold pe_vv; rw [if_neg (by omega), if_neg (by omega)]
    rw [e, pe_ppn, pe_ppn, pe_pp1, show a + pt_sz ta - 1 + 1 = a + pt_sz ta by omega, show a + pt_sz ta + pt_sz t2 - 1 + 1 = a + pt_sz ta + pt_sz t2 by omega, cb, ca] at q
    rw [ca] at i2
    have t1 := (pc_t_tw (CL := CL) (ρ := pc_ρ M LV) (σ := pc_rk SV) ta wa n).2
    have t3 := (pc_t_tw (CL := CL) (ρ := pc_ρ M LV) (σ := pc_rk SV) t2 wb (n + pc_sz CL ta)).2
    show px_P o (pc_gl LV ins 0) (pt_op s (pc_t CL (pc_ρ M LV) (pc_rk SV) ta n) (pc_t CL (pc_ρ M LV) (pc_rk SV) t2 (n + pc_sz CL ta))) (pe_hh M h) _ W
    generalize pc_t CL (pc_ρ M LV) (pc_rk SV) ta n = A1 at i1 t1 ⊢
    generalize pc_t CL (pc_ρ M LV) (pc_rk SV) t2 (n + pc_sz CL ta) = A2 at i2 t3 ⊢
    refine ⟨i1, ?_, ?_⟩
    · rw [t1]; exact i2
    · rw [t1, t3]; exact q
  | site s ta t2 wa wb iha ihb =>
    intro gl sc h a n k k' H ha hc hi Wf hg wf hs ok m hh
    obtain ⟨k1, k2, h1, es, h2, rfl⟩ := hc
    obtain ⟨H1, H2, H3, H4⟩ := H
    obtain ⟨m1, m2, m3⟩ := m
    have j2 := pn_mono t2 wb _ _ h2
    dsimp only at hi j2
    have p1 := pt_sz_pos ta
    have p2 := pt_sz_pos t2
    have sz : pt_sz (pt_site s ta t2) = pt_sz ta + pt_sz t2 + 1 := rfl
    rw [sz] at ha
    have ca := sub wa H1 h1 (by omega) Wf.2.1 wf.1 hs ok.2.1 m1 hh
    have cb := sub wb H2 h2 hi Wf.2.2 wf.2 hs ok.2.2 m2 hh
    have i1 := iha gl sc h a n _ _ H1 (by omega) h1 (by omega) Wf.2.1 hg wf.1 hs ok.2.1 m1 hh
    have i2 := ihb gl sc h _ (n + pc_sz CL ta) _ _ H2 (by omega) h2 hi Wf.2.2 hg wf.2 hs ok.2.2 m2 hh
    have hN := (w1 (a + pt_sz ta + pt_sz t2) (by omega) (pe_nz m3)) 9 s a h _ _ _ H3
    have q := hN.2.1 (pe_nl H3 (by decide))
    have q3 := hN.2.2.1 rfl
    have cep := pe_e_pos (oP := oP) (CL := CL) (w0 := w0) (mk := mk) (i := a + pt_sz ta + pt_sz t2) (pe_nz m3)
    rw [pe_nl H3 (by decide), if_neg (by decide), cb, ca] at cep
    rw [← cep] at q3
    rw [pe_vv9, pe_ppn, pe_ppn, pe_pp1, show a + pt_sz ta - 1 + 1 = a + pt_sz ta by omega, show a + pt_sz ta + pt_sz t2 - 1 + 1 = a + pt_sz ta + pt_sz t2 by omega, cb, ca] at q
    rw [ca] at i2
    have t1 := (pc_t_tw (CL := CL) (ρ := pc_ρ M LV) (σ := pc_rk SV) ta wa n).2
    have t3 := (pc_t_tw (CL := CL) (ρ := pc_ρ M LV) (σ := pc_rk SV) t2 wb (n + pc_sz CL ta)).2
    show px_P o (pc_gl LV ins 0) (pt_site (pc_rk SV s) (pc_t CL (pc_ρ M LV) (pc_rk SV) ta n) (pc_t CL (pc_ρ M LV) (pc_rk SV) t2 (n + pc_sz CL ta))) (pe_hh M h) _ W
    generalize pc_t CL (pc_ρ M LV) (pc_rk SV) ta n = A1 at i1 t1 ⊢
    generalize pc_t CL (pc_ρ M LV) (pc_rk SV) t2 (n + pc_sz CL ta) = A2 at i2 t3 ⊢
    refine ⟨i1, ?_, ?_, ?_⟩
    · rw [t1]; exact i2
    · rw [t1, t3]; exact q
    · rw [t1, t3]; exact q3
