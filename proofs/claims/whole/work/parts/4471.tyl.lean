def px_bp (oP G g : Nat) (w : fa_W) : Int := if g < G then w (oP + 20) g else w oP 16
def pn_K (gs : ps_G) (t : pt_T) (K K' : Nat → pk_K) (la li : Nat) : Prop := (∀ g, g ≤ gs.length → pt_tw (pn_tr gs t g) ∧ pn_can gs.length (pn_tr gs t g) (K g) (K' g) ∧ (K' g).1 ≤ la ∧ (K' g).2.1 ≤ li ∧ ∃ gl' sc', pk_wfs (pn_tr gs t g) gl' sc' ∧ gl'.length ≤ gs.length ∧ ∀ b ∈ sc', b.1 = g ∧ g < gs.length) ∧ ∀ g g', g < g' → g' ≤ gs.length → pk_ge (K' g) (K g')
theorem pn_K_of {gs : ps_G} {t : pt_T} {la li si nd : Nat} (hV : pn_V gs t la li si nd) : ∃ K K', pn_K gs t K K' la li := by
  obtain ⟨h1, h2, h3, h4, h5, h6, h7, k1, h8, h9⟩ := hV
  obtain ⟨K, K', i1, i2⟩ := pn_items gs [] _ _ _ h8 h6 h7 h9
  refine ⟨K, K', fun g hg => ?_, i2⟩
  obtain ⟨z1, z2, z3, z4, gl', sc', z5, z6, z7, z8⟩ := i1 g hg
  rw [List.length_nil] at z6
  exact ⟨z1, z2, z4.1, z4.2.1, gl', sc', z5, by omega, fun b hb => by have := z8 b hb; rw [List.length_nil] at this; omega⟩
/-- the loop over the EXPRS in their order -/
theorem px_ty_L {oT oP nf nd la li : Nat} {gs : ps_G} {t : pt_T} {ins : List Nat} {K K' : Nat → pk_K} (ho : px_to oT) (hp : px_po oP) (hd : oP + 26 < oT) (hi : ∀ v, px_xi ins v < 74) (hK : pn_K gs t K K' la li) (hnf : nf = gs.length + la) (hli : li = ins.length) (h24 : nf ≤ 24) {T0 : Nat} {up0 : Nat → Nat} {ar0 : pu_A} {cl0 : Bool} (hT0 : 75 + 2 * nf ≤ T0) : ∀ (r done : List Nat) (a T : Nat) (up : Nat → Nat) (ar : pu_A) (cl : Bool) (R : Nat → Nat) (l : List Nat) (N : Nat) (w : fa_W) (ts : List (pt_T × Nat)), (∀ p ∈ ts, ∃ g, g ≤ gs.length ∧ p.1 = pn_tr gs t g) → (∀ g ∈ r, g ≤ gs.length) → (∀ g ∈ done, g ≤ gs.length ∧ g ∉ r) → r.Nodup → px_L oP ins gs t r a w → a + pn_os gs t r ≤ nd → px_TI oT oP nf nd a T up ar cl R l N w → T + 2 * pn_os gs t r ≤ 400 → pu_ct ar l + pn_os gs t r ≤ 140 → px_TS gs.length nf ins ts (fun d => ∃ g ∈ done, pv_iv (K g).2.2.2 (K' g).2.2.2 d) (fun s => ∃ g ∈ done, pv_iv (K g).2.2.1 (K' g).2.2.1 s) T0 up0 ar0 cl0 T up ar cl → (∀ g ∈ done, ∃ q j, (pn_tr gs t g, q) ∈ ts ∧ j < a ∧ px_bp oP gs.length g w = (j : Int) ∧ w (oT + 10) j = (q : Int)) → ∃ w' T' up' ar' cl' R' l' N' ts', (∀ F, fm_Typing_infer_l7 oT oP (F + pn_os gs t r) (a : Int) w = fm_Typing_infer_l7 oT oP F ((a + pn_os gs t r : Nat) : Int) w') ∧ px_TI oT oP nf nd (a + pn_os gs t r) T' up' ar' cl' R' l' N' w' ∧ px_TS gs.length nf ins ts' (fun d => ∃ g ∈ r ++ done, pv_iv (K g).2.2.2 (K' g).2.2.2 d) (fun s => ∃ g ∈ r ++ done, pv_iv (K g).2.2.1 (K' g).2.2.1 s) T0 up0 ar0 cl0 T' up' ar' cl' ∧ (∀ g ∈ r ++ done, ∃ q j, (pn_tr gs t g, q) ∈ ts' ∧ j < a + pn_os gs t r ∧ px_bp oP gs.length g w' = (j : Int) ∧ w' (oT + 10) j = (q : Int)) ∧ T' ≤ T + 2 * pn_os gs t r ∧ pu_ct ar' l' ≤ pu_ct ar l + pn_os gs t r ∧ px_tl oT a w w' ∧ ∀ p ∈ ts', ∃ g, g ≤ gs.length ∧ p.1 = pn_tr gs t g := by
  intro r
  induction r with
  | nil =>
    intro done a T up ar cl R l N w ts hts hr hdn hnd hL ha hI hT hct hTS hq
    exact ⟨w, T, up, ar, cl, R, l, N, ts, fun F => rfl, hI, hTS, hq, Nat.le_refl _, Nat.le_refl _, ⟨fun _ _ _ => rfl, fun _ _ => rfl⟩, hts⟩
  | cons g r ih =>
    intro done a T up ar cl R l N w ts hts hr hdn hnd hL ha hI hT hct hTS hq
    obtain ⟨L1, L2, L3⟩ := hL
    have eo : pn_os gs t (g :: r) = pt_sz (pn_tr gs t g) + pn_os gs t r := rfl
    have hg := hr g (List.mem_cons_self ..)
    obtain ⟨k1, k2, k3, k4, gl', sc', k5, k6, k8⟩ := hK.1 g hg
    have ps := pt_sz_pos (pn_tr gs t g)
    have nd2 := List.nodup_cons.mp hnd
    obtain ⟨w1, T1, up1, ar1, cl1, R1, l1, N1, q1, p1, p2, p3, p4, p5, p6, p7⟩ := px_ty_t ho hp hd hi (pn_tr gs t g) k1 gl' sc' (pn_ow gs.length g) (K g) (K' g) a T up ar cl R l N w (by omega) k2 (by omega) (by omega) k5 (fun b hb => by have := k8 b hb; omega) L1 (by omega) hI (by omega) (by omega)
    have vo : px_vo oP w w1 := fun i j _ _ => p7.1 i j (by omega)
    have bpe : ∀ x, px_bp oP gs.length x w1 = px_bp oP gs.length x w := fun x => by
      unfold px_bp
      rw [vo _ _ (by omega) (by omega), vo _ _ (by omega) (by omega)]
    have ord : ∀ x, x ≤ gs.length → x ≠ g → (pk_ge (K' x) (K g) ∨ pk_ge (K' g) (K x)) := fun x h1 h2 => by
      by_cases z : x < g
      · exact Or.inl (hK.2 x g z hg)
      · exact Or.inr (hK.2 g x (by omega) h1)
    have mono : ∀ x, x ≤ gs.length → (K x).2.2.2 ≤ (K' x).2.2.2 ∧ (K x).2.2.1 ≤ (K' x).2.2.1 := fun x hx => by
      obtain ⟨z1, z2, _⟩ := hK.1 x hx
      have m := pn_mono _ z1 _ _ z2
      omega
    have TS1 := px_TS_snoc (P' := fun d => ∃ x ∈ g :: done, pv_iv (K x).2.2.2 (K' x).2.2.2 d) (Q' := fun s => ∃ x ∈ g :: done, pv_iv (K x).2.2.1 (K' x).2.2.1 s) hT0 hi hTS k1 k2 p4 (fun d z1 z2 ⟨x, z3, z4⟩ => by
        have h1 := hdn x z3
        have h2 := ord x h1.1 (fun e => h1.2 (by rw [e]; exact List.mem_cons_self ..))
        unfold pv_iv at z4
        unfold pk_ge at h2
        omega) (fun d z1 z2 ⟨x, z3, z4⟩ => by
        have h1 := hdn x z3
        have h2 := ord x h1.1 (fun e => h1.2 (by rw [e]; exact List.mem_cons_self ..))
        unfold pv_iv at z4
        unfold pk_ge at h2
        omega) (fun d => by
        constructor
        · rintro ⟨x, h1, h2⟩
          rcases List.mem_cons.mp h1 with rfl | h1
          · exact Or.inr h2
          · exact Or.inl ⟨x, h1, h2⟩
        · rintro (⟨x, h1, h2⟩ | h2)
          · exact ⟨x, List.mem_cons_of_mem _ h1, h2⟩
          · exact ⟨g, List.mem_cons_self .., h2⟩) (fun d => by
        constructor
        · rintro ⟨x, h1, h2⟩
          rcases List.mem_cons.mp h1 with rfl | h1
          · exact Or.inr h2
          · exact Or.inl ⟨x, h1, h2⟩
        · rintro (⟨x, h1, h2⟩ | h2)
          · exact ⟨x, List.mem_cons_of_mem _ h1, h2⟩
          · exact ⟨g, List.mem_cons_self .., h2⟩)
    obtain ⟨w', T', up', ar', cl', R', l', N', ts', y1, y2, y3, y4, y5, y6, y7, y8⟩ := ih (g :: done) (a + pt_sz (pn_tr gs t g)) T1 up1 ar1 cl1 R1 l1 N1 w1 (ts ++ [(pn_tr gs t g, q1)]) (fun p hp => by
        rcases List.mem_append.mp hp with z | z
        · exact hts p z
        · rw [List.mem_singleton] at z
          exact ⟨g, hg, by rw [z]⟩) (fun x hx => hr x (List.mem_cons_of_mem _ hx)) (fun x hx => by
        rcases List.mem_cons.mp hx with rfl | hx
        · exact ⟨hg, nd2.1⟩
        · exact ⟨(hdn x hx).1, fun z => (hdn x hx).2 (List.mem_cons_of_mem _ z)⟩) nd2.2 (px_L_ob vo (fun x hx => (hK.1 x hx).1) r _ (fun x hx => hr x (List.mem_cons_of_mem _ hx)) L3) (by omega) p2 (by omega) (by omega) TS1 (fun x hx => by
        rcases List.mem_cons.mp hx with rfl | hx
        · exact ⟨q1, a + pt_sz (pn_tr gs t x) - 1, List.mem_append_right _ (List.mem_singleton.mpr rfl), by omega, by rw [bpe]; exact L2, p3⟩
        · obtain ⟨q, j, z1, z2, z3, z4⟩ := hq x hx
          exact ⟨q, j, List.mem_append_left _ z1, by omega, by rw [bpe]; exact z3, by rw [p7.2 j z2]; exact z4⟩)
    have mm : ∀ x, x ∈ r ++ g :: done ↔ x ∈ g :: r ++ done := fun x => by
      simp only [List.mem_append, List.mem_cons]
      constructor
      · rintro (h | h | h)
        · exact Or.inl (Or.inr h)
        · exact Or.inl (Or.inl h)
        · exact Or.inr h
      · rintro ((h | h) | h)
        · exact Or.inr (Or.inl h)
        · exact Or.inl h
        · exact Or.inr (Or.inr h)
    refine ⟨w', T', up', ar', cl', R', l', N', ts', fun F => ?_, by rw [eo, ← Nat.add_assoc]; exact y2, ?_, fun x hx => ?_, by omega, by omega, px_tl_tr p7 y7 (by omega), y8⟩
    · rw [eo, show F + (pt_sz (pn_tr gs t g) + pn_os gs t r) = F + pn_os gs t r + pt_sz (pn_tr gs t g) by omega, p1, ← Nat.add_assoc]
      exact y1 F
    · obtain ⟨b1, b2, b3, b4, b5⟩ := y3
      refine ⟨b1, b2, fun p hp => ?_, b4, fun c => ?_⟩
      · obtain ⟨z1, z2, ka, kb, z3, z4, z5⟩ := b3 p hp
        exact ⟨z1, z2, ka, kb, z3, fun d u1 u2 => by
          obtain ⟨x, h1, h2⟩ := z4 d u1 u2
          exact ⟨x, (mm x).mp h1, h2⟩, fun d u1 u2 => by
          obtain ⟨x, h1, h2⟩ := z5 d u1 u2
          exact ⟨x, (mm x).mp h1, h2⟩⟩
      · obtain ⟨c0, b6⟩ := b5 c
        refine ⟨c0, fun val h0 => ⟨(b6 val h0).1, fun hE => ⟨((b6 val h0).2 hE).1, fun rr hcs => ?_⟩⟩⟩
        obtain ⟨r', x1, x2, x3, x4, x5⟩ := ((b6 val h0).2 hE).2 rr hcs
        exact ⟨r', x1, x2, fun d z => x3 d (fun ⟨x, h1, h2⟩ => z ⟨x, (mm x).mp h1, h2⟩), fun d z => x4 d (fun ⟨x, h1, h2⟩ => z ⟨x, (mm x).mp h1, h2⟩), x5⟩
    · obtain ⟨q, j, z1, z2, z3, z4⟩ := y4 x ((mm x).mpr hx)
      exact ⟨q, j, z1, by omega, z3, z4⟩
/-- what a GLOBAL's EXPR has is what the GLOBAL gives -/
theorem px_ty_G {oT oP nf nd T G : Nat} {ar : pu_A} {qf : Nat → Nat} (ho : px_to oT) (hp : px_po oP) (hd : oP + 26 < oT) (hG : G ≤ nf) : ∀ (d x F : Nat) (up : Nat → Nat) (cl : Bool) (R : Nat → Nat) (l : List Nat) (N : Nat) (w : fa_W), x + d = G → d < F → px_TI oT oP nf nd nd T up ar cl R l N w → w oP 13 = (G : Int) → w (oP + 19) 1 = ((24 : Nat) : Int) → pu_ct ar l ≤ 140 → (∀ g, g < G → qf g < T ∧ ∃ j : Nat, j < nd ∧ w (oP + 20) g = (j : Int) ∧ w (oT + 10) j = (qf g : Int)) → ∃ w' up' cl' R' l' N', fm_Typing_infer_l36 oT oP F (x : Int) w = fm_Typing_infer_l36 oT oP 1 (G : Int) w' ∧ px_TI oT oP nf nd nd T up' ar cl' R' l' N' w' ∧ pu_P T ar ((List.range' x d).map (fun g => (75 + 2 * g, qf g))) up cl up' cl' ∧ px_nf oT w w' := by
  intro d
  induction d with
  | zero =>
    intro x F up cl R l N w hx hF hI h13 h19 hct hq
    obtain ⟨F, rfl⟩ : ∃ z, F = z + 1 := ⟨F - 1, by omega⟩
    have e : x = G := by omega
    subst e
    have h24 := hI.2.2.2.2.2.2.2
    refine ⟨w, up, cl, R, l, N, ?_, hI, pu_P_nil T ar up cl, fun _ _ _ _ _ => rfl⟩
    unfold fm_Typing_infer_l36
    rw [h13, pb_wr (by omega), if_pos (Int.le_refl _), if_pos (Int.le_refl _)]
  | succ d ih =>
    intro x F up cl R l N w hx hF hI h13 h19 hct hq
    obtain ⟨F, rfl⟩ : ∃ z, F = z + 1 := ⟨F - 1, by omega⟩
    obtain ⟨a1, a2, a3, a4, a5, a6, a7, a8⟩ := id hI
    have n100 : nd ≤ 100 := a5.2.2.2.2.2
    obtain ⟨q1, j, j1, j2, j3⟩ := hq x (by omega)
    obtain ⟨w1, u1, up1, cl1, R1, l1, N1, u2, u3, u4, u5, u6⟩ := px_unify ho a2 a1 (a := 75 + 2 * x) (b := qf x) (by omega) q1 (by omega)
    have nf1 := px_nf_uf u6
    have e : fm_Typing_infer_l36 oT oP (F + 1) (x : Int) w = fm_Typing_infer_l36 oT oP F ((x + 1 : Nat) : Int) w1 := by
      have ga : fr_at (oT + 5) ((76 + 2 * x : Nat) : Int) w = ((75 + 2 * x : Nat) : Int) := by
        rw [pb_at a1.2.2.1 (by omega) (by rw [ho.2.2.2.2.1]; exact a1.2.2.2.2.2.2.2), ho.2.1.2.2.1]
        exact (a1.2.2.2.2.2.1 _ (by omega) _ _ (a6 x (by omega))).2
      show (if fa_wr (w oP 13) ≤ fa_wr (x : Int) then _ else _) = _
      rw [h13, pb_wr (by omega), pb_wr (by omega), if_neg (by omega), ho.1.2.2.2.2.2.2.1, px_of ho a3 a8 (by omega), ho.1.2.2.1, ga, hp.1.2.2.2.2.2.2.2.2.2.1, pb_at h19 (by omega) (by rw [hp.2.2.2.2.2.2.2.2.2.2.2.1]; decide), hp.2.1.2.2.2.2.2.2.2.2.2.1, j2, ho.1.2.2.2.2.1, px_ot ho a4 (by omega) j1, j3, u1]
      rfl
    obtain ⟨w', up', cl', R', l', N', y1, y2, y3, y4⟩ := ih (x + 1) F up1 cl1 R1 l1 N1 w1 (by omega) (by omega) ⟨u3, u2, ⟨by rw [nf1 _ _ (by omega) (by omega) (by omega)]; exact a3.1, fun v hv => by rw [nf1 _ _ (by omega) (by omega) (by omega)]; exact a3.2.1 v hv, by rw [nf1 _ _ (by omega) (by omega) (by omega)]; exact a3.2.2.1, fun f hf => by rw [nf1 _ _ (by omega) (by omega) (by omega)]; exact a3.2.2.2 f hf⟩, by rw [nf1 _ _ (by omega) (by omega) (by omega)]; exact a4, px_pz_ob a5 (fun i j _ _ => nf1 i j (by omega) (by omega) (by omega)), a6, a7, a8⟩ (by rw [nf1 _ _ (by omega) (by omega) (by omega)]; exact h13) (by rw [nf1 _ _ (by omega) (by omega) (by omega)]; exact h19) (by omega) (fun g hg => by
      obtain ⟨z1, j, z2, z3, z4⟩ := hq g hg
      exact ⟨z1, j, z2, by rw [nf1 _ _ (by omega) (by omega) (by omega)]; exact z3, by rw [nf1 _ _ (by omega) (by omega) (by omega)]; exact z4⟩)
    refine ⟨w', up', cl', R', l', N', e.trans y1, y2, ?_, px_nf_tr nf1 y4⟩
    have := pu_P_tr u5 y3
    rw [List.range'_succ, List.map_cons]
    exact this
/-- the class's typing up to the shapes: what it knows of every choice of TYPES -/
def px_TQ (ins : List Nat) (nf : Nat) (gs : ps_G) (t : pt_T) (T : Nat) (up : Nat → Nat) (ar : pu_A) (cl : Bool) (qm : Nat) : Prop := (∀ r, pv_P r gs t → cl = false ∧ ∃ val, pu_0 T up ar val ∧ pu_E T up ar val ∧ px_cs ins nf r val ∧ val qm = pv_t r t) ∧ (cl = false → ∀ val, pu_0 T up ar val → pu_E T up ar val ∧ ∃ r, pv_P r gs t ∧ px_cs ins nf r val ∧ val qm = pv_t r t)
