theorem px_TY_site {B nf : Nat} {ins : List Nat} {s : Nat} {a b : pt_T} {P Q : Nat → Prop} {T : Nat} {up : Nat → Nat} {ar : pu_A} {cl : Bool} {T1 : Nat} {up1 : Nat → Nat} {ar1 : pu_A} {cl1 : Bool} {up2 : Nat → Nat} {cl2 : Bool} {R : Nat → Nat} {l : List Nat} {N : Nat} {k k' : pk_K} {qa qb : Nat} (hT : 75 + 2 * nf ≤ T) (hi : ∀ v, px_xi ins v < 74) (h : px_TS B nf ins [(a, qa), (b, qb)] P Q T up ar cl T1 up1 ar1 cl1) (hI : pu_I T1 up1 ar1 R l N) (u : pu_P (T1 + 1 + 1) (pu_set (pu_set ar1 T1 none) (T1 + 1) (some (qb, T1))) [(qa, T1 + 1)] (pu_set (pu_set up1 T1 T1) (T1 + 1) (T1 + 1)) cl1 up2 cl2) (hP : ∀ d, P d → pv_iv k.2.2.2 k'.2.2.2 d) (hQ : ∀ s, Q s → pv_iv k.2.2.1 k'.2.2.1 s) (hs : pv_iv k.2.2.1 k'.2.2.1 s) (hsQ : ¬ Q s) : px_TY nf ins (pt_site s a b) k k' T up ar cl (T1 + 1 + 1) up2 (pu_set (pu_set ar1 T1 none) (T1 + 1) (some (qb, T1))) cl2 T1 := by
  obtain ⟨a1, a2, a3, a4, a5⟩ := h
  have qa1 : qa < T1 := (a3 (a, qa) (by simp)).1
  have qb1 : qb < T1 := (a3 (b, qb) (by simp)).1
  have I1 := pu_alloc hI none (fun _ _ e => (nomatch e))
  have lift : ∀ val val', (∀ j, j < T1 → val' j = val j) → val' (T1 + 1) = pv_ar (val' qb) (val' T1) → pu_0 T1 up1 ar1 val → pu_E T1 up1 ar1 val → pu_0 (T1 + 1 + 1) (pu_set (pu_set up1 T1 T1) (T1 + 1) (T1 + 1)) (pu_set (pu_set ar1 T1 none) (T1 + 1) (some (qb, T1))) val' ∧ pu_E (T1 + 1 + 1) (pu_set (pu_set up1 T1 T1) (T1 + 1) (T1 + 1)) (pu_set (pu_set ar1 T1 none) (T1 + 1) (some (qb, T1))) val' := by
    intro val val' e e2 h0 hE
    refine ⟨(pu_al_0 I1 _).mpr ⟨(pu_al_0 hI none).mpr ⟨pu_0_cong hI e h0, fun _ _ z => (nomatch z)⟩, fun x y z => ?_⟩, (pu_al_E _).mpr ((pu_al_E none).mpr (pu_E_cong hI e hE))⟩
    cases z
    exact e2
  refine ⟨by omega, by omega, fun j hj => by rw [pu_set_ne _ _ (by omega), pu_set_ne _ _ (by omega)]; exact a2 j hj, fun r val hS h0 hE hcs => ?_, fun c => ?_⟩
  · obtain ⟨val1, e1, e2, e3, e4, e5⟩ := a4 r val (fun p hp => by
      simp only [List.mem_cons, List.not_mem_nil, or_false] at hp
      rcases hp with rfl | rfl
      · exact hS.1
      · exact hS.2.1) h0 hE hcs
    have ea := e5 (a, qa) (by simp)
    have eb := e5 (b, qb) (by simp)
    dsimp only at ea eb
    have v1 : pu_set (pu_set val1 T1 (r.2.2.2 s)) (T1 + 1) (pv_ar (pv_t r b) (r.2.2.2 s)) T1 = r.2.2.2 s := by rw [pu_set_ne _ _ (by omega), pu_set_eq]
    have v2 : ∀ j, j < T1 → pu_set (pu_set val1 T1 (r.2.2.2 s)) (T1 + 1) (pv_ar (pv_t r b) (r.2.2.2 s)) j = val1 j := fun j hj => by rw [pu_set_ne _ _ (by omega), pu_set_ne _ _ (by omega)]
    have v3 : pu_set (pu_set val1 T1 (r.2.2.2 s)) (T1 + 1) (pv_ar (pv_t r b) (r.2.2.2 s)) (T1 + 1) = pv_ar (pv_t r b) (r.2.2.2 s) := pu_set_eq _ _ _
    generalize pu_set (pu_set val1 T1 (r.2.2.2 s)) (T1 + 1) (pv_ar (pv_t r b) (r.2.2.2 s)) = val2 at v1 v2 v3
    have g := lift val1 val2 v2 (by rw [v3, v1, v2 qb qb1, eb]) e2 e3
    have p := u.1 val2 g.1 g.2 (fun p hp => by
      rw [List.mem_singleton] at hp
      rw [hp]
      dsimp only
      rw [v2 qa qa1, v3, ea]
      exact hS.2.2)
    exact ⟨val2, fun j hj => (v2 j (by omega)).trans (e1 j hj), p.1, p.2.1, p.2.2.trans e4, v1⟩
  · obtain ⟨c1, u2⟩ := u.2 c
    obtain ⟨c0, a6⟩ := a5 c1
    refine ⟨c0, fun val h2 => ?_⟩
    obtain ⟨h3, w2, w3⟩ := u2 val h2
    have w2 := w2 (qa, T1 + 1) (by simp)
    dsimp only at w2
    obtain ⟨h4, h5⟩ := (pu_al_0 I1 _).mp h3
    obtain ⟨h6, _⟩ := (pu_al_0 hI none).mp h4
    have h5 := h5 qb T1 rfl
    obtain ⟨h0, g1⟩ := a6 val h6
    refine ⟨h0, fun hE => ?_⟩
    obtain ⟨hE1, r1⟩ := g1 hE
    refine ⟨w3 ((pu_al_E _).mpr ((pu_al_E none).mpr hE1)), fun r hcs => ?_⟩
    obtain ⟨r', x1, x2, x3, x4, x5⟩ := r1 r hcs
    have cg : ∀ p ∈ [(a, qa), (b, qb)], pv_S (r'.1, r'.2.1, r'.2.2.1, pu_set r'.2.2.2 s (val T1)) p.1 ∧ pv_t (r'.1, r'.2.1, r'.2.2.1, pu_set r'.2.2.2 s (val T1)) p.1 = val p.2 := by
      intro p hp
      obtain ⟨_, y2, ka, kb, y3, y4, y5⟩ := a3 p hp
      have cg := pv_cong p.1 y2 ka kb r' (r'.1, r'.2.1, r'.2.2.1, pu_set r'.2.2.2 s (val T1)) y3 rfl rfl (fun d _ _ => rfl) (fun s' u1 u2 => pu_set_ne _ _ (fun z => hsQ (z ▸ y5 s' u1 u2)))
      exact ⟨cg.2 (x5 p hp).1, cg.1.trans (x5 p hp).2⟩
    have ca := cg (a, qa) (by simp)
    have cb := cg (b, qb) (by simp)
    dsimp only at ca cb
    have es : pu_set r'.2.2.2 s (val T1) s = val T1 := pu_set_eq _ _ _
    refine ⟨(r'.1, r'.2.1, r'.2.2.1, pu_set r'.2.2.2 s (val T1)), ⟨x1, x2, fun d z => x3 d (fun w => z (hP d w)), fun s' z => ?_⟩, ⟨ca.1, cb.1, ?_⟩, es⟩
    · dsimp only
      rw [pu_set_ne _ _ (fun (w : s' = s) => z (by rw [w]; exact hs))]
      exact x4 s' (fun w => z (hQ s' w))
    · rw [ca.2, cb.2, w2, h5]
      dsimp only
      rw [es]
/-! rows of a Program (o: 8, 56, 119) -/
def px_po (o : Nat) : Prop := (fa_rf o 0 = o + 1 ∧ fa_rf o 1 = o + 3 ∧ fa_rf o 2 = o + 5 ∧ fa_rf o 3 = o + 7 ∧ fa_rf o 4 = o + 9 ∧ fa_rf o 5 = o + 11 ∧ fa_rf o 6 = o + 13 ∧ fa_rf o 7 = o + 15 ∧ fa_rf o 8 = o + 17 ∧ fa_rf o 9 = o + 19 ∧ fa_rf o 10 = o + 21 ∧ fa_rf o 11 = o + 23 ∧ fa_rf o 12 = o + 25) ∧ (fa_rf (o + 1) 0 = o + 1 + 1 ∧ fa_rf (o + 3) 0 = o + 3 + 1 ∧ fa_rf (o + 5) 0 = o + 5 + 1 ∧ fa_rf (o + 7) 0 = o + 7 + 1 ∧ fa_rf (o + 9) 0 = o + 9 + 1 ∧ fa_rf (o + 11) 0 = o + 11 + 1 ∧ fa_rf (o + 13) 0 = o + 13 + 1 ∧ fa_rf (o + 15) 0 = o + 15 + 1 ∧ fa_rf (o + 17) 0 = o + 17 + 1 ∧ fa_rf (o + 19) 0 = o + 19 + 1 ∧ fa_rf (o + 21) 0 = o + 21 + 1 ∧ fa_rf (o + 23) 0 = o + 23 + 1 ∧ fa_rf (o + 25) 0 = o + 25 + 1) ∧ (fa_cp (o + 1) = 100 ∧ fa_cp (o + 3) = 100 ∧ fa_cp (o + 5) = 100 ∧ fa_cp (o + 7) = 100 ∧ fa_cp (o + 9) = 300 ∧ fa_cp (o + 11) = 100 ∧ fa_cp (o + 13) = 74 ∧ fa_cp (o + 15) = 74 ∧ fa_cp (o + 17) = 6 ∧ fa_cp (o + 19) = 24 ∧ fa_cp (o + 21) = 24 ∧ fa_cp (o + 23) = 100 ∧ fa_cp (o + 25) = 100)
theorem px_po_8 : px_po 8 := by unfold px_po; decide
theorem px_po_56 : px_po 56 := by unfold px_po; decide
theorem px_po_119 : px_po 119 := by unfold px_po; decide
def px_pz (o nd : Nat) (w : fa_W) : Prop := w (o + 1) 1 = (nd : Int) ∧ w (o + 3) 1 = (nd : Int) ∧ w (o + 5) 1 = (nd : Int) ∧ w (o + 7) 1 = (nd : Int) ∧ w (o + 9) 1 = ((3 * nd : Nat) : Int) ∧ nd ≤ 100
theorem px_rd {o nd : Nat} (hp : px_po o) {w : fa_W} (hz : px_pz o nd w) {i K v st : Nat} {h a b c : Int} (N : px_N o w i K v h st a b c) (hi : i < nd) : fm_Program_kind o (i : Int) w = (K : Int) ∧ fm_Program_value o (i : Int) w = (v : Int) ∧ fm_Program_owner o (i : Int) w = h ∧ fm_Program_part o (i : Int) 0 w = a ∧ fm_Program_part o (i : Int) 1 w = b ∧ fm_Program_part o (i : Int) 2 w = c := by
  obtain ⟨z1, z2, z3, z4, z5, z6⟩ := hz
  obtain ⟨n1, n2, n3, n4, n5, n6, n7⟩ := N
  obtain ⟨⟨r0, r1, r2, r3, r4, _⟩, ⟨c0, c1, c2, c3, c4, _⟩, ⟨m0, m1, m2, m3, m4, _⟩⟩ := hp
  unfold fm_Program_kind fm_Program_value fm_Program_owner fm_Program_part
  rw [r0, r1, r2, r4, pb_at z1 hi (by omega), pb_at z2 hi (by omega), pb_at z3 hi (by omega), c0, c1, c2]
  refine ⟨n1, n2, n3, ?_, ?_, ?_⟩
  · rw [fa_wr_id (x := 0) (by omega) (by omega), if_neg (by decide), if_neg (by decide), show (i : Int) * 3 + 0 = ((3 * i : Nat) : Int) by omega, pb_at z5 (by omega) (by omega), c4]
    exact n5
  · rw [fa_wr_id (x := 1) (by omega) (by omega), if_neg (by decide), if_neg (by decide), show (i : Int) * 3 + 1 = ((3 * i + 1 : Nat) : Int) by omega, pb_at z5 (by omega) (by omega), c4]
    exact n6
  · rw [fa_wr_id (x := 2) (by omega) (by omega), if_neg (by decide), if_neg (by decide), show (i : Int) * 3 + 2 = ((3 * i + 2 : Nat) : Int) by omega, pb_at z5 (by omega) (by omega), c4]
    exact n7
/-- one number more of the class's TYPES -/
theorem px_arrow {o T : Nat} (ho : px_to o) {up : Nat → Nat} {ar : pu_A} {cl : Bool} {w : fa_W} (hU : px_U o T up ar cl w) (hT : T < 400) (x : Option (Nat × Nat)) (a b : Int) (hx : (x = none ∧ a = -1 ∧ b = -1) ∨ ∃ c d : Nat, x = some (c, d) ∧ a = (c : Int) ∧ b = (d : Int)) : ∃ w', fm_Typing_arrow o a b w = ((T : Int), w') ∧ px_U o (T + 1) (pu_set up T T) (pu_set ar T x) cl w' ∧ ∀ i j, ¬ (o + 1 ≤ i ∧ i ≤ o + 6) → w' i j = w i j := by
  obtain ⟨h1, h2, h3, h4, h5, h6, h7, h8⟩ := hU
  have c1 := ho.2.2.1
  have c2 := ho.2.2.2.1
  have c3 := ho.2.2.2.2.1
  have i1 := px_ad1 (v := (T : Int)) ho.2.1.1 h1 (by omega)
  have i2 := px_ad1 (v := a) ho.2.1.2.1 ((i1.2.2 (o + 3) 1 (by omega) (by omega)).trans h2) (by omega)
  have i3 := px_ad1 (v := b) ho.2.1.2.2.1 ((i2.2.2 (o + 5) 1 (by omega) (by omega)).trans ((i1.2.2 (o + 5) 1 (by omega) (by omega)).trans h3)) (by omega)
  refine ⟨fr_add (o + 5) b (fr_add (o + 3) a (fr_add (o + 1) (T : Int) w)), ?_, ?_, ?_⟩
  · unfold fm_Typing_arrow fm_Row_size
    dsimp only [fa_let]
    rw [ho.1.1, ho.1.2.1, ho.1.2.2.1, h1]
  · have k2 : ∀ j, j ≠ T → fr_add (o + 5) b (fr_add (o + 3) a (fr_add (o + 1) (T : Int) w)) (o + 2) j = w (o + 2) j := fun j q => (i3.2.2 _ _ (by omega) (by omega)).trans ((i2.2.2 _ _ (by omega) (by omega)).trans (i1.2.2 _ _ (by omega) (by omega)))
    have k4 : ∀ j, j ≠ T → fr_add (o + 5) b (fr_add (o + 3) a (fr_add (o + 1) (T : Int) w)) (o + 4) j = w (o + 4) j := fun j q => (i3.2.2 _ _ (by omega) (by omega)).trans ((i2.2.2 _ _ (by omega) (by omega)).trans (i1.2.2 _ _ (by omega) (by omega)))
    have k6 : ∀ j, j ≠ T → fr_add (o + 5) b (fr_add (o + 3) a (fr_add (o + 1) (T : Int) w)) (o + 6) j = w (o + 6) j := fun j q => (i3.2.2 _ _ (by omega) (by omega)).trans ((i2.2.2 _ _ (by omega) (by omega)).trans (i1.2.2 _ _ (by omega) (by omega)))
    have q2 : fr_add (o + 5) b (fr_add (o + 3) a (fr_add (o + 1) (T : Int) w)) (o + 2) T = (T : Int) := (i3.2.2 _ _ (by omega) (by omega)).trans ((i2.2.2 _ _ (by omega) (by omega)).trans i1.2.1)
    have q4 : fr_add (o + 5) b (fr_add (o + 3) a (fr_add (o + 1) (T : Int) w)) (o + 4) T = a := (i3.2.2 _ _ (by omega) (by omega)).trans i2.2.1
    have q6 : fr_add (o + 5) b (fr_add (o + 3) a (fr_add (o + 1) (T : Int) w)) (o + 6) T = b := i3.2.1
    refine ⟨(i3.2.2 _ _ (by omega) (by omega)).trans ((i2.2.2 _ _ (by omega) (by omega)).trans i1.1), (i3.2.2 _ _ (by omega) (by omega)).trans i2.1, i3.1, fun k hk => ?_, fun k hk e => ?_, fun k hk c d e => ?_, (i3.2.2 _ _ (by omega) (by omega)).trans ((i2.2.2 _ _ (by omega) (by omega)).trans ((i1.2.2 _ _ (by omega) (by omega)).trans h7)), by omega⟩
    · by_cases z : k = T
      · rw [z, pu_set_eq]; exact q2
      · rw [pu_set_ne _ _ z, k2 k z]; exact h4 k (by omega)
    · by_cases z : k = T
      · rw [z, pu_set_eq] at e
        rw [z, q4, q6]
        rcases hx with ⟨_, e1, e2⟩ | ⟨c, d, e1, _⟩
        · exact ⟨e1, e2⟩
        · rw [e1] at e; cases e
      · rw [pu_set_ne _ _ z] at e
        rw [k4 k z, k6 k z]; exact h5 k (by omega) e
    · by_cases z : k = T
      · rw [z, pu_set_eq] at e
        rw [z, q4, q6]
        rcases hx with ⟨e1, _⟩ | ⟨c', d', e1, e2, e3⟩
        · rw [e1] at e; cases e
        · rw [e1] at e; cases e; exact ⟨e2, e3⟩
      · rw [pu_set_ne _ _ z] at e
        rw [k4 k z, k6 k z]; exact h6 k (by omega) c d e
  · intro i j q
    rw [i3.2.2 _ _ (by omega) (by omega), i2.2.2 _ _ (by omega) (by omega), i1.2.2 _ _ (by omega) (by omega)]
