/-! the class types the THINGS in their row -/
def px_tv (o nf : Nat) (w : fa_W) : Prop := w (o + 11) 1 = ((74 : Nat) : Int) ∧ (∀ v, v < 74 → w (o + 12) v = ((1 + v : Nat) : Int)) ∧ w (o + 13) 1 = (nf : Int) ∧ ∀ f, f < nf → w (o + 14) f = ((76 + 2 * f : Nat) : Int)
def px_TI (oT oP nf nd a T : Nat) (up : Nat → Nat) (ar : pu_A) (cl : Bool) (R : Nat → Nat) (l : List Nat) (N : Nat) (w : fa_W) : Prop := px_U oT T up ar cl w ∧ pu_I T up ar R l N ∧ px_tv oT nf w ∧ w (oT + 9) 1 = (a : Int) ∧ px_pz oP nd w ∧ (∀ f, f < nf → ar (76 + 2 * f) = some (1 + f, 75 + 2 * f)) ∧ 75 + 2 * nf ≤ T ∧ nf ≤ 24
def px_tl (o a : Nat) (w w' : fa_W) : Prop := (∀ i j, (i < o ∨ o + 16 < i) → w' i j = w i j) ∧ ∀ j, j < a → w' (o + 10) j = w (o + 10) j
theorem px_tl_tr {o a b : Nat} {w w1 w2 : fa_W} (h1 : px_tl o a w w1) (h2 : px_tl o b w1 w2) (hab : a ≤ b) : px_tl o a w w2 := ⟨fun i j q => (h2.1 i j q).trans (h1.1 i j q), fun j q => (h2.2 j (by omega)).trans (h1.2 j q)⟩
def px_nf (o : Nat) (w w' : fa_W) : Prop := ∀ i j, ¬ (o ≤ i ∧ i ≤ o + 6) → i ≠ o + 15 → i ≠ o + 16 → w' i j = w i j
theorem px_nf_tr {o : Nat} {w w1 w2 : fa_W} (h1 : px_nf o w w1) (h2 : px_nf o w1 w2) : px_nf o w w2 := fun i j a b c => (h2 i j a b c).trans (h1 i j a b c)
theorem px_nf_uf {o : Nat} {w w1 : fa_W} (h : px_uf o w w1) : px_nf o w w1 := fun i j a b c => h i j (by omega) b c (by omega)
theorem px_pz_ob {o nd : Nat} {w w' : fa_W} (h : px_pz o nd w) (e : ∀ i j, o ≤ i → i ≤ o + 20 → w' i j = w i j) : px_pz o nd w' := by
  obtain ⟨z1, z2, z3, z4, z5, z6⟩ := h
  exact ⟨by rw [e _ _ (by omega) (by omega)]; exact z1, by rw [e _ _ (by omega) (by omega)]; exact z2, by rw [e _ _ (by omega) (by omega)]; exact z3, by rw [e _ _ (by omega) (by omega)]; exact z4, by rw [e _ _ (by omega) (by omega)]; exact z5, z6⟩
/-- a THING is done -/
theorem px_ty_fin {oT oP nf nd i T : Nat} (ho : px_to oT) (hp : px_po oP) (hd : oP + 26 < oT) {up : Nat → Nat} {ar : pu_A} {cl : Bool} {R : Nat → Nat} {l : List Nat} {N : Nat} {w3 w4 : fa_W} {T' : Nat} {up' : Nat → Nat} {ar' : pu_A} {cl' : Bool} {R' : Nat → Nat} {l' : List Nat} {N' : Nat} {q : Nat} (hi : i < nd) (h : px_TI oT oP nf nd i T up ar cl R l N w3) (e : fm_Typing_typed oT oP (i : Int) w3 = some ((q : Int), w4)) (hU : px_U oT T' up' ar' cl' w4) (hI : pu_I T' up' ar' R' l' N') (hf : px_nf oT w3 w4) (hT : T ≤ T') (har : ∀ j, j < T → ar' j = ar j) : ∃ w5, (∀ F, fm_Typing_infer_l7 oT oP (F + 1) (i : Int) w3 = fm_Typing_infer_l7 oT oP F ((i + 1 : Nat) : Int) w5) ∧ px_TI oT oP nf nd (i + 1) T' up' ar' cl' R' l' N' w5 ∧ w5 (oT + 10) i = (q : Int) ∧ px_tl oT i w3 w5 := by
  obtain ⟨a1, a2, a3, a4, a5, a6, a7, a8⟩ := h
  have n100 : nd ≤ 100 := a5.2.2.2.2.2
  have h9 : w4 (oT + 9) 1 = (i : Int) := by rw [hf _ _ (by omega) (by omega) (by omega)]; exact a4
  have cp := ho.2.2.2.2.2.2.1
  have ad := px_ad1 (v := (q : Int)) ho.2.1.2.2.2.2.1 h9 (by omega)
  refine ⟨fr_add (oT + 9) (q : Int) w4, fun F => ?_, ⟨px_U_of hU (fun i j z => ad.2.2 i j (by omega) (by omega)), hI, ⟨?_, ?_, ?_, ?_⟩, ad.1, px_pz_ob a5 (fun i j y z => (ad.2.2 i j (by omega) (by omega)).trans (hf i j (by omega) (by omega) (by omega))), fun f hf' => (har _ (by omega)).trans (a6 f hf'), by omega, a8⟩, ad.2.1, ⟨fun i j z => (ad.2.2 i j (by omega) (by omega)).trans (hf i j (by omega) (by omega) (by omega)), fun j z => (ad.2.2 _ _ (by omega) (by omega)).trans (hf _ _ (by omega) (by omega) (by omega))⟩⟩
  · show (if fa_wr (fm_Program_things oP w3) ≤ fa_wr (i : Int) then _ else _) = _
    unfold fm_Program_things fm_Row_size
    rw [hp.1.1, a5.1, pb_wr (by omega), pb_wr (by omega), if_neg (by omega), e]
    dsimp only [fa_bd, Option.bind_some, fa_let]
    rw [ho.1.2.2.2.2.1]
    rfl
  · rw [ad.2.2 _ _ (by omega) (by omega), hf _ _ (by omega) (by omega) (by omega)]; exact a3.1
  · intro v hv
    rw [ad.2.2 _ _ (by omega) (by omega), hf _ _ (by omega) (by omega) (by omega)]; exact a3.2.1 v hv
  · rw [ad.2.2 _ _ (by omega) (by omega), hf _ _ (by omega) (by omega) (by omega)]; exact a3.2.2.1
  · intro f hf'
    rw [ad.2.2 _ _ (by omega) (by omega), hf _ _ (by omega) (by omega) (by omega)]; exact a3.2.2.2 f hf'
/-- what stands for a part -/
theorem px_ot {oT i : Nat} (ho : px_to oT) {w : fa_W} (h9 : w (oT + 9) 1 = (i : Int)) (hi : i ≤ 100) {j : Nat} (hj : j < i) : fr_at (oT + 9) (j : Int) w = w (oT + 10) j := by
  rw [pb_at h9 hj (by rw [ho.2.2.2.2.2.2.1]; exact hi), ho.2.1.2.2.2.2.1]
theorem px_ov {oT nf : Nat} (ho : px_to oT) {w : fa_W} (h : px_tv oT nf w) {v : Nat} (hv : v < 74) : fr_at (oT + 11) (v : Int) w = ((1 + v : Nat) : Int) := by
  rw [pb_at h.1 hv (by rw [ho.2.2.2.2.2.2.2.1]; decide), ho.2.1.2.2.2.2.2.1]
  exact h.2.1 v hv
theorem px_of {oT nf : Nat} (ho : px_to oT) {w : fa_W} (h : px_tv oT nf w) (hn : nf ≤ 24) {f : Nat} (hf : f < nf) : fr_at (oT + 13) (f : Int) w = ((76 + 2 * f : Nat) : Int) := by
  rw [pb_at h.2.2.1 hf (by rw [ho.2.2.2.2.2.2.2.2.1]; exact hn), ho.2.1.2.2.2.2.2.2.1]
  exact h.2.2.2 f hf
theorem px_TS2 {B nf : Nat} {ins : List Nat} {a b : pt_T} {T : Nat} {up : Nat → Nat} {ar : pu_A} {cl : Bool} {T1 : Nat} {up1 : Nat → Nat} {ar1 : pu_A} {cl1 : Bool} {T2 : Nat} {up2 : Nat → Nat} {ar2 : pu_A} {cl2 : Bool} {k k1 k1' k2 : pk_K} {qa qb : Nat} (hT : 75 + 2 * nf ≤ T) (hi : ∀ v, px_xi ins v < 74) (ta : pt_tw a) (tb : pt_tw b) (ca : pn_can B a k k1) (cb : pn_can B b k1' k2) (e1 : k1.2.2.2 ≤ k1'.2.2.2) (e2 : k1.2.2.1 ≤ k1'.2.2.1) (ha : px_TY nf ins a k k1 T up ar cl T1 up1 ar1 cl1 qa) (hb : px_TY nf ins b k1' k2 T1 up1 ar1 cl1 T2 up2 ar2 cl2 qb) : px_TS B nf ins [(a, qa), (b, qb)] (fun d => pv_iv k.2.2.2 k1.2.2.2 d ∨ pv_iv k1'.2.2.2 k2.2.2.2 d) (fun s => pv_iv k.2.2.1 k1.2.2.1 s ∨ pv_iv k1'.2.2.1 k2.2.2.1 s) T up ar cl T2 up2 ar2 cl2 := by
  have s1 := px_TS_snoc (P := fun _ => False) (Q := fun _ => False) (P' := fun d => pv_iv k.2.2.2 k1.2.2.2 d) (Q' := fun s => pv_iv k.2.2.1 k1.2.2.1 s) hT hi (px_TS_nil B nf ins _ _ T up ar cl) ta ca ha (fun _ _ _ z => z) (fun _ _ _ z => z) (fun d => ⟨Or.inr, fun z => z.elim False.elim id⟩) (fun d => ⟨Or.inr, fun z => z.elim False.elim id⟩)
  exact px_TS_snoc hT hi s1 tb cb hb (fun d z1 z2 z => by unfold pv_iv at z; omega) (fun d z1 z2 z => by unfold pv_iv at z; omega) (fun d => Iff.rfl) (fun d => Iff.rfl)
theorem px_TS3 {B nf : Nat} {ins : List Nat} {a b c : pt_T} {T : Nat} {up : Nat → Nat} {ar : pu_A} {cl : Bool} {T1 : Nat} {up1 : Nat → Nat} {ar1 : pu_A} {cl1 : Bool} {T2 : Nat} {up2 : Nat → Nat} {ar2 : pu_A} {cl2 : Bool} {T3 : Nat} {up3 : Nat → Nat} {ar3 : pu_A} {cl3 : Bool} {k k1 k2 k3 : pk_K} {qa qb qc : Nat} (hT : 75 + 2 * nf ≤ T) (hi : ∀ v, px_xi ins v < 74) (ta : pt_tw a) (tb : pt_tw b) (tc : pt_tw c) (ca : pn_can B a k k1) (cb : pn_can B b k1 k2) (cc : pn_can B c k2 k3) (ha : px_TY nf ins a k k1 T up ar cl T1 up1 ar1 cl1 qa) (hb : px_TY nf ins b k1 k2 T1 up1 ar1 cl1 T2 up2 ar2 cl2 qb) (hc : px_TY nf ins c k2 k3 T2 up2 ar2 cl2 T3 up3 ar3 cl3 qc) : px_TS B nf ins [(a, qa), (b, qb), (c, qc)] (fun d => pv_iv k.2.2.2 k3.2.2.2 d) (fun s => pv_iv k.2.2.1 k3.2.2.1 s) T up ar cl T3 up3 ar3 cl3 := by
  have m1 := pn_mono a ta _ _ ca
  have m2 := pn_mono b tb _ _ cb
  have m3 := pn_mono c tc _ _ cc
  have s1 := px_TS2 hT hi ta tb ca cb (Nat.le_refl _) (Nat.le_refl _) ha hb
  exact px_TS_snoc hT hi s1 tc cc hc (fun d z1 z2 z => by unfold pv_iv at z; omega) (fun d z1 z2 z => by unfold pv_iv at z; omega) (fun d => by unfold pv_iv; omega) (fun d => by unfold pv_iv; omega)
def px_TR (oT oP nf nd a s : Nat) (ins : List Nat) (t : pt_T) (k k' : pk_K) (T : Nat) (up : Nat → Nat) (ar : pu_A) (cl : Bool) (l : List Nat) (w : fa_W) : Prop := ∃ (w' : fa_W) (T' : Nat) (up' : Nat → Nat) (ar' : pu_A) (cl' : Bool) (R' : Nat → Nat) (l' : List Nat) (N' q : Nat), (∀ F, fm_Typing_infer_l7 oT oP (F + s) (a : Int) w = fm_Typing_infer_l7 oT oP F ((a + s : Nat) : Int) w') ∧ px_TI oT oP nf nd (a + s) T' up' ar' cl' R' l' N' w' ∧ w' (oT + 10) (a + s - 1) = (q : Int) ∧ px_TY nf ins t k k' T up ar cl T' up' ar' cl' q ∧ T' ≤ T + 2 * s ∧ pu_ct ar' l' ≤ pu_ct ar l + s ∧ px_tl oT a w w'
set_option maxHeartbeats 2000000 in
theorem px_ty_t {oT oP B nf nd : Nat} {ins : List Nat} (ho : px_to oT) (hp : px_po oP) (hd : oP + 26 < oT) (hi : ∀ v, px_xi ins v < 74) (t : pt_T) (tt : pt_tw t) : ∀ (gl : List Nat) (sc : List (Nat × Nat)) (h : Int) (k k' : pk_K) (a T : Nat) (up : Nat → Nat) (ar : pu_A) (cl : Bool) (R : Nat → Nat) (l : List Nat) (N : Nat) (w : fa_W), gl.length ≤ nf → pn_can B t k k' → B + k'.1 ≤ nf → k'.2.1 ≤ ins.length → pk_wfs t gl sc → (∀ b ∈ sc, b.1 < 24 + ins.length) → px_P oP ins t h a w → a + pt_sz t ≤ nd → px_TI oT oP nf nd a T up ar cl R l N w → T + 2 * pt_sz t ≤ 400 → pu_ct ar l + pt_sz t ≤ 140 → px_TR oT oP nf nd a (pt_sz t) ins t k k' T up ar cl l w := by
  induction t, tt using pt_indh with
  | num v =>
    intro gl sc h k k' a T up ar cl R l N w hg hc hB hl hw hs hP ha hI hT hct
    obtain ⟨a1, a2, a3, a4, a5, a6, a7, a8⟩ := id hI
    obtain ⟨r1, r2, r3, r4, r5, r6⟩ := px_rd hp a5 hP (by have : pt_sz (pt_num v) = 1 := rfl; omega)
    have e : fm_Typing_typed oT oP (a : Int) w = some (((0 : Nat) : Int), w) := by
      unfold fm_Typing_typed
      dsimp only [fa_let]
      rw [r1, pb_wr (n := 1) (by decide), if_neg (by decide), if_neg (by decide), if_neg (by decide), if_neg (by decide), if_neg (by decide), if_neg (by decide), if_neg (by decide), if_neg (by decide)]
      rfl
    obtain ⟨w5, s1, s2, s3, s4⟩ := px_ty_fin ho hp hd ha hI e a1 a2 (fun _ _ _ _ _ => rfl) (Nat.le_refl _) (fun _ _ => rfl)
    exact ⟨w5, T, up, ar, cl, R, l, N, 0, s1, s2, s3, px_TY_leaf (by omega) (fun _ => trivial) (fun r val v0 _ => v0), by omega, by omega, s4⟩
  | var v x =>
    intro gl sc h k k' a T up ar cl R l N w hg hc hB hl hw hs hP ha hI hT hct
    obtain ⟨a1, a2, a3, a4, a5, a6, a7, a8⟩ := id hI
    obtain ⟨r1, r2, r3, r4, r5, r6⟩ := px_rd hp a5 hP.1 (by have : pt_sz (pt_var v x) = 1 := rfl; omega)
    have hv := hs _ (ps_lk_mem sc x v hw.1)
    have e : fm_Typing_typed oT oP (a : Int) w = some (((1 + px_xi ins v : Nat) : Int), w) := by
      unfold fm_Typing_typed
      dsimp only [fa_let]
      rw [r1, pb_wr (n := 2) (by decide), if_pos (by decide), r2, ho.1.2.2.2.2.2.1, px_ov ho a3 (hi v)]
    have hx := hi v
    obtain ⟨w5, s1, s2, s3, s4⟩ := px_ty_fin ho hp hd ha hI e a1 a2 (fun _ _ _ _ _ => rfl) (Nat.le_refl _) (fun _ _ => rfl)
    exact ⟨w5, T, up, ar, cl, R, l, N, _, s1, s2, s3, px_TY_leaf (by omega) (fun _ => trivial) (fun r val v0 c => c.1 v hv), by omega, by omega, s4⟩
  | glo g x =>
    intro gl sc h k k' a T up ar cl R l N w hg hc hB hl hw hs hP ha hI hT hct
    obtain ⟨a1, a2, a3, a4, a5, a6, a7, a8⟩ := id hI
    obtain ⟨r1, r2, r3, r4, r5, r6⟩ := px_rd hp a5 hP.1 (by have : pt_sz (pt_glo g x) = 1 := rfl; omega)
    have hv := (ps_gx_mem gl x 0 g hw.2.1).2.1
    have e : fm_Typing_typed oT oP (a : Int) w = some (((76 + 2 * g : Nat) : Int), w) := by
      unfold fm_Typing_typed
      dsimp only [fa_let]
      rw [r1, pb_wr (n := 3) (by decide), if_neg (by decide), if_pos (by decide), r2, ho.1.2.2.2.2.2.2.1, px_of ho a3 a8 (by omega)]
    obtain ⟨w5, s1, s2, s3, s4⟩ := px_ty_fin ho hp hd ha hI e a1 a2 (fun _ _ _ _ _ => rfl) (Nat.le_refl _) (fun _ _ => rfl)
    exact ⟨w5, T, up, ar, cl, R, l, N, _, s1, s2, s3, px_TY_leaf (by omega) (fun _ => trivial) (fun r val v0 c => c.2 g (by omega)), by omega, by omega, s4⟩
  | dead d =>
    intro gl sc h k k' a T up ar cl R l N w hg hc hB hl hw hs hP ha hI hT hct
    obtain ⟨a1, a2, a3, a4, a5, a6, a7, a8⟩ := id hI
    have sz : pt_sz (pt_dead d) = 1 := rfl
    obtain ⟨r1, r2, r3, r4, r5, r6⟩ := px_rd hp a5 hP (by omega)
    obtain ⟨w1, t1, t2, t3⟩ := px_arrow ho a1 (by omega) none (-1) (-1) (Or.inl ⟨rfl, rfl, rfl⟩)
    have e : fm_Typing_typed oT oP (a : Int) w = some ((T : Int), w1) := by
      unfold fm_Typing_typed fm_Typing_open
      dsimp only [fa_let]
      rw [r1, pb_wr (n := 4) (by decide), if_neg (by decide), if_neg (by decide), if_pos (by decide), t1]
      rfl
    have I1 := pu_alloc a2 none (fun _ _ z => (nomatch z))
    obtain ⟨w5, s1, s2, s3, s4⟩ := px_ty_fin ho hp hd ha hI e t2 I1 (fun i j z1 z2 z3 => t3 i j (by omega)) (by omega) (fun j hj => pu_set_ne _ _ (by omega))
    have lT : T ∉ l := fun z => by have := (a2.2.1 T).mp z; omega
    have ctn : ∀ l : List Nat, T ∉ l → pu_ct (pu_set ar T none) l = pu_ct ar l := by
      intro l
      induction l with
      | nil => intro _; rfl
      | cons y r ih =>
        intro z
        show (if pu_set ar T none y = none then 0 else 1) + pu_ct _ r = (if ar y = none then 0 else 1) + pu_ct ar r
        rw [pu_set_ne _ _ (fun (q : y = T) => z (by rw [q]; exact List.mem_cons_self ..)), ih (fun q => z (List.mem_cons_of_mem _ q))]
    have ct2 : pu_ct (pu_set ar T none) (T :: l) = pu_ct ar l := by
      show (if pu_set ar T none T = none then 0 else 1) + pu_ct _ l = _
      rw [pu_set_eq, if_pos rfl, ctn l lT, Nat.zero_add]
    refine ⟨w5, T + 1, _, _, cl, _, T :: l, N, T, s1, s2, s3, ?_, by omega, by omega, s4⟩
    rw [hc.2]
    exact px_TY_dead a2 hc.1
  | lam f x b tb ih =>
    intro gl sc h k k' a T up ar cl R l N w hg hc hB hl hw hs hP ha hI hT hct
    obtain ⟨ef, k1, h1, rfl⟩ := hc
    have sz : pt_sz (pt_lam f x b) = pt_sz b + 1 := rfl
    have pb := pt_sz_pos b
    have m := pn_mono b tb _ _ h1
    dsimp only at hB hl m
    obtain ⟨H1, H2, _⟩ := hP
    obtain ⟨w1, T1, up1, ar1, cl1, R1, l1, N1, q1, p1, p2, p3, p4, p5, p6, p7⟩ := ih gl ((f, x) :: sc) (f : Int) _ k1 a T up ar cl R l N w hg h1 hB hl hw.2 (fun b' hb => by
      rcases List.mem_cons.mp hb with rfl | hb
      · have := hI.2.2.2.2.2.2.2; dsimp only; omega
      · exact hs b' hb) H1 (by omega) hI (by omega) (by omega)
    obtain ⟨a1, a2, a3, a4, a5, a6, a7, a8⟩ := id p2
    obtain ⟨r1, r2, r3, r4, r5, r6⟩ := px_rd hp a5 (px_N_ob (fun i j _ _ => p7.1 i j (by omega)) H2) (by omega)
    have n100 : nd ≤ 100 := a5.2.2.2.2.2
    have hfn : f < nf := by omega
    have ga : fr_at (oT + 5) ((76 + 2 * f : Nat) : Int) w1 = ((75 + 2 * f : Nat) : Int) := by
      rw [pb_at a1.2.2.1 (by omega) (by rw [ho.2.2.2.2.1]; exact a1.2.2.2.2.2.2.2), ho.2.1.2.2.1]
      exact (a1.2.2.2.2.2.1 _ (by omega) _ _ (a6 f hfn)).2
    obtain ⟨w2, u1, up2, cl2, R2, l2, N2, u2, u3, u4, u5, u6⟩ := px_unify ho a2 a1 (a := 75 + 2 * f) (b := q1) (by omega) p4.2.1 (by omega)
    have e : fm_Typing_typed oT oP ((a + pt_sz b : Nat) : Int) w1 = some (((76 + 2 * f : Nat) : Int), w2) := by
      unfold fm_Typing_typed
      dsimp only [fa_let]
      rw [r1, pb_wr (n := 5) (by decide), if_neg (by decide), if_neg (by decide), if_neg (by decide), if_pos (by decide), r2, r4, ho.1.2.2.2.2.2.2.1, px_of ho a3 a8 hfn, ho.1.2.2.1, ga, ho.1.2.2.2.2.1, px_ot ho a4 (by omega) (by omega), p3, u1]
      rfl
    obtain ⟨w5, s1, s2, s3, s4⟩ := px_ty_fin ho hp hd (by omega) p2 e u3 u2 (px_nf_uf u6) (Nat.le_refl _) (fun _ _ => rfl)
    refine ⟨w5, T1, up2, ar1, cl2, R2, l2, N2, _, fun F => ?_, s2, s3, ?_, by omega, by omega, px_tl_tr p7 s4 (by omega)⟩
    · rw [sz, show F + (pt_sz b + 1) = F + 1 + pt_sz b by omega, show a + (pt_sz b + 1) = a + pt_sz b + 1 by omega, p1 (F + 1)]
      exact s1 F
    · exact px_TY_lam (B := B) tb hI.2.2.2.2.2.2.1 hi hfn (by omega) (hI.2.2.2.2.2.1 f hfn) p4 u5
  | ife ta tb tc wa wb wc iha ihb ihc =>
    intro gl sc h k k' a T up ar cl R l N w hg hc hB hl hw hs hP ha hI hT hct
    obtain ⟨k1, k2, k3, h1, h2, h3, rfl⟩ := hc
    have sz : pt_sz (pt_ife ta tb tc) = pt_sz ta + pt_sz tb + pt_sz tc + 1 := rfl
    have pa := pt_sz_pos ta
    have pb := pt_sz_pos tb
    have pc := pt_sz_pos tc
    have m1 := pn_mono ta wa _ _ h1
    have m2 := pn_mono tb wb _ _ h2
    have m3 := pn_mono tc wc _ _ h3
    dsimp only at hB hl
    obtain ⟨H1, H2, H3, H4⟩ := hP
    obtain ⟨w1, T1, up1, ar1, cl1, R1, l1, N1, q1, p1, p2, p3, p4, p5, p6, p7⟩ := iha gl sc h k k1 a T up ar cl R l N w hg h1 (by omega) (by omega) hw.1 hs H1 (by omega) hI (by omega) (by omega)
    have o1 : px_ob oP w w1 := fun i j _ _ => p7.1 i j (by omega)
    obtain ⟨w2, T2, up2, ar2, cl2, R2, l2, N2, q2, x1, x2, x3, x4, x5, x6, x7⟩ := ihb gl sc h k1 k2 (a + pt_sz ta) T1 up1 ar1 cl1 R1 l1 N1 w1 hg h2 (by omega) (by omega) hw.2.1 hs (px_P_ob o1 tb wb _ _ H2) (by omega) p2 (by omega) (by omega)
    have o2 : px_ob oP w w2 := fun i j _ _ => (x7.1 i j (by omega)).trans (p7.1 i j (by omega))
    obtain ⟨w3, T3, up3, ar3, cl3, R3, l3, N3, q3, y1, y2, y3, y4, y5, y6, y7⟩ := ihc gl sc h k2 k3 (a + pt_sz ta + pt_sz tb) T2 up2 ar2 cl2 R2 l2 N2 w2 hg h3 (by omega) (by omega) hw.2.2 hs (px_P_ob o2 tc wc _ _ H3) (by omega) x2 (by omega) (by omega)
    have o3 : px_ob oP w w3 := fun i j _ _ => (y7.1 i j (by omega)).trans (o2 i j (by omega) (by omega))
    have hT0 := hI.2.2.2.2.2.2.1
    have c1 : w3 (oT + 10) (a + pt_sz ta - 1) = (q1 : Int) := (y7.2 _ (by omega)).trans ((x7.2 _ (by omega)).trans p3)
    have c2 : w3 (oT + 10) (a + pt_sz ta + pt_sz tb - 1) = (q2 : Int) := (y7.2 _ (by omega)).trans x3
    obtain ⟨a1, a2, a3, a4, a5, a6, a7, a8⟩ := id y2
    have n100 : nd ≤ 100 := a5.2.2.2.2.2
    obtain ⟨r1, r2, r3, r4, r5, r6⟩ := px_rd hp a5 (px_N_ob o3 H4) (by omega)
    have q1T : q1 < T3 := by have := p4.2.1; have := x4.1; have := y4.1; omega
    have q2T : q2 < T3 := by have := x4.2.1; have := y4.1; omega
    obtain ⟨w4, u1, up4, cl4, R4, l4, N4, u2, u3, u4, u5, u6⟩ := px_unify ho a2 a1 (a := q1) (b := 0) q1T (by omega) (by omega)
    have n4 := px_nf_uf u6
    have e9 : w4 (oT + 9) 1 = ((a + pt_sz ta + pt_sz tb + pt_sz tc : Nat) : Int) := by rw [n4 _ _ (by omega) (by omega) (by omega)]; exact a4
    have e10 : ∀ j, w4 (oT + 10) j = w3 (oT + 10) j := fun j => n4 _ _ (by omega) (by omega) (by omega)
    have z4 := px_pz_ob a5 (fun i j _ _ => n4 i j (by omega) (by omega) (by omega))
    obtain ⟨s1', s2', s3', s4', s5', s6'⟩ := px_rd hp z4 (px_N_ob (fun i j _ _ => n4 i j (by omega) (by omega) (by omega)) (px_N_ob o3 H4)) (by omega : a + pt_sz ta + pt_sz tb + pt_sz tc < nd)
    obtain ⟨w5, v1, up5, cl5, R5, l5, N5, v2, v3, v4, v5, v6⟩ := px_unify ho u2 u3 (a := q2) (b := q3) q2T y4.2.1 (by omega)
    have e : fm_Typing_typed oT oP ((a + pt_sz ta + pt_sz tb + pt_sz tc : Nat) : Int) w3 = some ((q2 : Int), w5) := by
      unfold fm_Typing_typed
      dsimp only [fa_let]
      rw [r1, pb_wr (n := 6) (by decide), if_neg (by decide), if_neg (by decide), if_neg (by decide), if_neg (by decide), if_pos (by decide), r4, r5, ho.1.2.2.2.2.1, px_ot ho a4 (by omega) (by omega), px_ot ho a4 (by omega) (by omega), c1, c2]
      change (fm_Typing_unify oT (q1 : Int) ((0 : Nat) : Int) w3).bind _ = _
      rw [u1]
      dsimp only [Option.bind_some]
      rw [s6', px_ot ho e9 (by omega) (by omega), e10, y3, v1]
      rfl
    obtain ⟨w6, s1, s2, s3, s4⟩ := px_ty_fin ho hp hd (by omega) y2 e v3 v2 (px_nf_tr n4 (px_nf_uf v6)) (Nat.le_refl _) (fun _ _ => rfl)
    have es : a + pt_sz (pt_ife ta tb tc) = a + pt_sz ta + pt_sz tb + pt_sz tc + 1 := by omega
    refine ⟨w6, T3, up5, ar3, cl5, R5, l5, N5, _, fun F => ?_, by rw [es]; exact s2, by rw [es]; exact s3, ?_, by omega, by omega, px_tl_tr p7 (px_tl_tr x7 (px_tl_tr y7 s4 (by omega)) (by omega)) (by omega)⟩
    · rw [sz, show F + (pt_sz ta + pt_sz tb + pt_sz tc + 1) = F + 1 + pt_sz tc + pt_sz tb + pt_sz ta by omega, show a + (pt_sz ta + pt_sz tb + pt_sz tc + 1) = a + pt_sz ta + pt_sz tb + pt_sz tc + 1 by omega, p1, x1, y1]
      exact s1 F
    · exact px_TY_ife hT0 hi (px_TS3 hT0 hi wa wb wc h1 h2 h3 p4 x4 y4) (pu_P_tr u5 v5) (fun d z => by unfold pv_iv at z ⊢; dsimp only; omega) (fun d z => by unfold pv_iv at z ⊢; dsimp only; omega)
  | lt v x ta tb wa wb iha ihb =>
    intro gl sc h k k' a T up ar cl R l N w hg hc hB hl hw hs hP ha hI hT hct
    obtain ⟨k1, k2, h1, ev, h2, rfl⟩ := hc
    have sz : pt_sz (pt_let v x ta tb) = pt_sz ta + pt_sz tb + 1 := rfl
    have pa := pt_sz_pos ta
    have pb := pt_sz_pos tb
    have m1 := pn_mono ta wa _ _ h1
    have m2 := pn_mono tb wb _ _ h2
    dsimp only at hB hl m2
    obtain ⟨H1, H2, H4, _⟩ := hP
    have hv : v < 24 + ins.length := by omega
    obtain ⟨w1, T1, up1, ar1, cl1, R1, l1, N1, q1, p1, p2, p3, p4, p5, p6, p7⟩ := iha gl sc h k k1 a T up ar cl R l N w hg h1 (by omega) (by omega) hw.2.1 hs H1 (by omega) hI (by omega) (by omega)
    have o1 : px_ob oP w w1 := fun i j _ _ => p7.1 i j (by omega)
    obtain ⟨w3, T3, up3, ar3, cl3, R3, l3, N3, q3, y1, y2, y3, y4, y5, y6, y7⟩ := ihb gl ((v, x) :: sc) h _ k2 (a + pt_sz ta) T1 up1 ar1 cl1 R1 l1 N1 w1 hg h2 (by omega) (by omega) hw.2.2 (fun b hb => by
      rcases List.mem_cons.mp hb with rfl | hb
      · exact hv
      · exact hs b hb) (px_P_ob o1 tb wb _ _ H2) (by omega) p2 (by omega) (by omega)
    have o3 : px_ob oP w w3 := fun i j _ _ => (y7.1 i j (by omega)).trans (o1 i j (by omega) (by omega))
    have hT0 := hI.2.2.2.2.2.2.1
    have c1 : w3 (oT + 10) (a + pt_sz ta - 1) = (q1 : Int) := (y7.2 _ (by omega)).trans p3
    obtain ⟨a1, a2, a3, a4, a5, a6, a7, a8⟩ := id y2
    have n100 : nd ≤ 100 := a5.2.2.2.2.2
    obtain ⟨r1, r2, r3, r4, r5, r6⟩ := px_rd hp a5 (px_N_ob o3 H4) (by omega)
    have q1T : q1 < T3 := by have := p4.2.1; have := y4.1; omega
    have hx := hi v
    obtain ⟨w4, u1, up4, cl4, R4, l4, N4, u2, u3, u4, u5, u6⟩ := px_unify ho a2 a1 (a := 1 + px_xi ins v) (b := q1) (by omega) q1T (by omega)
    have e : fm_Typing_typed oT oP ((a + pt_sz ta + pt_sz tb : Nat) : Int) w3 = some ((q3 : Int), w4) := by
      unfold fm_Typing_typed
      dsimp only [fa_let]
      rw [r1, pb_wr (n := 7) (by decide), if_neg (by decide), if_neg (by decide), if_neg (by decide), if_neg (by decide), if_neg (by decide), if_pos (by decide), r2, r4, r5, ho.1.2.2.2.2.1, ho.1.2.2.2.2.2.1, px_ov ho a3 hx, px_ot ho a4 (by omega) (by omega), px_ot ho a4 (by omega) (by omega), c1, y3, u1]
      rfl
    obtain ⟨w6, s1, s2, s3, s4⟩ := px_ty_fin ho hp hd (by omega) y2 e u3 u2 (px_nf_uf u6) (Nat.le_refl _) (fun _ _ => rfl)
    have es : a + pt_sz (pt_let v x ta tb) = a + pt_sz ta + pt_sz tb + 1 := by omega
    refine ⟨w6, T3, up4, ar3, cl4, R4, l4, N4, _, fun F => ?_, by rw [es]; exact s2, by rw [es]; exact s3, ?_, by omega, by omega, px_tl_tr p7 (px_tl_tr y7 s4 (by omega)) (by omega)⟩
    · rw [sz, show F + (pt_sz ta + pt_sz tb + 1) = F + 1 + pt_sz tb + pt_sz ta by omega, show a + (pt_sz ta + pt_sz tb + 1) = a + pt_sz ta + pt_sz tb + 1 by omega, p1, y1]
      exact s1 F
    · exact px_TY_let hT0 hi hv (px_TS2 hT0 hi wa wb h1 h2 (Nat.le_refl _) (Nat.le_refl _) p4 y4) u5 (fun d z => by unfold pv_iv at z ⊢; dsimp only at z ⊢; omega) (fun d z => by unfold pv_iv at z ⊢; dsimp only at z ⊢; omega)
  | op s ta tb wa wb iha ihb =>
    intro gl sc h k k' a T up ar cl R l N w hg hc hB hl hw hs hP ha hI hT hct
    obtain ⟨k1, k2, h1, h2, rfl⟩ := hc
    have sz : pt_sz (pt_op s ta tb) = pt_sz ta + pt_sz tb + 1 := rfl
    have pa := pt_sz_pos ta
    have pb := pt_sz_pos tb
    have m1 := pn_mono ta wa _ _ h1
    have m2 := pn_mono tb wb _ _ h2
    dsimp only at hB hl
    obtain ⟨H1, H2, H4⟩ := hP
    obtain ⟨w1, T1, up1, ar1, cl1, R1, l1, N1, q1, p1, p2, p3, p4, p5, p6, p7⟩ := iha gl sc h k k1 a T up ar cl R l N w hg h1 (by omega) (by omega) hw.2.1 hs H1 (by omega) hI (by omega) (by omega)
    have o1 : px_ob oP w w1 := fun i j _ _ => p7.1 i j (by omega)
    obtain ⟨w3, T3, up3, ar3, cl3, R3, l3, N3, q3, y1, y2, y3, y4, y5, y6, y7⟩ := ihb gl sc h k1 k2 (a + pt_sz ta) T1 up1 ar1 cl1 R1 l1 N1 w1 hg h2 (by omega) (by omega) hw.2.2 hs (px_P_ob o1 tb wb _ _ H2) (by omega) p2 (by omega) (by omega)
    have o3 : px_ob oP w w3 := fun i j _ _ => (y7.1 i j (by omega)).trans (o1 i j (by omega) (by omega))
    have hT0 := hI.2.2.2.2.2.2.1
    have c1 : w3 (oT + 10) (a + pt_sz ta - 1) = (q1 : Int) := (y7.2 _ (by omega)).trans p3
    obtain ⟨a1, a2, a3, a4, a5, a6, a7, a8⟩ := id y2
    have n100 : nd ≤ 100 := a5.2.2.2.2.2
    obtain ⟨r1, r2, r3, r4, r5, r6⟩ := px_rd hp a5 (px_N_ob o3 H4) (by omega)
    have q1T : q1 < T3 := by have := p4.2.1; have := y4.1; omega
    obtain ⟨w4, u1, up4, cl4, R4, l4, N4, u2, u3, u4, u5, u6⟩ := px_unify ho a2 a1 (a := q1) (b := 0) q1T (by omega) (by omega)
    obtain ⟨w5, v1, up5, cl5, R5, l5, N5, v2, v3, v4, v5, v6⟩ := px_unify ho u2 u3 (a := q3) (b := 0) y4.2.1 (by omega) (by omega)
    have e : fm_Typing_typed oT oP ((a + pt_sz ta + pt_sz tb : Nat) : Int) w3 = some (((0 : Nat) : Int), w5) := by
      unfold fm_Typing_typed
      dsimp only [fa_let]
      rw [r1, pb_wr (n := 8) (by decide), if_neg (by decide), if_neg (by decide), if_neg (by decide), if_neg (by decide), if_neg (by decide), if_neg (by decide), if_pos (by decide), r4, r5, ho.1.2.2.2.2.1, px_ot ho a4 (by omega) (by omega), px_ot ho a4 (by omega) (by omega), c1, y3]
      change (fm_Typing_unify oT (q1 : Int) ((0 : Nat) : Int) w3).bind _ = _
      rw [u1]
      dsimp only [Option.bind_some]
      change (fm_Typing_unify oT (q3 : Int) ((0 : Nat) : Int) w4).bind _ = _
      rw [v1]
      rfl
    obtain ⟨w6, s1, s2, s3, s4⟩ := px_ty_fin ho hp hd (by omega) y2 e v3 v2 (px_nf_tr (px_nf_uf u6) (px_nf_uf v6)) (Nat.le_refl _) (fun _ _ => rfl)
    have es : a + pt_sz (pt_op s ta tb) = a + pt_sz ta + pt_sz tb + 1 := by omega
    refine ⟨w6, T3, up5, ar3, cl5, R5, l5, N5, _, fun F => ?_, by rw [es]; exact s2, by rw [es]; exact s3, ?_, by omega, by omega, px_tl_tr p7 (px_tl_tr y7 s4 (by omega)) (by omega)⟩
    · rw [sz, show F + (pt_sz ta + pt_sz tb + 1) = F + 1 + pt_sz tb + pt_sz ta by omega, show a + (pt_sz ta + pt_sz tb + 1) = a + pt_sz ta + pt_sz tb + 1 by omega, p1, y1]
      exact s1 F
    · exact px_TY_op hT0 hi (px_TS2 hT0 hi wa wb h1 h2 (Nat.le_refl _) (Nat.le_refl _) p4 y4) (pu_P_tr u5 v5) (fun d z => by unfold pv_iv at z ⊢; dsimp only at z ⊢; omega) (fun d z => by unfold pv_iv at z ⊢; dsimp only at z ⊢; omega)
  | site s ta tb wa wb iha ihb =>
    intro gl sc h k k' a T up ar cl R l N w hg hc hB hl hw hs hP ha hI hT hct
    obtain ⟨k1, k2, h1, es, h2, rfl⟩ := hc
    have sz : pt_sz (pt_site s ta tb) = pt_sz ta + pt_sz tb + 1 := rfl
    have pa := pt_sz_pos ta
    have pb := pt_sz_pos tb
    have m1 := pn_mono ta wa _ _ h1
    have m2 := pn_mono tb wb _ _ h2
    dsimp only at hB hl m2
    obtain ⟨H1, H2, H4, _⟩ := hP
    obtain ⟨w1, T1, up1, ar1, cl1, R1, l1, N1, q1, p1, p2, p3, p4, p5, p6, p7⟩ := iha gl sc h k k1 a T up ar cl R l N w hg h1 (by omega) (by omega) hw.1 hs H1 (by omega) hI (by omega) (by omega)
    have o1 : px_ob oP w w1 := fun i j _ _ => p7.1 i j (by omega)
    obtain ⟨w3, T3, up3, ar3, cl3, R3, l3, N3, q3, y1, y2, y3, y4, y5, y6, y7⟩ := ihb gl sc h _ k2 (a + pt_sz ta) T1 up1 ar1 cl1 R1 l1 N1 w1 hg h2 (by omega) (by omega) hw.2 hs (px_P_ob o1 tb wb _ _ H2) (by omega) p2 (by omega) (by omega)
    have o3 : px_ob oP w w3 := fun i j _ _ => (y7.1 i j (by omega)).trans (o1 i j (by omega) (by omega))
    have hT0 := hI.2.2.2.2.2.2.1
    have c1 : w3 (oT + 10) (a + pt_sz ta - 1) = (q1 : Int) := (y7.2 _ (by omega)).trans p3
    obtain ⟨a1, a2, a3, a4, a5, a6, a7, a8⟩ := id y2
    have n100 : nd ≤ 100 := a5.2.2.2.2.2
    obtain ⟨r1, r2, r3, r4, r5, r6⟩ := px_rd hp a5 (px_N_ob o3 H4) (by omega)
    have q1T : q1 < T3 := by have := p4.2.1; have := y4.1; omega
    obtain ⟨wa1, t1, t2, t3⟩ := px_arrow ho a1 (by omega) none (-1) (-1) (Or.inl ⟨rfl, rfl, rfl⟩)
    have I1 := pu_alloc a2 none (fun _ _ z => (nomatch z))
    obtain ⟨wa2, g1, g2, g3⟩ := px_arrow ho t2 (by omega) (some (q3, T3)) (q3 : Int) (T3 : Int) (Or.inr ⟨q3, T3, rfl, rfl, rfl⟩)
    have q3T := y4.2.1
    have I2 := pu_alloc I1 (some (q3, T3)) (fun x y z => by cases z; omega)
    have ctn : ∀ (T : Nat) (ar : pu_A) (x : Option (Nat × Nat)) (l : List Nat), T ∉ l → pu_ct (pu_set ar T x) l = pu_ct ar l := by
      intro T ar x l
      induction l with
      | nil => intro _; rfl
      | cons y r ih =>
        intro z
        show (if pu_set ar T x y = none then 0 else 1) + pu_ct _ r = (if ar y = none then 0 else 1) + pu_ct ar r
        rw [pu_set_ne _ _ (fun (q : y = T) => z (by rw [q]; exact List.mem_cons_self ..)), ih (fun q => z (List.mem_cons_of_mem _ q))]
    have lT : T3 ∉ l3 := fun z => by have := (a2.2.1 T3).mp z; omega
    have lT2 : T3 + 1 ∉ T3 :: l3 := fun z => by have := (I1.2.1 (T3 + 1)).mp z; omega
    have ct2 : pu_ct (pu_set (pu_set ar3 T3 none) (T3 + 1) (some (q3, T3))) ((T3 + 1) :: T3 :: l3) = 1 + pu_ct ar3 l3 := by
      show (if pu_set (pu_set ar3 T3 none) (T3 + 1) (some (q3, T3)) (T3 + 1) = none then 0 else 1) + pu_ct _ (T3 :: l3) = _
      rw [pu_set_eq, if_neg (by simp), ctn _ _ _ _ lT2]
      show 1 + ((if pu_set ar3 T3 none T3 = none then 0 else 1) + pu_ct _ l3) = _
      rw [pu_set_eq, if_pos rfl, ctn _ _ _ _ lT, Nat.zero_add]
    obtain ⟨w4, u1, up4, cl4, R4, l4, N4, u2, u3, u4, u5, u6⟩ := px_unify ho I2 g2 (a := q1) (b := T3 + 1) (by omega) (by omega) (by omega)
    have nA : px_nf oT w3 wa2 := fun i j z1 z2 z3 => (g3 i j (by omega)).trans (t3 i j (by omega))
    have e : fm_Typing_typed oT oP ((a + pt_sz ta + pt_sz tb : Nat) : Int) w3 = some ((T3 : Int), w4) := by
      unfold fm_Typing_typed fm_Typing_open
      dsimp only [fa_let]
      rw [r1, pb_wr (n := 9) (by decide), if_neg (by decide), if_neg (by decide), if_neg (by decide), if_neg (by decide), if_neg (by decide), if_neg (by decide), if_neg (by decide), if_pos (by decide), r4, r5, ho.1.2.2.2.2.1, px_ot ho a4 (by omega) (by omega), px_ot ho a4 (by omega) (by omega), c1, y3, t1]
      dsimp only [fa_l2]
      rw [g1]
      dsimp only
      rw [u1]
      rfl
    obtain ⟨w6, s1, s2, s3, s4⟩ := px_ty_fin ho hp hd (by omega) y2 e u3 u2 (px_nf_tr nA (px_nf_uf u6)) (by omega) (fun j hj => by rw [pu_set_ne _ _ (by omega), pu_set_ne _ _ (by omega)])
    have esz : a + pt_sz (pt_site s ta tb) = a + pt_sz ta + pt_sz tb + 1 := by omega
    refine ⟨w6, T3 + 1 + 1, up4, _, cl4, R4, l4, N4, T3, fun F => ?_, by rw [esz]; exact s2, by rw [esz]; exact s3, ?_, by omega, by omega, px_tl_tr p7 (px_tl_tr y7 s4 (by omega)) (by omega)⟩
    · rw [sz, show F + (pt_sz ta + pt_sz tb + 1) = F + 1 + pt_sz tb + pt_sz ta by omega, show a + (pt_sz ta + pt_sz tb + 1) = a + pt_sz ta + pt_sz tb + 1 by omega, p1, y1]
      exact s1 F
    · exact px_TY_site hT0 hi (px_TS2 hT0 hi wa wb h1 h2 (Nat.le_refl _) (Nat.le_succ _) p4 y4) a2 u5 (fun d z => by unfold pv_iv at z ⊢; dsimp only at z ⊢; omega) (fun d z => by unfold pv_iv at z ⊢; dsimp only at z ⊢; omega) (by unfold pv_iv; dsimp only; omega) (fun z => by unfold pv_iv at z; dsimp only at z; omega)
