/-! copying: from the start to the first THING -/
theorem pe_mk_01 {CL : Nat → Bool} {mk : Nat → Int} (t : pt_T) (tt : pt_tw t) : ∀ a, pe_mk CL t a mk → ∀ i, a ≤ i → i < a + pt_sz t → mk i = -1 ∨ mk i = 0 := by
  induction t, tt using pt_indh with
  | num v =>
    intro a H i p q
    have sz : pt_sz (pt_num v) = 1 := rfl
    rw [show i = a by omega]; exact Or.inr H
  | var v x =>
    intro a H i p q
    have sz : pt_sz (pt_var v x) = 1 := rfl
    rw [show i = a by omega]; exact Or.inr H
  | glo g x =>
    intro a H i p q
    have sz : pt_sz (pt_glo g x) = 1 := rfl
    rw [show i = a by omega]; exact Or.inr H
  | dead d =>
    intro a H i p q
    have sz : pt_sz (pt_dead d) = 1 := rfl
    rw [show i = a by omega]; exact Or.inr H
  | lam f x b tb ih =>
    intro a H i p q
    have sz : pt_sz (pt_lam f x b) = pt_sz b + 1 := rfl
    obtain ⟨H1, H2⟩ := H
    by_cases e : i = a + pt_sz b
    · rw [e]; exact Or.inr H1
    · by_cases c : CL f = true
      · rw [if_pos c] at H2; exact ih a H2 i p (by omega)
      · rw [if_neg c] at H2; exact Or.inl (H2 i p (by omega))
  | ife ta tb tc wa wb wc iha ihb ihc =>
    intro a H i p q
    have sz : pt_sz (pt_ife ta tb tc) = pt_sz ta + pt_sz tb + pt_sz tc + 1 := rfl
    obtain ⟨H1, H2, H3, H4⟩ := H
    by_cases e1 : i < a + pt_sz ta
    · exact iha _ H1 i p e1
    · by_cases e2 : i < a + pt_sz ta + pt_sz tb
      · exact ihb _ H2 i (by omega) e2
      · by_cases e3 : i < a + pt_sz ta + pt_sz tb + pt_sz tc
        · exact ihc _ H3 i (by omega) e3
        · rw [show i = a + pt_sz ta + pt_sz tb + pt_sz tc by omega]; exact Or.inr H4
  | lt v x ta tb wa wb iha ihb =>
    intro a H i p q
    have sz : pt_sz (pt_let v x ta tb) = pt_sz ta + pt_sz tb + 1 := rfl
    obtain ⟨H1, H2, H4⟩ := H
    by_cases e1 : i < a + pt_sz ta
    · exact iha _ H1 i p e1
    · by_cases e2 : i < a + pt_sz ta + pt_sz tb
      · exact ihb _ H2 i (by omega) e2
      · rw [show i = a + pt_sz ta + pt_sz tb by omega]; exact Or.inr H4
  | op s ta tb wa wb iha ihb =>
    intro a H i p q
    have sz : pt_sz (pt_op s ta tb) = pt_sz ta + pt_sz tb + 1 := rfl
    obtain ⟨H1, H2, H4⟩ := H
    by_cases e1 : i < a + pt_sz ta
    · exact iha _ H1 i p e1
    · by_cases e2 : i < a + pt_sz ta + pt_sz tb
      · exact ihb _ H2 i (by omega) e2
      · rw [show i = a + pt_sz ta + pt_sz tb by omega]; exact Or.inr H4
  | site s ta tb wa wb iha ihb =>
    intro a H i p q
    have sz : pt_sz (pt_site s ta tb) = pt_sz ta + pt_sz tb + 1 := rfl
    obtain ⟨H1, H2, H4⟩ := H
    by_cases e1 : i < a + pt_sz ta
    · exact iha _ H1 i p e1
    · by_cases e2 : i < a + pt_sz ta + pt_sz tb
      · exact ihb _ H2 i (by omega) e2
      · rw [show i = a + pt_sz ta + pt_sz tb by omega]; exact Or.inr H4
theorem pe_sumL {oP nf nv si B : Nat} {M CL SV LV VI : Nat → Bool} {ins : List Nat} {gs : ps_G} {t : pt_T} {w0 : fa_W} {mk : Nat → Int} (h24 : nf ≤ 24) (hx : ∀ v, px_xi ins v < 74) (hge : ∀ i, i < ins.length → 24 ≤ ins.getD i 0) (G6 : gs.length ≤ 6) (its : ∀ g, g ≤ gs.length → pe_it B si ins.length nf nv gs.length M CL SV LV VI g (pn_tr gs t g)) (hVM : ∀ g, g < gs.length → VI g = true → M g = true) : ∀ (r : List Nat) (a : Nat), (∀ g ∈ r, g ≤ gs.length) → px_L oP ins gs t r a w0 → pe_L1 CL VI gs t mk r a → pe_Q oP M CL SV w0 mk a (pn_os gs t r) (pe_sm (pe_vs CL VI gs t) r) := by
  intro r
  induction r with
  | nil => intro a _ _ _; exact ⟨rfl, fun i p q => by rw [show pn_os gs t [] = 0 from rfl] at q; omega⟩
  | cons g r ih =>
    intro a hr H L
    obtain ⟨x1, x2, x3⟩ := H
    obtain ⟨y1, y2⟩ := L
    have hg := hr g (List.mem_cons_self ..)
    have q2 := ih _ (fun x hx => hr x (List.mem_cons_of_mem _ hx)) x3 y2
    have q1 : pe_Q oP M CL SV w0 mk a (pt_sz (pn_tr gs t g)) (pe_vs CL VI gs t g) := by
      obtain ⟨tw, k, k', gl, sc, z1, z2, z3, z4, z5, z6, z7, z8⟩ := its g hg
      unfold pe_vs
      by_cases c : VI g = true
      · rw [if_pos c] at y1 ⊢
        rw [c] at z8
        refine pe_tree h24 hx hge _ tw gl sc _ a k k' x1 z1 z2 z7 z4 (fun b hb => ?_) z8 y1 ?_
        · have q := z6 b hb
          exact ⟨fun _ => by rw [q.1]; exact hVM g q.2 c, by omega⟩
        · unfold pn_ow
          by_cases e : g < gs.length
          · rw [if_pos e]; exact Or.inr ⟨g, rfl, by omega, hVM g e c⟩
          · rw [if_neg e]; exact Or.inl rfl
      · rw [if_neg c] at y1 ⊢
        exact ⟨pe_c_z _ (fun i p q => pe_e_0 (y1 i p q)), fun i p q z => absurd (y1 i p q) z⟩
    exact pe_Q_two q1 q2
theorem pe_VM {M CL : Nat → Bool} {G g : Nat} (hg : g < G) (h : pe_VI G M CL g = true) : M g = true ∧ CL g = true := by
  unfold pe_VI at h
  rw [if_pos hg] at h
  exact (Bool.and_eq_true _ _).mp h
theorem pe_01 {oP : Nat} {M CL : Nat → Bool} {VI : Nat → Bool} {ins : List Nat} {gs : ps_G} {t : pt_T} {os : List Nat} {w0 : fa_W} {mk : Nat → Int} (tw : ∀ g, pt_tw (pn_tr gs t g)) (hL : px_L oP ins gs t os 0 w0) (h1 : pe_L1 CL VI gs t mk os 0) : ∀ i, i < pn_os gs t os → mk i = -1 ∨ mk i = 0 := by
  intro i hi
  obtain ⟨g, c, _, c1, c2, _, _, c3⟩ := (pe_L_at os 0 hL h1).1 i (Nat.zero_le _) (by omega)
  by_cases e : VI g = true
  · rw [if_pos e] at c3
    exact pe_mk_01 _ (tw g) c c3 i c1 c2
  · rw [if_neg e] at c3
    exact Or.inl (c3 i c1 c2)
/-- the world at the first THING -/
def pe_S1 (o oP nd si la : Nat) (M CL SV : Nat → Bool) (cd : Int) (gs : ps_G) (t : pt_T) (ins os : List Nat) (w w0 : fa_W) : Prop := (∀ x y, (x < o ∨ o + 26 < x) → w0 x y = w x y) ∧ px_Sr oP gs t si nd ins os w0 ∧ px_sze o 0 w0 ∧ (w0 (o + 17) 1 = 0 ∧ w0 o 13 = 0 ∧ w0 o 14 = ((pc_rk M 24 : Nat) : Int) ∧ w0 o 15 = ((pc_rk SV si : Nat) : Int)) ∧ (∀ f, f < 24 → M f = true → w0 (o + 14) (pc_rk M f) = w0 (oP + 14) f) ∧ (∀ j, 24 ≤ j → j < 74 → w0 (o + 14) j = w0 (oP + 14) j) ∧ (∀ k, k < 74 → w0 (o + 16) k = -1) ∧ pe_EC o oP nd si M CL SV cd w0 (w0 (o + 24)) ∧ pe_L1 CL (pe_VI gs.length M CL) gs t (w0 (o + 24)) os 0 ∧ pe_c (pe_e oP CL w0 (w0 (o + 24))) nd = pe_sm (pe_vs CL (pe_VI gs.length M CL) gs t) os
theorem pe_begin {o oP nd si la li B : Nat} {M CL SV LV : Nat → Bool} {kp cd : Int} {gs : ps_G} {t : pt_T} {ins os : List Nat} {w : fa_W} (hs : pe_sep o oP) (hkM : pe_kp M kp) (hkC : pe_kp CL cd) (hBl : gs.length ≤ B) (hB6 : B ≤ 6) (hV : pn_VB B gs t la li si nd) (hG : pc_okG M CL SV LV gs 0) (hM : pc_ok M CL SV LV t true) (hSV : ∀ s, SV s = true → s < si) (hli : ins.length = li) (hS : px_Sr oP gs t si nd ins os w) : ∃ w0, (∀ FU, FU = fa_FU → fm_Program_copy o oP kp cd w = fm_Program_copy_l24 o oP kp cd FU 0 w0) ∧ pe_S1 o oP nd si la M CL SV cd gs t ins os w w0 := by
  subst hli
  obtain ⟨he, ho, hp, hd⟩ := id hs
  have its := pe_its hBl hB6 hV hG hM
  have hV' := pc_VB hB6 hV hG hM
  obtain ⟨v1, v2, v3, v4, v5, v6, v7, k1, v8, v9⟩ := hV
  have tw : ∀ g, pt_tw (pn_tr gs t g) := pn_tr_tw v6 gs _ _ _ v8
  have inm := hS.2.2.2.2.2.2.2.2.1
  have hx := px_xi_lt inm
  have hge : ∀ i, i < ins.length → 24 ≤ ins.getD i 0 := fun i hi => by
    have q := px_xi_ge (v := 24 + i) (fun x hx => (inm x hx).1) (by omega) (by omega)
    unfold px_xi at q
    rw [if_neg (by omega), Nat.add_sub_cancel_left] at q
    exact q
  -- clear
  have c := px_cleare he w
  obtain ⟨w1, ew1⟩ : ∃ w1, w1 = fm_Program_clear o w := ⟨_, rfl⟩
  rw [← ew1] at c
  obtain ⟨c1, c2, c3, c4, c5, c6, c7, c8, c9, c10, c11, c12, c13, c14⟩ := c
  have S1 : px_Sr oP gs t si nd ins os w1 := px_Sr_ob tw (fun i j p q => c14 i j (by omega)) hS
  obtain ⟨w2, e2, f2, n21, n14, n22, nf1, nf2⟩ := pe_numF (w := w1) hs hkM c3 S1.2.1.2.1 c7
  have S2 : px_Sr oP gs t si nd ins os w2 := px_Sr_ob tw (fun i j p q => f2 i j (by omega) (by omega) (by omega) (by omega)) S1
  obtain ⟨w3, e3, f3, m23, mL⟩ := pe_marks (nf := B + la) (nv := 24 + ins.length) (ns := 100) hs hkC v1 (by omega) tw (fun g hg => by
    obtain ⟨_, _, _, _, _, _, _, _, _, _, _, z7, _⟩ := its g hg
    exact z7) S2 n21 n22
  have S3 : px_Sr oP gs t si nd ins os w3 := px_Sr_ob tw (fun i j p q => f3 i j (by omega) (by omega)) S2
  have L3 := S3.2.2.2.2.2.2.2.1
  have at3 := pe_L_at os 0 L3 mL
  have mem := S3.2.2.2.2.2.1
  have osn := S3.2.2.2.2.2.2.1
  have p15 : w3 o 15 = 0 := (f3 _ _ (by omega) (by omega)).trans ((f2 _ _ (by omega) (by omega) (by omega) (by omega)).trans c8)
  obtain ⟨w4, e4, f4, n25, n15, n26⟩ := pe_numS (SV := SV) (w := w3) hs v4 v3 S3.2.1.1 S3.2.2.1.2 m23 p15 (fun s hs' => by
    obtain ⟨g, g1, ka, kb, g2, g3, g4⟩ := pn_site_item gs [] _ _ _ v8 v9 s (Nat.zero_le _) hs'
    obtain ⟨a, _, a1, a2, a3⟩ := at3.2 g ((mem g).mpr g1)
    obtain ⟨_, _, _, _, _, _, _, _, _, _, _, _, z8⟩ := its g g1
    obtain ⟨i, i1, i2, i3⟩ := pe_sites _ (tw g) _ _ _ _ _ a2 g2 z8 (fun q => by rw [if_pos q] at a3; exact a3) (fun q => by rw [if_neg (by rw [q]; decide)] at a3; exact a3) s g3 g4
    exact ⟨i, by omega, i2, i3⟩)
  have S4 : px_Sr oP gs t si nd ins os w4 := px_Sr_ob tw (fun i j p q => f4 i j (by omega) (by omega) (by omega)) S3
  have k24 : ∀ j, w4 (o + 24) j = w3 (o + 24) j := fun j => f4 _ _ (by omega) (by omega) (by omega)
  have L4 := pe_L1_cong (mk' := w4 (o + 24)) tw os 0 (fun j _ => k24 j) mL
  have Q := pe_sumL (by omega) hx hge v1 its (fun g hg q => (pe_VM hg q).1) os 0 (fun g hg => (mem g).mp hg) S4.2.2.2.2.2.2.2.1 L4
  rw [osn] at Q
  obtain ⟨Q1, Q2⟩ := Q
  rw [Nat.zero_add] at Q1 Q2
  have Q0 : pe_c (pe_e oP CL w4 (w4 (o + 24))) 0 = 0 := rfl
  rw [Q0, Nat.zero_add] at Q1
  have tot := pe_tot (M := M) (CL := CL) (t := t) S4.2.2.2.2.1 mem
  have le := hV'.1.2.2.1
  -- a cell through all stages
  have thr : ∀ x y, x ≠ o + 23 → x ≠ o + 24 → ¬ (x = o ∧ y = 15) → x ≠ o + 25 → x ≠ o + 26 → w4 x y = w2 x y := fun x y p q r s u => (f4 x y r s u).trans (f3 x y p q)
  have thc : ∀ x y, x ≠ o + 23 → x ≠ o + 24 → ¬ (x = o ∧ y = 15) → x ≠ o + 25 → x ≠ o + 26 → ¬ (x = o ∧ y = 14) → x ≠ o + 14 → x ≠ o + 21 → x ≠ o + 22 → w4 x y = w1 x y := fun x y p q r s u a b d e => (thr x y p q r s u).trans (f2 x y a b d e)
  refine ⟨w4, fun FU hFU => ?_, fun x y h => ?_, S4, ?_, ⟨?_, ?_, ?_, n15⟩, fun f h1 h2 => ?_, fun j h1 h2 => ?_, fun k hk => ?_, ?_, L4, Q1⟩
  · unfold fm_Program_copy
    rw [pf_let_eq, ← ew1, e2, Option.bind_some, e3, Option.bind_some, e4, Option.bind_some, hFU]
  · rw [thc x y (by omega) (by omega) (by omega) (by omega) (by omega) (by omega) (by omega) (by omega) (by omega)]
    exact c14 x y (by omega)
  · refine ⟨?_, ?_, ?_, ?_, ?_, ?_, ?_, ?_, ?_⟩
    · rw [thc _ _ (by omega) (by omega) (by omega) (by omega) (by omega) (by omega) (by omega) (by omega) (by omega)]; exact c1 _ (by omega)
    · rw [thc _ _ (by omega) (by omega) (by omega) (by omega) (by omega) (by omega) (by omega) (by omega) (by omega)]; exact c1 _ (by omega)
    · rw [thc _ _ (by omega) (by omega) (by omega) (by omega) (by omega) (by omega) (by omega) (by omega) (by omega)]; exact c1 _ (by omega)
    · rw [thc _ _ (by omega) (by omega) (by omega) (by omega) (by omega) (by omega) (by omega) (by omega) (by omega)]; exact c1 _ (by omega)
    · rw [thc _ _ (by omega) (by omega) (by omega) (by omega) (by omega) (by omega) (by omega) (by omega) (by omega)]; exact c1 _ (by omega)
    · rw [thc _ _ (by omega) (by omega) (by omega) (by omega) (by omega) (by omega) (by omega) (by omega) (by omega)]; exact c2
    · rw [thc _ _ (by omega) (by omega) (by omega) (by omega) (by omega) (by omega) (by omega) (by omega) (by omega)]; exact c3
    · rw [thc _ _ (by omega) (by omega) (by omega) (by omega) (by omega) (by omega) (by omega) (by omega) (by omega)]; exact c4
    · rw [thc _ _ (by omega) (by omega) (by omega) (by omega) (by omega) (by omega) (by omega) (by omega) (by omega)]; exact c5
  · rw [thc _ _ (by omega) (by omega) (by omega) (by omega) (by omega) (by omega) (by omega) (by omega) (by omega)]; exact c1 _ (by omega)
  · rw [thc _ _ (by omega) (by omega) (by omega) (by omega) (by omega) (by omega) (by omega) (by omega) (by omega)]; exact c6
  · rw [thr _ _ (by omega) (by omega) (by omega) (by omega) (by omega)]; exact n14
  · rw [thr _ _ (by omega) (by omega) (by omega) (by omega) (by omega), thc _ _ (by omega) (by omega) (by omega) (by omega) (by omega) (by omega) (by omega) (by omega) (by omega)]; exact nf1 f h1 h2
  · rw [thr _ _ (by omega) (by omega) (by omega) (by omega) (by omega), thc _ _ (by omega) (by omega) (by omega) (by omega) (by omega) (by omega) (by omega) (by omega) (by omega)]; exact nf2 j h1 h2
  · rw [thc _ _ (by omega) (by omega) (by omega) (by omega) (by omega) (by omega) (by omega) (by omega) (by omega)]; exact c12 k hk
  · refine ⟨hs, hkC, S4.1, ?_, fun f hf => ?_, (f4 _ _ (by omega) (by omega) (by omega)).trans m23, n25, n26, hSV, fun i hi z => Q2 i (Nat.zero_le _) hi z, by omega⟩
    · rw [thr _ _ (by omega) (by omega) (by omega) (by omega) (by omega)]; exact n21
    · rw [thr _ _ (by omega) (by omega) (by omega) (by omega) (by omega)]; exact n22 f hf
