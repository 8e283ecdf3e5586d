/-- two values are there: a SITE -/
theorem px_st2 {sc o i T V G nf nv nd d : Nat} {how x y A : Int} {ins : List Nat} {fb : Nat → pt_T} {r : pv_R} {hb ho : Nat → Int} {ap : Nat → Bool} {en : Nat → rv_V → Int → rv_I → rv_S → rv_O} {w0 : fa_W} {il : rv_I} {s : rv_S} {w : fa_W} {a b : rv_V} {T1 X1 : pv_T} (hX : px_rP sc o nd nf nv ins fb A ap w0) (hN : px_rN sc o how G nf nv fb r hb ho ins A w0 d en) (hSt : rv_ST G nf nv fb r hb ho s) (hd0 : 100 ≤ d + s.1) (hj : rv_j il ≤ s.1) (hl : il.length ≤ s.1) (hta : rv_TY G nf fb r ho s a (pv_ar T1 X1)) (htb : rv_TY G nf fb r ho s b T1) (harr : ∀ f, f < nf → r.2.1 f ≠ pv_int) (hS : px_rS ins A w0 il s w) (hi : i < 100) (hT : w 47 1 = ((T + 1 : Nat) : Int)) (ht : w 48 T = ((i * 4 + 2 : Nat) : Int)) (hV : w 49 1 = ((V + 2 : Nat) : Int)) (bT : 2 * T ≤ 102 * (il.length + 1)) (bV : 2 * V + 2 ≤ 102 * (il.length + 1)) (hx : w 50 V = x) (hy : w 50 (V + 1) = y) (xa : px_rE s.1 a x) (xb : px_rE s.1 b y) (hk : ∀ w1 : fa_W, (∀ i j, ¬ (44 ≤ i ∧ i ≤ 54) → w1 i j = w0 i j) → fm_Program_kind o (i : Int) w1 = ((9 : Nat) : Int)) : px_rQ sc how ins A w0 1 T V il s w (rv_sx ap en il a b s) := by
  obtain ⟨hsc, hp, ho54, hz, hin, h19, hB, h24, hap⟩ := id hX
  have s100 := hSt.1.1
  have w1o : ∀ a b, ¬ (44 ≤ a ∧ a ≤ 54) → fa_st w 47 1 (T : Int) a b = w0 a b := fun a b q => (fa_st_ne (by omega)).trans (hS.1 a b q)
  have hd := px_pop (r := 49) (m := 5252) (n := V + 1) (w := fa_st w 47 1 (T : Int)) (by decide +kernel) (by decide +kernel) (by rw [fa_st_ne (by omega)]; exact hV) (by omega)
  rw [show fa_st w 47 1 (T : Int) (49 + 1) (V + 1) = y by rw [fa_st_ne (by omega)]; exact hy] at hd
  have hd2 := px_pop (r := 49) (m := 5252) (n := V) (w := fa_st (fa_st w 47 1 (T : Int)) 49 1 ((V + 1 : Nat) : Int)) (by decide +kernel) (by decide +kernel) (by rw [fa_st_eq]) (by omega)
  rw [show fa_st (fa_st w 47 1 (T : Int)) 49 1 ((V + 1 : Nat) : Int) (49 + 1) V = x by rw [fa_st_ne (by omega), fa_st_ne (by omega)]; exact hx] at hd2
  obtain ⟨w2, hw2⟩ : ∃ w2, w2 = fa_st (fa_st (fa_st w 47 1 (T : Int)) 49 1 ((V + 1 : Nat) : Int)) 49 1 (V : Int) := ⟨_, rfl⟩
  rw [← hw2] at hd2
  have w2o : ∀ a b, ¬ (47 ≤ a ∧ a ≤ 50) → w2 a b = w a b := fun a b q => by rw [hw2, fa_st_ne (by omega), fa_st_ne (by omega), fa_st_ne (by omega)]
  have w2T : w2 47 1 = (T : Int) := by rw [hw2, fa_st_ne (by omega), fa_st_ne (by omega), fa_st_eq]
  have w2V : w2 49 1 = (V : Int) := by rw [hw2, fa_st_eq]
  have w2s : ∀ j, w2 48 j = w 48 j ∧ w2 50 j = w 50 j := fun j => by rw [hw2, fa_st_ne (by omega), fa_st_ne (by omega), fa_st_ne (by omega), fa_st_ne (by omega), fa_st_ne (by omega), fa_st_ne (by omega)]; exact ⟨rfl, rfl⟩
  clear hw2
  have S2 : px_rS ins A w0 il s w2 := px_rS_of hS w2o
  have hfx : ∃ f : Nat, f < nf ∧ a.2.1 = (f : Int) := by
    rcases hta with ⟨_, e⟩ | ⟨f, hf, e, _⟩
    · exact (pv_ar_int e).elim
    · exact ⟨f, hf, e⟩
  obtain ⟨f, hf, ef⟩ := hfx
  obtain ⟨f24, fr, fr1, ex, _⟩ := px_rE_n xa ef
  have en1 : a.2.1.toNat = f := by rw [ef]; rfl
  have hfn : fm_Machine_functionOf x w2 = (f : Int) := by rw [ex]; exact px_fnOf (by omega) f24 w2
  have hg0 : fm_Machine_go o (i : Int) ((2 : Nat) : Int) (fa_st w 47 1 (T : Int)) = if ap f = true then (if s.1 < 100 then (fm_Machine_enter o x y w2).bind fun w13 => some w13 else some (fa_st w2 44 7 4)) else some (fa_st w2 44 7 5) := by
    rw [px_goS (hk _ w1o)]
    unfold fm_Machine_goSite
    rw [px_k1 (by omega), if_pos (by omega), hd]
    dsimp only [fa_l2]
    rw [hd2]
    show (if fm_Face_hasBit (w2 44 6) (fm_Machine_functionOf x w2) w2 = true then (if fa_wr (w2 44 9) < 100 then (fm_Machine_enter o x y w2).bind (fun w13 => some w13) else some (fa_st w2 44 7 4)) else some (fa_st w2 44 7 5)) = _
    rw [hfn, S2.2.1.1, hap f hf, S2.2.1.2.2.2.1, pb_wr (by omega)]
    by_cases z : ap f = true
    · rw [if_pos z, if_pos z]
      by_cases z2 : s.1 < 100
      · rw [if_pos z2, if_pos (by omega)]
      · rw [if_neg z2, if_neg (by omega)]
    · rw [if_neg z, if_neg z]
  unfold rv_sx
  rw [en1]
  by_cases z : ap f = true
  · rw [if_pos z] at hg0
    rw [if_neg (by rw [z]; decide)]
    by_cases z2 : s.1 = 100
    · rw [if_neg (by omega)] at hg0
      rw [if_pos z2]
      have hr := px_round (how := how) hsc hS.2.1.2.1 hT (by omega) ht (by omega) hi hg0
      exact px_rQ_err (Nat.le_refl _) hr (px_rF_of hS (fa_st_eq _ _ _ _) (fun a b q q2 => (fa_st_ne q2).trans (w2o a b q)))
    · rw [if_pos (by omega)] at hg0
      rw [if_neg z2]
      obtain ⟨w3, e3, k3, v3, Q⟩ := hN il s a b T1 X1 x y T V w2 hSt z2 hd0 hj hl hta htb S2 w2T w2V bT (by omega) xa xb
      rw [e3, Option.bind_some] at hg0
      have hr := px_round (how := how) hsc hS.2.1.2.1 hT (by omega) ht (by omega) hi hg0
      rw [en1] at Q
      exact px_rQ_pre (Nat.le_refl _) hr (fun j q => (k3 j q).trans (w2s j).1) (fun j q => (v3 j).trans (w2s j).2) Q
  · rw [if_neg z] at hg0
    rw [if_pos (by cases h : ap f with | true => exact (z h).elim | false => rfl)]
    have hr := px_round (how := how) hsc hS.2.1.2.1 hT (by omega) ht (by omega) hi hg0
    exact px_rQ_err (Nat.le_refl _) hr (px_rF_of hS (fa_st_eq _ _ _ _) (fun a b q q2 => (fa_st_ne q2).trans (w2o a b q)))
theorem px_run_in {sc o G nf nv ns nd d : Nat} {how A : Int} {ins : List Nat} {fb : Nat → pt_T} {r : pv_R} {hb ho : Nat → Int} {ap : Nat → Bool} {en : Nat → rv_V → Int → rv_I → rv_S → rv_O} {w0 : fa_W} (hP : rv_PF G nf nv ns fb r hb ho) (hX : px_rP sc o nd nf nv ins fb A ap w0) (hen : rv_EN G nf nv fb r hb ho en) (hN : px_rN sc o how G nf nv fb r hb ho ins A w0 d en) (t : pt_T) (tt : pt_tw t) : ∀ (h hh : Int) (il : rv_I) (s : rv_S) (p T V : Nat) (w : fa_W), rv_SF G nf nv ns fb r hb ho t h → rv_DF G nf nv fb r hb ho t h il s → 100 ≤ d + s.1 → px_P o ins t hh p w0 → p + pt_sz t ≤ nd → px_rS ins A w0 il s w → w 47 1 = ((T + 1 : Nat) : Int) → w 48 T = (((p + pt_sz t - 1) * 4 : Nat) : Int) → w 49 1 = (V : Int) → 2 * T + pt_sz t + 1 ≤ 102 * (il.length + 1) → 2 * V + pt_sz t + 1 ≤ 102 * (il.length + 1) → px_rQ sc how ins A w0 (3 * pt_sz t) T V il s w (rv_bt ap en t il s) := by
  obtain ⟨hsc, hp, ho54, hz, hin, h19, hB, h24, hap⟩ := id hX
  have nd100 : nd ≤ 100 := hz.2.2.2.2.2
  have harr : ∀ f, f < nf → r.2.1 f ≠ pv_int := fun f hf e => pv_ar_int ((hP f hf).2.2.2.2.1.symm.trans e)
  have rd : ∀ (w1 : fa_W), (∀ i j, ¬ (44 ≤ i ∧ i ≤ 54) → w1 i j = w0 i j) → ∀ {i K v st : Nat} {h a b c : Int}, px_N o w0 i K v h st a b c → i < nd → fm_Program_kind o (i : Int) w1 = (K : Int) ∧ fm_Program_value o (i : Int) w1 = (v : Int) ∧ fm_Program_part o (i : Int) 0 w1 = a ∧ fm_Program_part o (i : Int) 1 w1 = b ∧ fm_Program_part o (i : Int) 2 w1 = c := fun w1 e i K v st h a b c N hi => px_rdw hp ho54 e hz N hi
  have w1o : ∀ {il : rv_I} {s : rv_S} {w : fa_W} (T : Nat), px_rS ins A w0 il s w → ∀ a b, ¬ (44 ≤ a ∧ a ≤ 54) → fa_st w 47 1 (T : Int) a b = w0 a b := fun T hS a b q => (fa_st_ne (by omega)).trans (hS.1 a b q)
  induction t, tt using pt_indh with
  | num v =>
    intro h hh il s p T V w S D d1 H hnd hS hT ht hV bT bV
    have e1 : p + pt_sz (pt_num v) - 1 = p := rfl
    have e2 : pt_sz (pt_num v) = 1 := rfl
    rw [e1] at ht
    have hq := D.2.1.2.1
    have hs := D.1.1.1
    have q := rd _ (w1o T hS) H (by omega)
    exact px_rQ_leaf hsc hS (i := p) (by omega) hT (by omega) ht hV (by omega) (by omega) (px_goN q.1 q.2.1) (Or.inl ⟨rfl, rfl⟩)
  | var v x =>
    intro h hh il s p T V w S D d1 H hnd hS hT ht hV bT bV
    have e1 : p + pt_sz (pt_var v x) - 1 = p := rfl
    have e2 : pt_sz (pt_var v x) = 1 := rfl
    rw [e1] at ht
    have hq := D.2.1.2.1
    have hj := D.2.1.1
    have hs := D.1.1.1
    have q := rd _ (w1o T hS) H.1 (by omega)
    have lx := px_xi_lt hin.2.2 v
    have hfr : fm_Machine_frame (fa_st w 47 1 (T : Int)) = (rv_j il : Int) := px_lastf (px_RL_of hS.2.2.2.2.1 (fun i j q => fa_st_ne (by omega))) (by omega) (by omega)
    have g := px_goV (ph := 0) q.1 q.2.1
    have e3 : (rv_j il : Int) * 74 + ((px_xi ins v : Nat) : Int) = ((rv_j il * 74 + px_xi ins v : Nat) : Int) := by omega
    rw [hfr, e3, pb_at (n := 7474) (by rw [fa_st_ne (by omega)]; exact hS.2.2.1) (by omega) (by rw [show fa_cp 45 = 7474 by decide +kernel]; omega), show fa_rf 45 0 = 46 by decide +kernel, fa_st_ne (by omega)] at g
    show px_rQ sc how ins A w0 (3 * pt_sz (pt_var v x)) T V il s w (.ok ((s.2.1 (rv_j il) v).getD (0, -1, -1)), s)
    cases z : s.2.1 (rv_j il) v with
    | none => exact (D.2.2.1 v rfl z).elim
    | some y => exact px_rQ_leaf hsc hS (i := p) (by omega) hT (by omega) ht hV (by omega) (by omega) g (hS.2.2.2.2.2 _ v y z)
  | glo g x =>
    intro h hh il s p T V w S D d1 H hnd hS hT ht hV bT bV
    have e1 : p + pt_sz (pt_glo g x) - 1 = p := rfl
    have e2 : pt_sz (pt_glo g x) = 1 := rfl
    have gf : g < nf := S.2.2.1
    rw [e1] at ht
    have hq := D.2.1.2.1
    have hj := D.2.1.1
    have hs := D.1.1.1
    have q := rd _ (w1o T hS) H.1 (by omega)
    have hfr : fm_Machine_frame (fa_st w 47 1 (T : Int)) = (rv_j il : Int) := px_lastf (px_RL_of hS.2.2.2.2.1 (fun i j q => fa_st_ne (by omega))) (by omega) (by omega)
    have gg := px_goF (ph := 0) (Or.inl rfl) q.1 q.2.1
    have e3 : (rv_j il : Int) * 32 + (g : Int) = ((rv_j il * 32 + g : Nat) : Int) := by omega
    rw [hfr, e3] at gg
    exact px_rQ_leaf hsc hS (i := p) (by omega) hT (by omega) ht hV (by omega) (by omega) gg (Or.inr ⟨g, rv_j il, by omega, hj, rfl, rfl, Or.inl rfl⟩)
  | dead dd =>
    intro h hh il s p T V w S D d1 H hnd hS hT ht hV bT bV
    have e1 : p + pt_sz (pt_dead dd) - 1 = p := rfl
    have e2 : pt_sz (pt_dead dd) = 1 := rfl
    rw [e1] at ht
    have hq := D.2.1.2.1
    have hs := D.1.1.1
    have q := rd _ (w1o T hS) H (by omega)
    have hr := px_round (how := how) (ph := 0) hsc hS.2.1.2.1 hT (by omega) (by rw [ht]; rfl) (by omega) (by omega) (px_goD q.1)
    exact px_rQ_err (e := 3) (by omega) hr (px_rF_of hS (fa_st_eq _ _ _ _) (fun a b q q2 => (fa_st_ne q2).trans (fa_st_ne (by omega))))
  | lam f x b tb ih =>
    intro h hh il s p T V w S D d1 H hnd hS hT ht hV bT bV
    obtain ⟨_, N, _⟩ := H
    have ff : f < nf := S.2.2.1.1
    have e2 : pt_sz (pt_lam f x b) = pt_sz b + 1 := rfl
    rw [e2] at hnd ht bT bV ⊢
    have e1 : p + (pt_sz b + 1) - 1 = p + pt_sz b := by omega
    rw [e1] at ht
    have hq := D.2.1.2.1
    have hj := D.2.1.1
    have hs := D.1.1.1
    have q := rd _ (w1o T hS) N (by omega)
    have hfr : fm_Machine_frame (fa_st w 47 1 (T : Int)) = (rv_j il : Int) := px_lastf (px_RL_of hS.2.2.2.2.1 (fun i j q => fa_st_ne (by omega))) (by omega) (by omega)
    have gg := px_goF (ph := 0) (Or.inr rfl) q.1 q.2.1
    have e3 : (rv_j il : Int) * 32 + (f : Int) = ((rv_j il * 32 + f : Nat) : Int) := by omega
    rw [hfr, e3] at gg
    exact px_rQ_leaf hsc hS (i := p + pt_sz b) (by omega) hT (by omega) ht hV (by omega) (by omega) gg (Or.inr ⟨f, rv_j il, by omega, hj, rfl, rfl, Or.inr rfl⟩)
  | ife a b c ta tb tc iha ihb ihc =>
    intro h hh il s p T V w S D d1 H hnd hS hT ht hV bT bV
    obtain ⟨Ha, Hb, Hc, N⟩ := H
    have e2 : pt_sz (pt_ife a b c) = pt_sz a + pt_sz b + pt_sz c + 1 := rfl
    rw [e2] at hnd ht bT bV ⊢
    have pa := pt_sz_pos a
    have pb := pt_sz_pos b
    have pc := pt_sz_pos c
    have e1 : p + (pt_sz a + pt_sz b + pt_sz c + 1) - 1 = p + pt_sz a + pt_sz b + pt_sz c := by omega
    rw [e1] at ht
    have hq := D.2.1.2.1
    have hs := D.1.1.1
    obtain ⟨Sa, Sb, Sc, t1, t2, t3, t4⟩ := rv_SF_ife ta tb tc S
    have q := rd _ (w1o T hS) N (by omega)
    have g0 : fm_Machine_go o ((p + pt_sz a + pt_sz b + pt_sz c : Nat) : Int) ((0 : Nat) : Int) (fa_st w 47 1 (T : Int)) = some (fm_Machine_beginPart o ((p + pt_sz a + pt_sz b + pt_sz c : Nat) : Int) ((0 : Nat) : Int) (fa_st w 47 1 (T : Int))) := by
      rw [px_goC q.1]
      unfold fm_Machine_goChoice
      rw [px_k1 (by omega), if_pos (by omega)]
      rfl
    obtain ⟨w1, n1, S1, T1, u1, u2, k1, v1⟩ := px_part1 (how := how) (pi := p + pt_sz a - 1) hsc hS (by omega) (by omega) (by omega) hT (by omega) (by rw [ht]; rfl) g0 (fun w2 e => (rd w2 e N (by omega)).2.2.1)
    have Da := rv_DF_1 (b := a) D (fun v q => Or.inl q) (fun v q => Or.inl q)
    have Q1 := iha h hh il s p (T + 1) V w1 Sa Da d1 Ha (by omega) S1 T1 u2 (by rw [(v1 1).1]; exact hV) (by omega) (by omega)
    have Q2 := px_rQ_bd (K2 := 3 * pt_sz b + 3 * pt_sz c + 1) (T := T) (V := V) (f := fun v s1 => if fa_wr v.1 = 0 then rv_bt ap en c il s1 else rv_bt ap en b il s1) Q1 (by omega) (Nat.le_refl _) (fun x s1 w2 er l1 S2 T2 V2 k2 v2 x2 => by
      have R := rv_ok_in hen a ta h il s Sa Da x s1 er
      have xi := rv_TY_int hP (by rw [← t1]; exact R.2.2.1)
      have xv := px_rE_i x2 xi
      have s1h := R.1.1.1
      by_cases z : fa_wr x.1 = 0
      · rw [if_pos z]
        obtain ⟨w3, n3, S3, T3, u3, V3, k3, v3⟩ := px_ch1 (how := how) (pi := p + pt_sz a + pt_sz b + pt_sz c - 1) hsc S2 (i := p + pt_sz a + pt_sz b + pt_sz c) (by omega) T2 (by omega) (by rw [k2 T (by omega), u1]) V2 (by omega) xv (fun w4 e => by
          have q4 := rd w4 e N (by omega)
          rw [if_pos z]
          exact ⟨q4.1, q4.2.2.2.2⟩)
        have Q3 := ihc h hh il s1 (p + pt_sz a + pt_sz b) T V w3 Sc (rv_DF_nx D R (fun v q => Or.inr (Or.inr q)) (fun v q => Or.inr (Or.inr q)) t4) (by omega) Hc (by omega) S3 T3 u3 V3 (by omega) (by omega)
        exact px_rQ_mono (by omega) (px_rQ_pre (Nat.le_refl _) n3 k3 (fun j _ => v3 j) Q3)
      · rw [if_neg z]
        obtain ⟨w3, n3, S3, T3, u3, V3, k3, v3⟩ := px_ch1 (how := how) (pi := p + pt_sz a + pt_sz b - 1) hsc S2 (i := p + pt_sz a + pt_sz b + pt_sz c) (by omega) T2 (by omega) (by rw [k2 T (by omega), u1]) V2 (by omega) xv (fun w4 e => by
          have q4 := rd w4 e N (by omega)
          rw [if_neg z]
          exact ⟨q4.1, q4.2.2.2.1⟩)
        have Q3 := ihb h hh il s1 (p + pt_sz a) T V w3 Sb (rv_DF_nx D R (fun v q => Or.inr (Or.inl q)) (fun v q => Or.inr (Or.inl q)) t3) (by omega) Hb (by omega) S3 T3 u3 V3 (by omega) (by omega)
        exact px_rQ_mono (by omega) (px_rQ_pre (Nat.le_refl _) n3 k3 (fun j _ => v3 j) Q3))
    exact px_rQ_mono (by omega) (px_rQ_pre (Nat.le_refl _) n1 k1 (fun j _ => (v1 j).2) Q2)
  | lt u x a b ta tb iha ihb =>
    intro h hh il s p T V w S D d1 H hnd hS hT ht hV bT bV
    obtain ⟨Ha, Hb, N, _⟩ := H
    have e2 : pt_sz (pt_let u x a b) = pt_sz a + pt_sz b + 1 := rfl
    rw [e2] at hnd ht bT bV ⊢
    have pa := pt_sz_pos a
    have pb := pt_sz_pos b
    have e1 : p + (pt_sz a + pt_sz b + 1) - 1 = p + pt_sz a + pt_sz b := by omega
    rw [e1] at ht
    have hq := D.2.1.2.1
    have hs := D.1.1.1
    obtain ⟨Sa, Sb, t1, t2, t3, _⟩ := rv_SF_let ta tb S
    have q := rd _ (w1o T hS) N (by omega)
    have g0 : fm_Machine_go o ((p + pt_sz a + pt_sz b : Nat) : Int) ((0 : Nat) : Int) (fa_st w 47 1 (T : Int)) = some (fm_Machine_beginPart o ((p + pt_sz a + pt_sz b : Nat) : Int) ((0 : Nat) : Int) (fa_st w 47 1 (T : Int))) := by
      rw [px_goL q.1]
      unfold fm_Machine_goLet
      rw [px_k1 (by omega), if_pos (by omega)]
      rfl
    obtain ⟨w1, n1, S1, T1, u1, u2, k1, v1⟩ := px_part1 (how := how) (pi := p + pt_sz a - 1) hsc hS (by omega) (by omega) (by omega) hT (by omega) (by rw [ht]; rfl) g0 (fun w2 e => (rd w2 e N (by omega)).2.2.1)
    have Da := rv_DF_1 (b := a) D (fun v q => Or.inl q) (fun v q => Or.inr (Or.inl q))
    have Q1 := iha h hh il s p (T + 1) V w1 Sa Da d1 Ha (by omega) S1 T1 u2 (by rw [(v1 1).1]; exact hV) (by omega) (by omega)
    have Q2 := px_rQ_bd (K2 := 3 * pt_sz b + 1) (T := T) (V := V) (f := fun a s1 => rv_bt ap en b il (rv_put s1 (rv_j il) u a)) Q1 (by omega) (Nat.le_refl _) (fun x s1 w2 er l1 S2 T2 V2 k2 v2 x2 => by
      have R := rv_ok_in hen a ta h il s Sa Da x s1 er
      obtain ⟨D2, g2, f2, j2⟩ := rv_let_2 ta tb S D R
      have s1h := R.1.1.1
      obtain ⟨w3, n3, S3, T3, u3, V3, k3, v3⟩ := px_lt1 (how := how) (pi := p + pt_sz a + pt_sz b - 1) hsc hin S2 (by omega) (by omega) (i := p + pt_sz a + pt_sz b) (by omega) T2 (by omega) (by rw [k2 T (by omega), u1]) V2 (by omega) rfl t3 x2 (fun i v c q => ⟨(R.1.2.2 i v c q).1, (R.1.2.2 i v c q).2.1⟩) (fun w4 e => by
        have q4 := rd w4 e N (by omega)
        exact ⟨q4.1, q4.2.1, q4.2.2.2.1⟩)
      have Q3 := ihb h hh il _ (p + pt_sz a) T V w3 Sb D2 (show 100 ≤ d + s1.1 by omega) Hb (by omega) S3 T3 u3 V3 (by omega) (by omega)
      exact px_rQ_mono (by omega) (px_rQ_pre (Nat.le_refl _) n3 k3 (fun j _ => v3 j) Q3))
    exact px_rQ_mono (by omega) (px_rQ_pre (Nat.le_refl _) n1 k1 (fun j _ => (v1 j).2) Q2)
  | op sg a b ta tb iha ihb =>
    intro h hh il s p T V w S D d1 H hnd hS hT ht hV bT bV
    obtain ⟨Ha, Hb, N⟩ := H
    have e2 : pt_sz (pt_op sg a b) = pt_sz a + pt_sz b + 1 := rfl
    rw [e2] at hnd ht bT bV ⊢
    have pa := pt_sz_pos a
    have pb := pt_sz_pos b
    have e1 : p + (pt_sz a + pt_sz b + 1) - 1 = p + pt_sz a + pt_sz b := by omega
    rw [e1] at ht
    have hq := D.2.1.2.1
    have hs := D.1.1.1
    obtain ⟨Sa, Sb, t1, t2, hsg, t3⟩ := rv_SF_op ta tb S
    have g0 : ∀ (ph : Nat) (w1 : fa_W), ph < 2 → (∀ i j, ¬ (44 ≤ i ∧ i ≤ 54) → w1 i j = w0 i j) → fm_Machine_go o ((p + pt_sz a + pt_sz b : Nat) : Int) (ph : Int) w1 = some (fm_Machine_beginPart o ((p + pt_sz a + pt_sz b : Nat) : Int) (ph : Int) w1) := fun ph w1 hph e => by
      rw [px_goO (rd w1 e N (by omega)).1]
      unfold fm_Machine_goOperator
      rw [px_k1 (by omega), if_neg (by omega)]
      rfl
    obtain ⟨w1, n1, S1, T1, u1, u2, k1, v1⟩ := px_part1 (how := how) (pi := p + pt_sz a - 1) hsc hS (by omega) (by omega) (by omega) hT (by omega) (by rw [ht]; rfl) (g0 0 _ (by omega) (w1o T hS)) (fun w2 e => (rd w2 e N (by omega)).2.2.1)
    have Da := rv_DF_1 (b := a) D (fun v q => Or.inl q) (fun v q => Or.inl q)
    have Q1 := iha h hh il s p (T + 1) V w1 Sa Da d1 Ha (by omega) S1 T1 u2 (by rw [(v1 1).1]; exact hV) (by omega) (by omega)
    have Q2 := px_rQ_bd (K2 := 3 * pt_sz b + 2) (T := T) (V := V) (f := fun a s1 => rv_bd (rv_bt ap en b il s1) fun b s2 => rv_oo sg il a.1 b.1 s2) Q1 (by omega) (Nat.le_refl _) (fun x s1 w2 er l1 S2 T2 V2 k2 v2 x2 => by
      have R := rv_ok_in hen a ta h il s Sa Da x s1 er
      have xv := px_rE_i x2 (rv_TY_int hP (by rw [← t1]; exact R.2.2.1))
      have s1h := R.1.1.1
      obtain ⟨w3, n3, S3, T3, u3, u4, k3, v3⟩ := px_part1 (how := how) (pi := p + pt_sz a + pt_sz b - 1) hsc S2 (i := p + pt_sz a + pt_sz b) (by omega) (by omega) (by omega) T2 (by omega) (by rw [k2 T (by omega), u1]) (g0 1 _ (by omega) (w1o T S2)) (fun w2 e => (rd w2 e N (by omega)).2.2.2.1)
      have Db := rv_DF_nx (b := b) D R (fun v q => Or.inr q) (fun v q => Or.inr q) t3
      have Q3 := ihb h hh il s1 (p + pt_sz a) (T + 1) (V + 1) w3 Sb Db (by omega) Hb (by omega) S3 T3 u4 (by rw [(v3 1).1]; exact V2) (by omega) (by omega)
      have Q4 := px_rQ_bd (K2 := 1) (T := T) (V := V) (f := fun b s2 => rv_oo sg il x.1 b.1 s2) Q3 (by omega) (by omega) (fun y s2 w4 er2 l2 S4 T4 V4 k4 v4 y4 => by
        have Q := rv_ok_in hen b tb h il s1 Sb Db y s2 er2
        have yv := px_rE_i y4 (rv_TY_int hP (by rw [← t2]; exact Q.2.2.1))
        exact px_op2 hsc hsg S4 (i := p + pt_sz a + pt_sz b) (by omega) T4 (by omega) (by rw [k4 T (by omega), u3]) V4 (by omega) (by rw [v4 V (by omega), (v3 V).2]; exact xv) yv (fun w5 e => by
          have q4 := rd w5 e N (by omega)
          exact ⟨q4.1, q4.2.1⟩))
      exact px_rQ_mono (by omega) (px_rQ_pre (Nat.le_refl _) n3 k3 (fun j _ => (v3 j).2) Q4))
    exact px_rQ_mono (by omega) (px_rQ_pre (Nat.le_refl _) n1 k1 (fun j _ => (v1 j).2) Q2)
  | site sg a b ta tb iha ihb =>
    intro h hh il s p T V w S D d1 H hnd hS hT ht hV bT bV
    obtain ⟨Ha, Hb, N, _⟩ := H
    have e2 : pt_sz (pt_site sg a b) = pt_sz a + pt_sz b + 1 := rfl
    rw [e2] at hnd ht bT bV ⊢
    have pa := pt_sz_pos a
    have pb := pt_sz_pos b
    have e1 : p + (pt_sz a + pt_sz b + 1) - 1 = p + pt_sz a + pt_sz b := by omega
    rw [e1] at ht
    have hq := D.2.1.2.1
    have hj := D.2.1.1
    have hs := D.1.1.1
    obtain ⟨Sa, Sb, t1, t3⟩ := rv_SF_site ta tb S
    have g0 : ∀ (ph : Nat) (w1 : fa_W), ph < 2 → (∀ i j, ¬ (44 ≤ i ∧ i ≤ 54) → w1 i j = w0 i j) → fm_Machine_go o ((p + pt_sz a + pt_sz b : Nat) : Int) (ph : Int) w1 = some (fm_Machine_beginPart o ((p + pt_sz a + pt_sz b : Nat) : Int) (ph : Int) w1) := fun ph w1 hph e => by
      rw [px_goS (rd w1 e N (by omega)).1]
      unfold fm_Machine_goSite
      rw [px_k1 (by omega), if_neg (by omega)]
      rfl
    obtain ⟨w1, n1, S1, T1, u1, u2, k1, v1⟩ := px_part1 (how := how) (pi := p + pt_sz a - 1) hsc hS (by omega) (by omega) (by omega) hT (by omega) (by rw [ht]; rfl) (g0 0 _ (by omega) (w1o T hS)) (fun w2 e => (rd w2 e N (by omega)).2.2.1)
    have Da := rv_DF_1 (b := a) D (fun v q => Or.inl q) (fun v q => Or.inl q)
    have Q1 := iha h hh il s p (T + 1) V w1 Sa Da d1 Ha (by omega) S1 T1 u2 (by rw [(v1 1).1]; exact hV) (by omega) (by omega)
    have Q2 := px_rQ_bd (K2 := 3 * pt_sz b + 2) (T := T) (V := V) (f := fun a s1 => rv_bd (rv_bt ap en b il s1) fun b s2 => rv_sx ap en il a b s2) Q1 (by omega) (Nat.le_refl _) (fun x s1 w2 er l1 S2 T2 V2 k2 v2 x2 => by
      have R := rv_ok_in hen a ta h il s Sa Da x s1 er
      have s1h := R.1.1.1
      obtain ⟨w3, n3, S3, T3, u3, u4, k3, v3⟩ := px_part1 (how := how) (pi := p + pt_sz a + pt_sz b - 1) hsc S2 (i := p + pt_sz a + pt_sz b) (by omega) (by omega) (by omega) T2 (by omega) (by rw [k2 T (by omega), u1]) (g0 1 _ (by omega) (w1o T S2)) (fun w2 e => (rd w2 e N (by omega)).2.2.2.1)
      have Db := rv_DF_nx (b := b) D R (fun v q => Or.inr q) (fun v q => Or.inr q) t3
      have Q3 := ihb h hh il s1 (p + pt_sz a) (T + 1) (V + 1) w3 Sb Db (by omega) Hb (by omega) S3 T3 u4 (by rw [(v3 1).1]; exact V2) (by omega) (by omega)
      have Q4 := px_rQ_bd (K2 := 1) (T := T) (V := V) (f := fun b s2 => rv_sx ap en il x b s2) Q3 (by omega) (by omega) (fun y s2 w4 er2 l2 S4 T4 V4 k4 v4 y4 => by
        have Q := rv_ok_in hen b tb h il s1 Sb Db y s2 er2
        exact px_st2 (i := p + pt_sz a + pt_sz b) hX hN Q.1 (by omega) (by omega) (by omega) (by rw [← t1]; exact rv_TY_gr Q.2.1 R.2.2.1) Q.2.2.1 harr S4 (by omega) T4 (by rw [k4 T (by omega), u3]) V4 (by omega) (by omega) (by rw [v4 V (by omega), (v3 V).2]) rfl (px_rE_m l2 x2) y4 (fun w5 e => (rd w5 e N (by omega)).1))
      exact px_rQ_mono (by omega) (px_rQ_pre (Nat.le_refl _) n3 k3 (fun j _ => (v3 j).2) Q4))
    exact px_rQ_mono (by omega) (px_rQ_pre (Nat.le_refl _) n1 k1 (fun j _ => (v1 j).2) Q2)
