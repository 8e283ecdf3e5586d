theorem pm_run_in {how : Int} {G nf nv ns d : Nat} {fb : Nat → pt_T} {r : pv_R} {hb ho : Nat → Int} {ap : Nat → Bool} {en : Nat → rv_V → Int → rv_I → rv_S → rv_O} {w0 : fa_W} (hP : rv_PF G nf nv ns fb r hb ho) (hX : pm_rP how nf nv fb hb ap w0) (hen : rv_EN G nf nv fb r hb ho en) (hN : pm_rN how G nf nv fb r hb ho w0 d en) (t : pt_T) (tt : pt_tw t) : ∀ (h : Int) (il : rv_I) (s : rv_S) (c V : Nat) (w : fa_W), rv_SF G nf nv ns fb r hb ho t h → rv_DF G nf nv fb r hb ho t h il s → 100 ≤ d + s.1 → pm_cd t c w0 → c + pm_cz t < 500 → pm_rS hb w0 il s w → w 181 86 = (V : Int) → 2 * V + pt_sz t + 1 ≤ 102 * (il.length + 1) → pm_rQ how hb w0 (pm_cz t) c (c + pm_cz t) V il s w (rv_bt ap en t il s) := by
  obtain ⟨⟨hh1, hh2⟩, hB, hhb, h124, h24, hp0, hp1⟩ := id hX
  induction t, tt using pt_indh with
  | num v =>
    intro h il s c V w S D d1 H hc hS hV bV
    have e3 : pm_cz (pt_num v) = 1 := rfl
    have hq := D.2.1.2.1
    have hs := D.1.1.1
    refine pm_rQ_leaf (a := ((v : Int), -1, -1)) hS hV (by omega) (by omega) (fun F => ?_)
    conv => lhs; unfold fm_Mod_runs_l57
    rw [hS.2.1.2.2.2.2.2.1, if_pos (by decide), pb_ix (show c < 500 by omega) (by omega), Option.bind_some, hS.1 222 c (by omega) (by omega), H.2, pf_let_eq, Option.bind_some, hS.1 221 c (by omega) (by omega), H.1, pf_let_eq, pf_let_eq, if_pos (by decide)]
  | var v x =>
    intro h il s c V w S D d1 H hc hS hV bV
    have e3 : pm_cz (pt_var v x) = 1 := rfl
    have hq := D.2.1.2.1
    have hj := D.2.1.1
    have hs := D.1.1.1
    show pm_rQ how hb w0 1 c (c + 1) V il s w (.ok ((s.2.1 (rv_j il) v).getD (0, -1, -1)), s)
    cases z : s.2.1 (rv_j il) v with
    | none => exact (D.2.2.1 v rfl z).elim
    | some y =>
      obtain ⟨z1, z2, _, _, k, k1, k2, k3, k4⟩ := D.1.2.2 _ v y z
      have b1 := hhb v z2
      have b23 : -1 ≤ hb v ∧ hb v < 24 := by
        have := D.1.2.1 k k1
        rw [k3] at this
        exact ⟨this.1, by omega⟩
      have hfr : fm_Mod_frameOfBinder (v : Int) (rv_j il : Int) w = some (k : Int) := pm_wk (n := s.1) (h := hb v) hs (by omega) b23 (by rw [hS.1 193 v (by omega) (by omega)]; exact b1) hS.2.2.1 (fun i hi => by
        have := D.1.2.1 i hi
        exact ⟨this.1, by omega, this.2.2.2⟩) (rv_j il + 1) (rv_j il) k fa_FU hj k2 (by unfold fa_FU; omega)
      obtain ⟨q1, q2, q3⟩ := hS.2.2.2.2 k v y k4 k3
      have e2 : (124 : Int) * (k : Int) + (v : Int) = ((124 * k + v : Nat) : Int) := by omega
      refine pm_rQ_leaf (a := y) hS hV (by omega) (by omega) (fun F => ?_)
      conv => lhs; unfold fm_Mod_runs_l57
      rw [hS.2.1.2.2.2.2.2.1, if_pos (by decide), pb_ix (show c < 500 by omega) (by omega), Option.bind_some, hS.1 222 c (by omega) (by omega), H.2, pf_let_eq, Option.bind_some, hS.1 221 c (by omega) (by omega), H.1, pf_let_eq, pf_let_eq, if_neg (by decide), if_pos (by decide), hfr, Option.bind_some, pf_let_eq, e2, pb_ix (show 124 * k + v < 13640 by omega) (by omega), Option.bind_some, Option.bind_some, Option.bind_some, q1, q2, q3]
  | glo g x =>
    intro h il s c V w S D d1 H hc hS hV bV
    have e3 : pm_cz (pt_glo g x) = 1 := rfl
    have hq := D.2.1.2.1
    have hs := D.1.1.1
    refine pm_rQ_leaf (a := (0, (g : Int), -1)) hS hV (by omega) (by omega) (fun F => ?_)
    conv => lhs; unfold fm_Mod_runs_l57
    rw [hS.2.1.2.2.2.2.2.1, if_pos (by decide), pb_ix (show c < 500 by omega) (by omega), Option.bind_some, hS.1 222 c (by omega) (by omega), H.2, pf_let_eq, Option.bind_some, hS.1 221 c (by omega) (by omega), H.1, pf_let_eq, pf_let_eq, if_neg (by decide), if_neg (by decide), if_pos (by decide)]
  | dead dd =>
    intro h il s c V w S D d1 H hc hS hV bV
    have e3 : pm_cz (pt_dead dd) = 1 := rfl
    have H' : w0 221 c = 3 := H
    have g : pm_go how 1 (rv_j il) c w (rv_j il) (c + 1) (fa_st w 181 92 ((3 : Nat) : Int)) := fun F => by
      conv => lhs; unfold fm_Mod_runs_l57
      rw [hS.2.1.2.2.2.2.2.1, if_pos (by decide), pb_ix (show c < 500 by omega) (by omega), Option.bind_some, pf_let_eq, Option.bind_some, hS.1 221 c (by omega) (by omega), H', pf_let_eq, pf_let_eq, if_neg (by decide), if_neg (by decide), if_neg (by decide), if_pos (by decide)]
      rfl
    exact pm_rQ_err (e := 3) (by omega) g (pm_rF_of hS (fa_st_eq _ _ _ _) (fun i j p q => fa_st_ne (by omega)))
  | lam f x b tb ih =>
    intro h il s c V w S D d1 H hc hS hV bV
    have e3 : pm_cz (pt_lam f x b) = 1 := rfl
    have hq := D.2.1.2.1
    have hs := D.1.1.1
    refine pm_rQ_leaf (a := (0, (f : Int), (rv_j il : Int))) hS hV (by omega) (by omega) (fun F => ?_)
    conv => lhs; unfold fm_Mod_runs_l57
    rw [hS.2.1.2.2.2.2.2.1, if_pos (by decide), pb_ix (show c < 500 by omega) (by omega), Option.bind_some, hS.1 222 c (by omega) (by omega), H.2, pf_let_eq, Option.bind_some, hS.1 221 c (by omega) (by omega), H.1, pf_let_eq, pf_let_eq, if_neg (by decide), if_neg (by decide), if_neg (by decide), if_neg (by decide), if_pos (by decide)]
  | ife a b e ta tb te iha ihb ihe =>
    intro h il s c V w S D d1 H hc hS hV bV
    obtain ⟨Ha, c1, c2, Hb, c3, c4, He⟩ := H
    have e2 : pt_sz (pt_ife a b e) = pt_sz a + pt_sz b + pt_sz e + 1 := rfl
    have e3 : pm_cz (pt_ife a b e) = pm_cz a + 1 + pm_cz b + 1 + pm_cz e := rfl
    rw [e2] at bV
    rw [e3] at hc ⊢
    have pa := pt_sz_pos a
    have pb := pt_sz_pos b
    have pe := pt_sz_pos e
    have za := (pm_cz_pos e te).1
    have hq := D.2.1.2.1
    have hs := D.1.1.1
    obtain ⟨Sa, Sb, Se, t1, t2, t3, t4⟩ := rv_SF_ife ta tb te S
    have Da := rv_DF_1 (b := a) D (fun v q => Or.inl q) (fun v q => Or.inl q)
    have Q1 := iha h il s c V w Sa Da d1 Ha (by omega) hS hV (by omega)
    have Q2 := pm_rQ_bd (K2 := pm_cz b + pm_cz e + 2) (c' := c + (pm_cz a + 1 + pm_cz b + 1 + pm_cz e)) (V := V) (f := fun v s1 => if fa_wr v.1 = 0 then rv_bt ap en e il s1 else rv_bt ap en b il s1) Q1 (Nat.le_refl _) (fun x s1 w2 er l1 S2 V2 v2 x2 => by
      have R := rv_ok_in hen a ta h il s Sa Da x s1 er
      have s1h := R.1.1.1
      have e86 : w2 181 86 - 1 = (V : Int) := by rw [V2]; omega
      have jmp : ∀ F : Nat, fm_Mod_runs_l57 how (F + 1) (rv_j il : Int) ((c + pm_cz a : Nat) : Int) w2 = if fa_wr x.1 = 0 then fm_Mod_runs_l57 how F (rv_j il : Int) ((c + pm_cz a + 1 + pm_cz b + 1 : Nat) : Int) (fa_st w2 181 86 (V : Int)) else fm_Mod_runs_l57 how F (rv_j il : Int) (((c + pm_cz a : Nat) : Int) + 1) (fa_st w2 181 86 (V : Int)) := fun F => by
        conv => lhs; unfold fm_Mod_runs_l57
        rw [S2.2.1.2.2.2.2.2.1, if_pos (by decide), pb_ix (show c + pm_cz a < 500 by omega) (by omega), Option.bind_some, S2.1 222 _ (by omega) (by omega), c2, pf_let_eq, Option.bind_some, S2.1 221 _ (by omega) (by omega), c1, pf_let_eq, pf_let_eq, if_neg (by decide), if_neg (by decide), if_neg (by decide), if_neg (by decide), if_neg (by decide), if_neg (by decide), if_neg (by decide), if_neg (by decide), if_pos (by decide), e86, pf_let_eq, fa_st_eq, pb_ix (show V < 55000 by omega) (by omega), Option.bind_some, fa_st_ne (by omega), x2.1]
      have S3 : pm_rS hb w0 il s1 (fa_st w2 181 86 (V : Int)) := pm_rS_of S2 (fun i j p q => fa_st_ne q)
      have k3 : ∀ j, j < V → fa_st w2 181 86 (V : Int) 226 j = w2 226 j ∧ fa_st w2 181 86 (V : Int) 227 j = w2 227 j ∧ fa_st w2 181 86 (V : Int) 228 j = w2 228 j := fun j _ => ⟨fa_st_ne (by omega), fa_st_ne (by omega), fa_st_ne (by omega)⟩
      have k4 : ∀ j, j < il.length → fa_st w2 181 86 (V : Int) 234 j = w2 234 j ∧ fa_st w2 181 86 (V : Int) 235 j = w2 235 j := fun j _ => ⟨fa_st_ne (by omega), fa_st_ne (by omega)⟩
      by_cases z : fa_wr x.1 = 0
      · rw [if_pos z]
        have g : pm_go how 1 (rv_j il) (c + pm_cz a) w2 (rv_j il) (c + pm_cz a + 1 + pm_cz b + 1) (fa_st w2 181 86 (V : Int)) := fun F => by rw [jmp F, if_pos z]
        have Q3 := ihe h il s1 (c + pm_cz a + 1 + pm_cz b + 1) V _ Se (rv_DF_nx D R (fun v q => Or.inr (Or.inr q)) (fun v q => Or.inr (Or.inr q)) t4) (by omega) He (by omega) S3 (fa_st_eq _ _ _ _) (by omega)
        rw [show c + pm_cz a + 1 + pm_cz b + 1 + pm_cz e = c + (pm_cz a + 1 + pm_cz b + 1 + pm_cz e) by omega] at Q3
        exact pm_rQ_mono (by omega) (pm_rQ_pre (Nat.le_refl _) g k3 k4 Q3)
      · rw [if_neg z]
        have g : pm_go how 1 (rv_j il) (c + pm_cz a) w2 (rv_j il) (c + pm_cz a + 1) (fa_st w2 181 86 (V : Int)) := fun F => by rw [jmp F, if_neg z]; rfl
        have Db := rv_DF_nx (b := b) D R (fun v q => Or.inr (Or.inl q)) (fun v q => Or.inr (Or.inl q)) t3
        have Q3 := ihb h il s1 (c + pm_cz a + 1) V _ Sb Db (by omega) Hb (by omega) S3 (fa_st_eq _ _ _ _) (by omega)
        have Q4 : pm_rQ how hb w0 (pm_cz b + 1) (c + pm_cz a + 1) (c + (pm_cz a + 1 + pm_cz b + 1 + pm_cz e)) V il s1 (fa_st w2 181 86 (V : Int)) (rv_bt ap en b il s1) := by
          obtain ⟨k, w', q1, q2, q3⟩ := Q3
          generalize rv_bt ap en b il s1 = ro at *
          obtain ⟨y, s'⟩ := ro
          cases y with
          | error er => exact ⟨k, w', by dsimp only at q1 ⊢; omega, q2, q3⟩
          | ok y =>
            obtain ⟨p1, p2, p3, p4, p5, p6⟩ := q3
            have g2 : pm_go how 1 (rv_j il) (c + pm_cz a + 1 + pm_cz b) w' (rv_j il) (c + (pm_cz a + 1 + pm_cz b + 1 + pm_cz e)) w' := fun F => by
              conv => lhs; unfold fm_Mod_runs_l57
              rw [p2.2.1.2.2.2.2.2.1, if_pos (by decide), pb_ix (show c + pm_cz a + 1 + pm_cz b < 500 by omega) (by omega), Option.bind_some, p2.1 222 _ (by omega) (by omega), c4, pf_let_eq, Option.bind_some, p2.1 221 _ (by omega) (by omega), c3, pf_let_eq, pf_let_eq, if_neg (by decide), if_neg (by decide), if_neg (by decide), if_neg (by decide), if_neg (by decide), if_neg (by decide), if_neg (by decide), if_neg (by decide), if_neg (by decide), if_pos (by decide)]
              rw [show c + pm_cz a + 1 + pm_cz b + 1 + pm_cz e = c + (pm_cz a + 1 + pm_cz b + 1 + pm_cz e) by omega]
            exact ⟨k + 1, w', by dsimp only at q1 ⊢; omega, q2, pm_go_tr p1 g2, p2, p3, p4, p5, p6⟩
        exact pm_rQ_mono (by omega) (pm_rQ_pre (Nat.le_refl _) g k3 k4 Q4))
    exact pm_rQ_mono (by omega) Q2
  | lt u x a b ta tb iha ihb =>
    intro h il s c V w S D d1 H hc hS hV bV
    obtain ⟨Ha, c1, c2, Hb⟩ := H
    have e2 : pt_sz (pt_let u x a b) = pt_sz a + pt_sz b + 1 := rfl
    have e3 : pm_cz (pt_let u x a b) = pm_cz a + 1 + pm_cz b := rfl
    rw [e2] at bV
    rw [e3] at hc ⊢
    have pa := pt_sz_pos a
    have pb := pt_sz_pos b
    have za := (pm_cz_pos b tb).1
    have hq := D.2.1.2.1
    have hj := D.2.1.1
    have hs := D.1.1.1
    obtain ⟨Sa, Sb, t1, t2, t3, _⟩ := rv_SF_let ta tb S
    have Da := rv_DF_1 (b := a) D (fun v q => Or.inl q) (fun v q => Or.inr (Or.inl q))
    have Q1 := iha h il s c V w Sa Da d1 Ha (by omega) hS hV (by omega)
    have Q2 := pm_rQ_bd (K2 := pm_cz b + 1) (c' := c + (pm_cz a + 1 + pm_cz b)) (V := V) (f := fun a s1 => rv_bt ap en b il (rv_put s1 (rv_j il) u a)) Q1 (Nat.le_refl _) (fun y s1 w2 er l1 S2 V2 v2 x2 => by
      have R := rv_ok_in hen a ta h il s Sa Da y s1 er
      obtain ⟨D2, g2, f2, j2⟩ := rv_let_2 ta tb S D R
      have s1h := R.1.1.1
      obtain ⟨w3, g1, g3, g4, g5, g6, g7⟩ := pm_holdsIn (V := V) (j := rv_j il) (v := u) (w := w2) V2 (by omega) (by omega)
      have g : pm_go how 1 (rv_j il) (c + pm_cz a) w2 (rv_j il) (c + pm_cz a + 1) w3 := fun F => by
        conv => lhs; unfold fm_Mod_runs_l57
        rw [S2.2.1.2.2.2.2.2.1, if_pos (by decide), pb_ix (show c + pm_cz a < 500 by omega) (by omega), Option.bind_some, S2.1 222 _ (by omega) (by omega), c2, pf_let_eq, Option.bind_some, S2.1 221 _ (by omega) (by omega), c1, pf_let_eq, pf_let_eq, if_neg (by decide), if_neg (by decide), if_neg (by decide), if_neg (by decide), if_neg (by decide), if_pos (by decide), g1]
        rfl
      have S3 : pm_rS hb w0 il (rv_put s1 (rv_j il) u y) w3 := by
        obtain ⟨o, ⟨a1, a2, a3, a4, a5, a6, a7⟩, h2, h3, h4⟩ := S2
        refine ⟨fun i j p q => (g7 i j (by omega) (by omega)).trans (o i j p q), ⟨?_, ?_, ?_, ?_, ?_, ?_, ?_⟩, fun i hi => ?_, fun i x q => ?_, fun k v z q q2 => ?_⟩
        all_goals first | (rw [g7 _ _ (by omega) (by omega)]; assumption) | skip
        · rw [g7 _ _ (by omega) (by omega), g7 _ _ (by omega) (by omega)]; exact h2 i hi
        · rw [g7 _ _ (by omega) (by omega)]; exact h3 i x q
        · change (if k = rv_j il ∧ v = u then some y else s1.2.1 k v) = some z at q
          by_cases zz : k = rv_j il ∧ v = u
          · rw [if_pos zz] at q
            cases q
            rw [zz.1, zz.2, g3, g4, g5]
            exact x2
          · rw [if_neg zz] at q
            have hkv := R.1.2.2 k v z q
            rw [g7 _ _ (by omega) (by omega), g7 _ _ (by omega) (by omega), g7 _ _ (by omega) (by omega)]
            exact h4 k v z q q2
      have Q3 := ihb h il _ (c + pm_cz a + 1) V w3 Sb D2 (show 100 ≤ d + s1.1 by omega) Hb (by omega) S3 g6 (by omega)
      rw [show c + pm_cz a + 1 + pm_cz b = c + (pm_cz a + 1 + pm_cz b) by omega] at Q3
      exact pm_rQ_mono (by omega) (pm_rQ_pre (Nat.le_refl _) g (fun j _ => ⟨g7 _ _ (by omega) (by omega), g7 _ _ (by omega) (by omega), g7 _ _ (by omega) (by omega)⟩) (fun j _ => ⟨g7 _ _ (by omega) (by omega), g7 _ _ (by omega) (by omega)⟩) Q3))
    exact pm_rQ_mono (by omega) Q2
  | op sg a b ta tb iha ihb =>
    intro h il s c V w S D d1 H hc hS hV bV
    obtain ⟨Ha, Hb, c1, c2⟩ := H
    have e2 : pt_sz (pt_op sg a b) = pt_sz a + pt_sz b + 1 := rfl
    have e3 : pm_cz (pt_op sg a b) = pm_cz a + pm_cz b + 1 := rfl
    rw [e2] at bV
    rw [e3] at hc ⊢
    have pa := pt_sz_pos a
    have pb := pt_sz_pos b
    have hq := D.2.1.2.1
    have hs := D.1.1.1
    obtain ⟨Sa, Sb, t1, t2, hsg, t3⟩ := rv_SF_op ta tb S
    have Da := rv_DF_1 (b := a) D (fun v q => Or.inl q) (fun v q => Or.inl q)
    have Q1 := iha h il s c V w Sa Da d1 Ha (by omega) hS hV (by omega)
    have Q2 := pm_rQ_bd (K2 := pm_cz b + 1) (c' := c + (pm_cz a + pm_cz b + 1)) (V := V) (f := fun a s1 => rv_bd (rv_bt ap en b il s1) fun b s2 => rv_oo sg il a.1 b.1 s2) Q1 (Nat.le_refl _) (fun y s1 w2 er l1 S2 V2 v2 x2 => by
      have R := rv_ok_in hen a ta h il s Sa Da y s1 er
      have s1h := R.1.1.1
      have Db := rv_DF_nx (b := b) D R (fun v q => Or.inr q) (fun v q => Or.inr q) t3
      have Q3 := ihb h il s1 (c + pm_cz a) (V + 1) w2 Sb Db (by omega) Hb (by omega) S2 V2 (by omega)
      exact pm_rQ_bd (K2 := 1) (V := V) (f := fun b s2 => rv_oo sg il y.1 b.1 s2) Q3 (by omega) (fun y2 s2 w4 er2 l2 S4 V4 v4 y4 => by
        have := pm_op2 (how := how) (c := c + pm_cz a + pm_cz b) hsg S4 V4 (by omega) (by omega) (by rw [S4.1 221 _ (by omega) (by omega)]; exact c1) (by rw [S4.1 222 _ (by omega) (by omega)]; exact c2) ((v4 V (by omega)).1.trans x2.1) y4.1
        rw [show c + pm_cz a + pm_cz b + 1 = c + (pm_cz a + pm_cz b + 1) by omega] at this
        exact this))
    exact pm_rQ_mono (by omega) Q2
  | site sg a b ta tb iha ihb =>
    intro h il s c V w S D d1 H hc hS hV bV
    obtain ⟨Ha, Hb, c1⟩ := H
    have e2 : pt_sz (pt_site sg a b) = pt_sz a + pt_sz b + 1 := rfl
    have e3 : pm_cz (pt_site sg a b) = pm_cz a + pm_cz b + 1 := rfl
    rw [e2] at bV
    rw [e3] at hc ⊢
    have pa := pt_sz_pos a
    have pb := pt_sz_pos b
    have hq := D.2.1.2.1
    have hj := D.2.1.1
    have hs := D.1.1.1
    obtain ⟨Sa, Sb, t1, t3⟩ := rv_SF_site ta tb S
    have Da := rv_DF_1 (b := a) D (fun v q => Or.inl q) (fun v q => Or.inl q)
    have Q1 := iha h il s c V w Sa Da d1 Ha (by omega) hS hV (by omega)
    have Q2 := pm_rQ_bd (K2 := pm_cz b + 1) (c' := c + (pm_cz a + pm_cz b + 1)) (V := V) (f := fun a s1 => rv_bd (rv_bt ap en b il s1) fun b s2 => rv_sx ap en il a b s2) Q1 (Nat.le_refl _) (fun y s1 w2 er l1 S2 V2 v2 x2 => by
      have R := rv_ok_in hen a ta h il s Sa Da y s1 er
      have s1h := R.1.1.1
      have Db := rv_DF_nx (b := b) D R (fun v q => Or.inr q) (fun v q => Or.inr q) t3
      have Q3 := ihb h il s1 (c + pm_cz a) (V + 1) w2 Sb Db (by omega) Hb (by omega) S2 V2 (by omega)
      exact pm_rQ_bd (K2 := 1) (V := V) (f := fun b s2 => rv_sx ap en il y b s2) Q3 (by omega) (fun y2 s2 w4 er2 l2 S4 V4 v4 y4 => by
        have Q := rv_ok_in hen b tb h il s1 Sb Db y2 s2 er2
        have vv := v4 V (by omega)
        have := pm_st2 (c := c + pm_cz a + pm_cz b) (V := V) hX hN Q.1 (by omega) (by omega) (by omega) (by rw [← t1]; exact rv_TY_gr Q.2.1 R.2.2.1) Q.2.2.1 S4 V4 (by omega) (by omega) (by rw [S4.1 221 _ (by omega) (by omega)]; exact c1) ⟨vv.1.trans x2.1, vv.2.1.trans x2.2.1, vv.2.2.trans x2.2.2⟩ y4
        rw [show c + pm_cz a + pm_cz b + 1 = c + (pm_cz a + pm_cz b + 1) by omega] at this
        exact this))
    exact pm_rQ_mono (by omega) Q2
