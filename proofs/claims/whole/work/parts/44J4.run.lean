/-! the reference's machine: one EXPR -/
def pm_rP (how : Int) (nf nv : Nat) (fb : Nat → pt_T) (hb : Nat → Int) (ap : Nat → Bool) (w0 : fa_W) : Prop := (0 ≤ how ∧ how ≤ 3) ∧ (∀ f, f < nf → ∃ c : Nat, c + pm_cz (fb f) < 500 ∧ w0 223 f = (c : Int) ∧ pm_cd (fb f) c w0 ∧ w0 221 (c + pm_cz (fb f)) = 11) ∧ (∀ v, v < nv → w0 193 v = hb v) ∧ nv ≤ 124 ∧ nf ≤ 24 ∧ (how = 0 → ∀ f, f < nf → ap f = true) ∧ (how ≠ 0 → ∀ f, f < nf → ∀ w, fm_Mod_holds (fa_iand (w0 181 53) (w0 181 52)) (f : Int) w = ap f)
def pm_rN (how : Int) (G nf nv : Nat) (fb : Nat → pt_T) (r : pv_R) (hb ho : Nat → Int) (w0 : fa_W) (d : Nat) (en : Nat → rv_V → Int → rv_I → rv_S → rv_O) : Prop := ∀ (il : rv_I) (s : rv_S) (a b : rv_V) (T X : pv_T) (Vn c : Nat) (w : fa_W), rv_ST G nf nv fb r hb ho s → s.1 ≠ 100 → 100 ≤ d + s.1 → rv_j il ≤ s.1 → il.length ≤ s.1 → rv_TY G nf fb r ho s a (pv_ar T X) → rv_TY G nf fb r ho s b T → pm_rS hb w0 il s w → w 181 86 = ((Vn + 2 : Nat) : Int) → 2 * Vn ≤ 102 * (il.length + 1) → (w 226 Vn = a.1 ∧ w 227 Vn = a.2.1 ∧ w 228 Vn = a.2.2) → (w 226 (Vn + 1) = b.1 ∧ w 227 (Vn + 1) = b.2.1 ∧ w 228 (Vn + 1) = b.2.2) → c < 499 → ∃ (w3 : fa_W) (cf : Nat), (∀ F : Nat, fm_Mod_runs_j350 how (fun x2 x3 w9 => fm_Mod_runs_l57 how F x2 x3 w9) (rv_j il : Int) ((c : Int) + 1) a.2.1 a.2.2 w = fm_Mod_runs_l57 how F ((s.1 + 1 : Nat) : Int) (cf : Int) w3) ∧ ∃ k w', k ≤ 301 + 302 * ((en a.2.1.toNat b a.2.2 il s).2.1 - (s.1 + 1)) ∧ s.1 + 1 ≤ (en a.2.1.toNat b a.2.2 il s).2.1 ∧ match (en a.2.1.toNat b a.2.2 il s).1 with
  | .ok v => pm_go how k (s.1 + 1) cf w3 (rv_j il) (c + 1) w' ∧ pm_rS hb w0 il (en a.2.1.toNat b a.2.2 il s).2 w' ∧ w' 181 86 = ((Vn + 1 : Nat) : Int) ∧ (∀ j, j < Vn → w' 226 j = w 226 j ∧ w' 227 j = w 227 j ∧ w' 228 j = w 228 j) ∧ (w' 226 Vn = v.1 ∧ w' 227 Vn = v.2.1 ∧ w' 228 Vn = v.2.2) ∧ ∀ j, j < il.length → w' 234 j = w 234 j ∧ w' 235 j = w 235 j
  | .error e => ∃ n1 c1, pm_go how k (s.1 + 1) cf w3 n1 c1 w' ∧ pm_rF w0 e.1 e.2 (en a.2.1.toNat b a.2.2 il s).2 w'
theorem pm_rQ_err {how : Int} {hb : Nat → Int} {w0 : fa_W} {K k c c' n1 c1 V e : Nat} {il : rv_I} {s : rv_S} {w w' : fa_W} (hk : k ≤ K) (g : pm_go how k (rv_j il) c w n1 c1 w') (h : pm_rF w0 e il s w') : pm_rQ how hb w0 K c c' V il s w (.error (e, il), s) := ⟨k, w', by omega, Nat.le_refl _, n1, c1, g, h⟩
/-- two values are there: an operator -/
theorem pm_op2 {how : Int} {hb : Nat → Int} {w0 : fa_W} {c V sg : Nat} {il : rv_I} {s : rv_S} {w : fa_W} {a b : Int} (hsg : sg = 42 ∨ sg = 43 ∨ sg = 45 ∨ sg = 47 ∨ sg = 60) (hS : pm_rS hb w0 il s w) (hV : w 181 86 = ((V + 2 : Nat) : Int)) (hV2 : V + 2 < 55000) (hc : c < 500) (h1 : w 221 c = 7) (h2 : w 222 c = (sg : Int)) (ha : w 226 V = a) (hbb : w 226 (V + 1) = b) : pm_rQ how hb w0 1 c (c + 1) V il s w (rv_oo sg il a b s) := by
  have e1 : w 181 86 - 1 = ((V + 1 : Nat) : Int) := by rw [hV]; omega
  have e2 : w 181 86 - 2 = (V : Int) := by rw [hV]; omega
  have l : ∀ F : Nat, fm_Mod_runs_l57 how (F + 1) (rv_j il : Int) (c : Int) w = (fm_Mod_reckons (sg : Int) w).bind fun w1 => fm_Mod_runs_l57 how F (rv_j il : Int) ((c : Int) + 1) w1 := fun F => by
    conv => lhs; unfold fm_Mod_runs_l57
    rw [hS.2.1.2.2.2.2.2.1, if_pos (by decide), pb_ix hc (by omega), Option.bind_some, h2, pf_let_eq, Option.bind_some, h1, pf_let_eq, pf_let_eq, if_neg (by decide), if_neg (by decide), if_neg (by decide), if_neg (by decide), if_neg (by decide), if_neg (by decide), if_pos (by decide)]
  have eR : fm_Mod_reckons (sg : Int) w = if sg = 47 ∧ fa_wr b = 0 then some (fa_st w 181 92 2) else fm_Mod_reckons_j40 (sg : Int) b a w := by
    unfold fm_Mod_reckons
    rw [e1, pb_ix (by omega) (by omega), Option.bind_some, hbb, pf_let_eq, e2, pb_ix (by omega) (by omega), Option.bind_some, ha, pf_let_eq, pb_wr (by omega)]
    by_cases z : sg = 47
    · rw [if_pos (by omega)]
      by_cases z2 : fa_wr b = 0
      · rw [if_pos z2, if_pos ⟨z, z2⟩]; rfl
      · rw [if_neg z2, if_neg (fun q => z2 q.2)]
    · rw [if_neg (by omega), if_neg (fun q => z q.1)]
  obtain ⟨w1, hw1⟩ : ∃ w1, w1 = fa_st w 181 86 (V : Int) := ⟨_, rfl⟩
  have w1o : ∀ i j, ¬ (i = 181 ∧ j = 86) → w1 i j = w i j := fun i j q => by rw [hw1, fa_st_ne q]
  have w1V : w1 181 86 = (V : Int) := by rw [hw1, fa_st_eq]
  have fin : ∀ z : Int, fm_Mod_reckons (sg : Int) w = ((fm_Mod_puts z (-1) (-1) w1).bind fun w13 => some w13) → pm_rQ how hb w0 1 c (c + 1) V il s w (.ok (z, -1, -1), s) := fun z hz => by
    obtain ⟨w', p1, p2, p3, p4, p5, p6⟩ := pm_puts w1V (by omega) z (-1) (-1)
    refine ⟨1, w', by omega, Nat.le_refl _, fun F => ?_, pm_rS_of hS (fun i j p q => by rw [p6 i j (by omega) q, w1o i j q]), p5, fun j q => ⟨?_, ?_, ?_⟩, ⟨p2, p3, p4⟩, fun j q => ⟨?_, ?_⟩⟩
    · rw [l, hz, p1]
      rfl
    all_goals rw [p6 _ _ (by omega) (by omega), w1o _ _ (by omega)]
  have e3 : fm_Mod_reckons_j40 (sg : Int) b a w = (if fa_wr (sg : Int) = 43 then fm_Mod_reckons_j109 (sg : Int) (a + b) w1 else (if fa_wr (sg : Int) = 45 then fm_Mod_reckons_j109 (sg : Int) (a - b) w1 else (if fa_wr (sg : Int) = 42 then fm_Mod_reckons_j109 (sg : Int) (a * b) w1 else (if fa_wr (sg : Int) = 47 then (if fa_wr b = 0 then none else fm_Mod_reckons_j109 (sg : Int) (fa_idiv a b) w1) else (if fa_wr b ≤ fa_wr a then fm_Mod_reckons_j109 (sg : Int) 0 w1 else fm_Mod_reckons_j109 (sg : Int) 1 w1))))) := by
    unfold fm_Mod_reckons_j40
    rw [e2, ← hw1]
    rfl
  rw [e3, pb_wr (by omega)] at eR
  unfold rv_oo rv_op
  rcases hsg with z | z | z | z | z
  · subst z
    rw [if_neg (by omega), if_neg (by omega), if_neg (by omega), if_pos (by omega)] at eR
    exact fin _ eR
  · subst z
    rw [if_neg (by omega), if_pos (by omega)] at eR
    exact fin _ eR
  · subst z
    rw [if_neg (by omega), if_neg (by omega), if_pos (by omega)] at eR
    exact fin _ eR
  · subst z
    rw [if_neg (by decide), if_neg (by decide), if_neg (by decide), if_neg (by decide)]
    by_cases z : fa_wr b = 0
    · rw [if_pos ⟨rfl, z⟩] at eR
      rw [if_pos z]
      have g : pm_go how 1 (rv_j il) c w (rv_j il) (c + 1) (fa_st w 181 92 2) := fun F => by rw [l, eR]; rfl
      exact pm_rQ_err (Nat.le_refl _) g (pm_rF_of hS (fa_st_eq _ _ _ _) (fun i j p q => fa_st_ne (by omega)))
    · rw [if_neg (fun q => z q.2), if_neg (by omega), if_neg (by omega), if_neg (by omega), if_pos (by omega), if_neg z] at eR
      rw [if_neg z]
      exact fin _ eR
  · subst z
    rw [if_neg (by omega), if_neg (by omega), if_neg (by omega), if_neg (by omega), if_neg (by omega)] at eR
    rw [if_neg (by decide), if_neg (by decide), if_neg (by decide), if_pos (by decide)]
    by_cases z : fa_wr b ≤ fa_wr a
    · rw [if_pos z] at eR ⊢
      exact fin 0 eR
    · rw [if_neg z] at eR ⊢
      exact fin 1 eR
/-- two values are there: a SITE -/
theorem pm_st2 {how : Int} {G nf nv d c V : Nat} {fb : Nat → pt_T} {r : pv_R} {hb ho : Nat → Int} {ap : Nat → Bool} {en : Nat → rv_V → Int → rv_I → rv_S → rv_O} {w0 : fa_W} {il : rv_I} {s : rv_S} {w : fa_W} {a b : rv_V} {T1 X1 : pv_T} (hX : pm_rP how nf nv fb hb ap w0) (hN : pm_rN how G nf nv fb r hb ho w0 d en) (hSt : rv_ST G nf nv fb r hb ho s) (hd0 : 100 ≤ d + s.1) (hj : rv_j il ≤ s.1) (hl : il.length ≤ s.1) (hta : rv_TY G nf fb r ho s a (pv_ar T1 X1)) (htb : rv_TY G nf fb r ho s b T1) (hS : pm_rS hb w0 il s w) (hV : w 181 86 = ((V + 2 : Nat) : Int)) (bV : 2 * V ≤ 102 * (il.length + 1)) (hc : c < 499) (h1 : w 221 c = 8) (va : w 226 V = a.1 ∧ w 227 V = a.2.1 ∧ w 228 V = a.2.2) (vb : w 226 (V + 1) = b.1 ∧ w 227 (V + 1) = b.2.1 ∧ w 228 (V + 1) = b.2.2) : pm_rQ how hb w0 1 c (c + 1) V il s w (rv_sx ap en il a b s) := by
  obtain ⟨⟨hh1, hh2⟩, hB, hhb, h124, h24, hp0, hp1⟩ := hX
  have s100 := hSt.1.1
  have e2 : w 181 86 - 2 = (V : Int) := by rw [hV]; omega
  have hfx : ∃ f : Nat, f < nf ∧ a.2.1 = (f : Int) := by
    rcases hta with ⟨_, e⟩ | ⟨f, hf, e, _⟩
    · exact (pv_ar_int e).elim
    · exact ⟨f, hf, e⟩
  obtain ⟨f, hf, ef⟩ := hfx
  have en1 : a.2.1.toNat = f := by rw [ef]; rfl
  have ehow : fa_wr how = how := fa_wr_id (by omega) (by omega)
  have l : ∀ F : Nat, fm_Mod_runs_l57 how (F + 1) (rv_j il : Int) (c : Int) w = if how ≤ 0 then fm_Mod_runs_j336 how (fun x2 x3 w9 => fm_Mod_runs_l57 how F x2 x3 w9) (rv_j il : Int) ((c : Int) + 1) a.2.1 a.2.2 w else (if ap f = true then fm_Mod_runs_j336 how (fun x2 x3 w9 => fm_Mod_runs_l57 how F x2 x3 w9) (rv_j il : Int) ((c : Int) + 1) a.2.1 a.2.2 w else fm_Mod_runs_j350 how (fun x2 x3 w9 => fm_Mod_runs_l57 how F x2 x3 w9) (rv_j il : Int) ((c : Int) + 1) a.2.1 a.2.2 (fa_st w 181 92 5)) := fun F => by
    conv => lhs; unfold fm_Mod_runs_l57
    rw [hS.2.1.2.2.2.2.2.1, if_pos (by decide), pb_ix (show c < 500 by omega) (by omega), Option.bind_some, pf_let_eq, Option.bind_some, h1, pf_let_eq, pf_let_eq, if_neg (by decide), if_neg (by decide), if_neg (by decide), if_neg (by decide), if_neg (by decide), if_neg (by decide), if_neg (by decide), if_pos (by decide), e2, pb_ix (by omega) (by omega), Option.bind_some, va.2.1, pf_let_eq, Option.bind_some, va.2.2, pf_let_eq, ehow]
    by_cases z : how ≤ 0
    · rw [if_pos z, if_pos z]
    · rw [if_neg z, if_neg z, hS.1 181 53 (by omega) (by omega), hS.1 181 52 (by omega) (by omega), ef, hp1 (by omega) f hf]
      rfl
  have l3 : ∀ F : Nat, ap f = true → fm_Mod_runs_l57 how (F + 1) (rv_j il : Int) (c : Int) w = fm_Mod_runs_j336 how (fun x2 x3 w9 => fm_Mod_runs_l57 how F x2 x3 w9) (rv_j il : Int) ((c : Int) + 1) a.2.1 a.2.2 w := fun F z => by
    rw [l, if_pos z]
    by_cases z2 : how ≤ 0
    · rw [if_pos z2]
    · rw [if_neg z2]
  have stop : ∀ (e : Nat) (F : Nat), 2 ≤ e → e ≤ 5 → fm_Mod_runs_j350 how (fun x2 x3 w9 => fm_Mod_runs_l57 how F x2 x3 w9) (rv_j il : Int) ((c : Int) + 1) a.2.1 a.2.2 (fa_st w 181 92 (e : Int)) = fm_Mod_runs_l57 how F (rv_j il : Int) ((c + 1 : Nat) : Int) (fa_st w 181 92 (e : Int)) := fun e F h2 h5 => by
    unfold fm_Mod_runs_j350
    rw [fa_st_eq, pb_wr (by omega), if_neg (by omega)]
    rfl
  unfold rv_sx
  rw [en1]
  by_cases z : ap f = true
  · rw [if_neg (by rw [z]; decide)]
    by_cases z2 : s.1 = 100
    · rw [if_pos z2]
      have g : pm_go how 1 (rv_j il) c w (rv_j il) (c + 1) (fa_st w 181 92 ((4 : Nat) : Int)) := fun F => by
        rw [l3 F z]
        unfold fm_Mod_runs_j336
        rw [hS.2.1.2.2.1, pb_wr (by omega), if_pos (by omega), pf_let_eq]
        exact stop 4 F (by omega) (by omega)
      exact pm_rQ_err (Nat.le_refl _) g (pm_rF_of hS (fa_st_eq _ _ _ _) (fun i j p q => fa_st_ne (by omega)))
    · rw [if_neg z2]
      obtain ⟨w3, cf, g1, k, w', k1, k2, k4⟩ := hN il s a b T1 X1 V c w hSt z2 hd0 hj hl hta htb hS hV bV va vb hc
      rw [en1] at k1 k2 k4
      have g2 : pm_go how 1 (rv_j il) c w (s.1 + 1) cf w3 := fun F => by
        rw [l3 F z]
        unfold fm_Mod_runs_j336
        rw [hS.2.1.2.2.1, pb_wr (by omega), if_neg (by omega)]
        exact g1 F
      generalize en f b a.2.2 il s = ro at *
      obtain ⟨y, s'⟩ := ro
      dsimp only at k1 k2
      refine ⟨1 + k, w', ?_, ?_, ?_⟩
      · show 1 + k ≤ 1 + 302 * (s'.1 - s.1)
        omega
      · show s.1 ≤ s'.1
        omega
      · cases y with
        | ok v =>
          obtain ⟨p1, p2⟩ := k4
          exact ⟨pm_go_tr g2 p1, p2⟩
        | error e =>
          obtain ⟨n1, c1, p1, p2⟩ := k4
          exact ⟨n1, c1, pm_go_tr g2 p1, p2⟩
  · rw [if_pos (by cases h : ap f with | true => exact (z h).elim | false => rfl)]
    have hn0 : ¬ how ≤ 0 := fun q => z (hp0 (by omega) f hf)
    have g : pm_go how 1 (rv_j il) c w (rv_j il) (c + 1) (fa_st w 181 92 ((5 : Nat) : Int)) := fun F => by
      rw [l, if_neg hn0, if_neg z]
      exact stop 5 F (by omega) (by omega)
    exact pm_rQ_err (Nat.le_refl _) g (pm_rF_of hS (fa_st_eq _ _ _ _) (fun i j p q => fa_st_ne (by omega)))
