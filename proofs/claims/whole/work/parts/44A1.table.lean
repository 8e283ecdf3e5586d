/-! the class's THINGS as a table: owner, EXPR and first THING of it, by the number of its last THING -/
abbrev pf_TB : Type := Nat → Int × pt_T × Nat
def pf_N (tb : pf_TB) : pt_T → Int → Nat → Prop := pt_rec
  (fun v h a => tb a = (h, pt_num v, a))
  (fun v x h a => tb a = (h, pt_var v x, a))
  (fun g x h a => tb a = (h, pt_glo g x, a))
  (fun d h a => tb a = (h, pt_dead d, a))
  (fun f x b rb h a => rb (f : Int) a ∧ tb (a + pt_sz b) = (h, pt_lam f x b, a))
  (fun ta tb' tc ra rb rc h a => ra h a ∧ rb h (a + pt_sz ta) ∧ rc h (a + pt_sz ta + pt_sz tb') ∧ tb (a + pt_sz ta + pt_sz tb' + pt_sz tc) = (h, pt_ife ta tb' tc, a))
  (fun v x ta tb' ra rb h a => ra h a ∧ rb h (a + pt_sz ta) ∧ tb (a + pt_sz ta + pt_sz tb') = (h, pt_let v x ta tb', a))
  (fun s ta tb' ra rb h a => ra h a ∧ rb h (a + pt_sz ta) ∧ tb (a + pt_sz ta + pt_sz tb') = (h, pt_op s ta tb', a))
  (fun s ta tb' ra rb h a => ra h a ∧ rb h (a + pt_sz ta) ∧ tb (a + pt_sz ta + pt_sz tb') = (h, pt_site s ta tb', a))
  (fun _ _ => False)
theorem pf_N_cong {tb tb' : pf_TB} (t : pt_T) (tt : pt_tw t) : ∀ (h : Int) (a : Nat), (∀ i, a ≤ i → i < a + pt_sz t → tb' i = tb i) → pf_N tb t h a → pf_N tb' t h a := by
  induction t, tt using pt_indh with
  | num v => intro h a e H; exact (e a (Nat.le_refl _) (Nat.lt_succ_self _)).trans H
  | var v x => intro h a e H; exact (e a (Nat.le_refl _) (Nat.lt_succ_self _)).trans H
  | glo g x => intro h a e H; exact (e a (Nat.le_refl _) (Nat.lt_succ_self _)).trans H
  | dead d => intro h a e H; exact (e a (Nat.le_refl _) (Nat.lt_succ_self _)).trans H
  | lam f x b wb ih =>
    intro h a e H
    have sz : pt_sz (pt_lam f x b) = pt_sz b + 1 := rfl
    exact ⟨ih _ _ (fun i p q => e i p (by omega)) H.1, (e _ (by omega) (by omega)).trans H.2⟩
  | ife ta t2 tc wa wb wc iha ihb ihc =>
    intro h a e H
    have sz : pt_sz (pt_ife ta t2 tc) = pt_sz ta + pt_sz t2 + pt_sz tc + 1 := rfl
    exact ⟨iha _ _ (fun i p q => e i p (by omega)) H.1, ihb _ _ (fun i p q => e i (by omega) (by omega)) H.2.1, ihc _ _ (fun i p q => e i (by omega) (by omega)) H.2.2.1, (e _ (by omega) (by omega)).trans H.2.2.2⟩
  | lt v x ta t2 wa wb iha ihb =>
    intro h a e H
    have sz : pt_sz (pt_let v x ta t2) = pt_sz ta + pt_sz t2 + 1 := rfl
    exact ⟨iha _ _ (fun i p q => e i p (by omega)) H.1, ihb _ _ (fun i p q => e i (by omega) (by omega)) H.2.1, (e _ (by omega) (by omega)).trans H.2.2⟩
  | op s ta t2 wa wb iha ihb =>
    intro h a e H
    have sz : pt_sz (pt_op s ta t2) = pt_sz ta + pt_sz t2 + 1 := rfl
    exact ⟨iha _ _ (fun i p q => e i p (by omega)) H.1, ihb _ _ (fun i p q => e i (by omega) (by omega)) H.2.1, (e _ (by omega) (by omega)).trans H.2.2⟩
  | site s ta t2 wa wb iha ihb =>
    intro h a e H
    have sz : pt_sz (pt_site s ta t2) = pt_sz ta + pt_sz t2 + 1 := rfl
    exact ⟨iha _ _ (fun i p q => e i p (by omega)) H.1, ihb _ _ (fun i p q => e i (by omega) (by omega)) H.2.1, (e _ (by omega) (by omega)).trans H.2.2⟩
theorem pf_N_root {tb : pf_TB} (t : pt_T) (tt : pt_tw t) : ∀ (h : Int) (a : Nat), pf_N tb t h a → tb (a + pt_sz t - 1) = (h, t, a) := by
  induction t, tt using pt_indh with
  | num v => intro h a H; exact H
  | var v x => intro h a H; exact H
  | glo g x => intro h a H; exact H
  | dead d => intro h a H; exact H
  | lam f x b wb ih => intro h a H; exact H.2
  | ife ta t2 tc wa wb wc iha ihb ihc =>
    intro h a H
    have sz : pt_sz (pt_ife ta t2 tc) = pt_sz ta + pt_sz t2 + pt_sz tc + 1 := rfl
    rw [sz, show a + (pt_sz ta + pt_sz t2 + pt_sz tc + 1) - 1 = a + pt_sz ta + pt_sz t2 + pt_sz tc by omega]
    exact H.2.2.2
  | lt v x ta t2 wa wb iha ihb =>
    intro h a H
    have sz : pt_sz (pt_let v x ta t2) = pt_sz ta + pt_sz t2 + 1 := rfl
    rw [sz, show a + (pt_sz ta + pt_sz t2 + 1) - 1 = a + pt_sz ta + pt_sz t2 by omega]
    exact H.2.2
  | op s ta t2 wa wb iha ihb =>
    intro h a H
    have sz : pt_sz (pt_op s ta t2) = pt_sz ta + pt_sz t2 + 1 := rfl
    rw [sz, show a + (pt_sz ta + pt_sz t2 + 1) - 1 = a + pt_sz ta + pt_sz t2 by omega]
    exact H.2.2
  | site s ta t2 wa wb iha ihb =>
    intro h a H
    have sz : pt_sz (pt_site s ta t2) = pt_sz ta + pt_sz t2 + 1 := rfl
    rw [sz, show a + (pt_sz ta + pt_sz t2 + 1) - 1 = a + pt_sz ta + pt_sz t2 by omega]
    exact H.2.2
/-- what passes from an EXPR to its parts -/
def pf_he (Q : pt_T → Int → Nat → Prop) : Prop := (∀ f x b h a, pt_tw b → Q (pt_lam f x b) h a → Q b (f : Int) a) ∧ (∀ ta t2 tc h a, Q (pt_ife ta t2 tc) h a → Q ta h a ∧ Q t2 h (a + pt_sz ta) ∧ Q tc h (a + pt_sz ta + pt_sz t2)) ∧ (∀ v x ta t2 h a, Q (pt_let v x ta t2) h a → Q ta h a ∧ Q t2 h (a + pt_sz ta)) ∧ (∀ s ta t2 h a, Q (pt_op s ta t2) h a → Q ta h a ∧ Q t2 h (a + pt_sz ta)) ∧ ∀ s ta t2 h a, Q (pt_site s ta t2) h a → Q ta h a ∧ Q t2 h (a + pt_sz ta)
/-- a THING of the table is well there -/
def pf_at (Q : pt_T → Int → Nat → Prop) (tb : pf_TB) (i : Nat) : Prop := pt_tw (tb i).2.1 ∧ (tb i).2.2 + pt_sz (tb i).2.1 = i + 1 ∧ pf_N tb (tb i).2.1 (tb i).1 (tb i).2.2 ∧ Q (tb i).2.1 (tb i).1 (tb i).2.2
theorem pf_at_cong {Q : pt_T → Int → Nat → Prop} {tb tb' : pf_TB} {i : Nat} (h : pf_at Q tb i) {a : Nat} (ha : a ≤ (tb i).2.2) (e : ∀ j, a ≤ j → j ≤ i → tb' j = tb j) : pf_at Q tb' i := by
  obtain ⟨h1, h2, h3, h4⟩ := h
  have pp := pt_sz_pos (tb i).2.1
  unfold pf_at
  rw [e i (by omega) (Nat.le_refl _)]
  exact ⟨h1, h2, pf_N_cong _ h1 _ _ (fun j p q => e j (by omega) (by omega)) h3, h4⟩
def pf_NE (Q : pt_T → Int → Nat → Prop) (t : pt_T) (h : Int) (a : Nat) (tb0 tb : pf_TB) : Prop := (∀ i, ¬ (a ≤ i ∧ i < a + pt_sz t) → tb i = tb0 i) ∧ pf_N tb t h a ∧ ∀ i, a ≤ i → i < a + pt_sz t → pf_at Q tb i ∧ a ≤ (tb i).2.2
theorem pf_NE_leaf {Q : pt_T → Int → Nat → Prop} {t : pt_T} {h : Int} {a : Nat} {tb0 : pf_TB} (tt : pt_tw t) (e : pt_sz t = 1) (hN : ∀ tb : pf_TB, tb a = (h, t, a) → pf_N tb t h a) (hQ : Q t h a) : ∃ tb, pf_NE Q t h a tb0 tb := by
  have r : pu_set tb0 a (h, t, a) a = (h, t, a) := pu_set_eq _ _ _
  refine ⟨pu_set tb0 a (h, t, a), fun i hi => pu_set_ne _ _ (by omega), hN _ r, fun i p q => ?_⟩
  rw [show i = a by omega]
  unfold pf_at
  rw [r]
  exact ⟨⟨tt, by dsimp only; omega, hN _ r, hQ⟩, Nat.le_refl _⟩
theorem pf_NE_root {Q : pt_T → Int → Nat → Prop} {t : pt_T} {h : Int} {a n : Nat} {tb0 tb1 : pf_TB} (tt : pt_tw t) (e : pt_sz t = n + 1) (ho : ∀ i, ¬ (a ≤ i ∧ i < a + n) → tb1 i = tb0 i) (hi : ∀ i, a ≤ i → i < a + n → pf_at Q tb1 i ∧ a ≤ (tb1 i).2.2) (hN : ∀ tb : pf_TB, (∀ i, a ≤ i → i < a + n → tb i = tb1 i) → tb (a + n) = (h, t, a) → pf_N tb t h a) (hQ : Q t h a) : ∃ tb, pf_NE Q t h a tb0 tb := by
  have r : pu_set tb1 (a + n) (h, t, a) (a + n) = (h, t, a) := pu_set_eq _ _ _
  have o : ∀ i, i ≠ a + n → pu_set tb1 (a + n) (h, t, a) i = tb1 i := fun i hi => pu_set_ne _ _ hi
  refine ⟨pu_set tb1 (a + n) (h, t, a), fun i hh => (o i (by omega)).trans (ho i (by omega)), hN _ (fun i p q => o i (by omega)) r, fun i p q => ?_⟩
  by_cases z : i = a + n
  · rw [z]
    unfold pf_at
    rw [r]
    exact ⟨⟨tt, by dsimp only; omega, hN _ (fun i p q => o i (by omega)) r, hQ⟩, Nat.le_refl _⟩
  · obtain ⟨x, y⟩ := hi i p (by omega)
    rw [o i z]
    exact ⟨pf_at_cong x y (fun j u v => o j (by omega)), y⟩
theorem pf_NE_two {Q : pt_T → Int → Nat → Prop} {ta t2 : pt_T} {h : Int} {a : Nat} {tb0 tb1 tb2 : pf_TB} (wa : pt_tw ta) (h1 : pf_NE Q ta h a tb0 tb1) {n : Nat} (h2o : ∀ i, ¬ (a + pt_sz ta ≤ i ∧ i < a + pt_sz ta + n) → tb2 i = tb1 i) (h2 : ∀ i, a + pt_sz ta ≤ i → i < a + pt_sz ta + n → pf_at Q tb2 i ∧ a + pt_sz ta ≤ (tb2 i).2.2) : (∀ i, ¬ (a ≤ i ∧ i < a + (pt_sz ta + n)) → tb2 i = tb0 i) ∧ pf_N tb2 ta h a ∧ ∀ i, a ≤ i → i < a + (pt_sz ta + n) → pf_at Q tb2 i ∧ a ≤ (tb2 i).2.2 := by
  obtain ⟨x1, x2, x3⟩ := h1
  refine ⟨fun i hi => (h2o i (by omega)).trans (x1 i (by omega)), pf_N_cong ta wa _ _ (fun i p q => h2o i (by omega)) x2, fun i p q => ?_⟩
  by_cases z : i < a + pt_sz ta
  · obtain ⟨x, y⟩ := x3 i p z
    rw [h2o i (by omega)]
    exact ⟨pf_at_cong x y (fun j u v => h2o j (by omega)), y⟩
  · obtain ⟨x, y⟩ := h2 i (by omega) (by omega)
    exact ⟨x, by omega⟩
theorem pf_N_ex {Q : pt_T → Int → Nat → Prop} (he : pf_he Q) (t : pt_T) (tt : pt_tw t) : ∀ (h : Int) (a : Nat) (tb0 : pf_TB), Q t h a → ∃ tb, pf_NE Q t h a tb0 tb := by
  obtain ⟨q1, q2, q3, q4, q5⟩ := he
  induction t, tt using pt_indh with
  | num v => intro h a tb0 hQ; exact pf_NE_leaf trivial rfl (fun _ e => e) hQ
  | var v x => intro h a tb0 hQ; exact pf_NE_leaf trivial rfl (fun _ e => e) hQ
  | glo g x => intro h a tb0 hQ; exact pf_NE_leaf trivial rfl (fun _ e => e) hQ
  | dead d => intro h a tb0 hQ; exact pf_NE_leaf trivial rfl (fun _ e => e) hQ
  | lam f x b wb ih =>
    intro h a tb0 hQ
    obtain ⟨tb1, x1, x2, x3⟩ := ih (f : Int) a tb0 (q1 _ _ _ _ _ wb hQ)
    exact pf_NE_root wb rfl x1 x3 (fun tb e r => ⟨pf_N_cong b wb _ _ e x2, r⟩) hQ
  | ife ta t2 tc wa wb wc iha ihb ihc =>
    intro h a tb0 hQ
    obtain ⟨r1, r2, r3⟩ := q2 _ _ _ _ _ hQ
    obtain ⟨tb1, A⟩ := iha h a tb0 r1
    obtain ⟨tb2, B⟩ := ihb h (a + pt_sz ta) tb1 r2
    obtain ⟨tb3, c1, c2, c3⟩ := ihc h (a + pt_sz ta + pt_sz t2) tb2 r3
    obtain ⟨d1, d2, d3⟩ := pf_NE_two (t2 := tc) wb B c1 c3
    obtain ⟨e1, e2, e3⟩ := pf_NE_two (t2 := tc) wa A d1 d3
    refine pf_NE_root (n := pt_sz ta + (pt_sz t2 + pt_sz tc)) ⟨wa, wb, wc⟩ (by show pt_sz ta + pt_sz t2 + pt_sz tc + 1 = _; omega) e1 e3 (fun tb e r => ?_) hQ
    rw [show a + (pt_sz ta + (pt_sz t2 + pt_sz tc)) = a + pt_sz ta + pt_sz t2 + pt_sz tc by omega] at r
    exact ⟨pf_N_cong ta wa _ _ (fun i p q => e i (by omega) (by omega)) e2, pf_N_cong t2 wb _ _ (fun i p q => e i (by omega) (by omega)) d2, pf_N_cong tc wc _ _ (fun i p q => e i (by omega) (by omega)) c2, r⟩
  | lt v x ta t2 wa wb iha ihb =>
    intro h a tb0 hQ
    obtain ⟨r1, r2⟩ := q3 _ _ _ _ _ _ hQ
    obtain ⟨tb1, A⟩ := iha h a tb0 r1
    obtain ⟨tb2, c1, c2, c3⟩ := ihb h (a + pt_sz ta) tb1 r2
    obtain ⟨e1, e2, e3⟩ := pf_NE_two (t2 := t2) wa A c1 c3
    refine pf_NE_root (n := pt_sz ta + pt_sz t2) ⟨wa, wb⟩ rfl e1 e3 (fun tb e r => ?_) hQ
    rw [← Nat.add_assoc] at r
    exact ⟨pf_N_cong ta wa _ _ (fun i p q => e i (by omega) (by omega)) e2, pf_N_cong t2 wb _ _ (fun i p q => e i (by omega) (by omega)) c2, r⟩
  | op s ta t2 wa wb iha ihb =>
    intro h a tb0 hQ
    obtain ⟨r1, r2⟩ := q4 _ _ _ _ _ hQ
    obtain ⟨tb1, A⟩ := iha h a tb0 r1
    obtain ⟨tb2, c1, c2, c3⟩ := ihb h (a + pt_sz ta) tb1 r2
    obtain ⟨e1, e2, e3⟩ := pf_NE_two (t2 := t2) wa A c1 c3
    refine pf_NE_root (n := pt_sz ta + pt_sz t2) ⟨wa, wb⟩ rfl e1 e3 (fun tb e r => ?_) hQ
    rw [← Nat.add_assoc] at r
    exact ⟨pf_N_cong ta wa _ _ (fun i p q => e i (by omega) (by omega)) e2, pf_N_cong t2 wb _ _ (fun i p q => e i (by omega) (by omega)) c2, r⟩
  | site s ta t2 wa wb iha ihb =>
    intro h a tb0 hQ
    obtain ⟨r1, r2⟩ := q5 _ _ _ _ _ hQ
    obtain ⟨tb1, A⟩ := iha h a tb0 r1
    obtain ⟨tb2, c1, c2, c3⟩ := ihb h (a + pt_sz ta) tb1 r2
    obtain ⟨e1, e2, e3⟩ := pf_NE_two (t2 := t2) wa A c1 c3
    refine pf_NE_root (n := pt_sz ta + pt_sz t2) ⟨wa, wb⟩ rfl e1 e3 (fun tb e r => ?_) hQ
    rw [← Nat.add_assoc] at r
    exact ⟨pf_N_cong ta wa _ _ (fun i p q => e i (by omega) (by omega)) e2, pf_N_cong t2 wb _ _ (fun i p q => e i (by omega) (by omega)) c2, r⟩
