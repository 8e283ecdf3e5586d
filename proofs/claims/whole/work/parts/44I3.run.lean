def rv_EN (G nf nv : Nat) (fb : Nat → pt_T) (r : pv_R) (hb ho : Nat → Int) (en : Nat → rv_V → Int → rv_I → rv_S → rv_O) : Prop := ∀ (il : rv_I) (s : rv_S) (a b : rv_V) (T X : pv_T), rv_ST G nf nv fb r hb ho s → s.1 ≠ 100 → rv_j il ≤ s.1 → il.length ≤ s.1 → rv_TY G nf fb r ho s a (pv_ar T X) → rv_TY G nf fb r ho s b T → ∀ c s', en a.2.1.toNat b a.2.2 il s = (.ok c, s') → rv_ST G nf nv fb r hb ho s' ∧ rv_gr s s' ∧ rv_TY G nf fb r ho s' c X ∧ ∀ i v, i ≤ s.1 → s'.2.1 i v = s.2.1 i v
theorem rv_ok_in {G nf nv ns : Nat} {fb : Nat → pt_T} {r : pv_R} {hb ho : Nat → Int} {ap : Nat → Bool} {en : Nat → rv_V → Int → rv_I → rv_S → rv_O} (hen : rv_EN G nf nv fb r hb ho en) (t : pt_T) (tt : pt_tw t) : ∀ (h : Int) (il : rv_I) (s : rv_S), rv_SF G nf nv ns fb r hb ho t h → rv_DF G nf nv fb r hb ho t h il s → ∀ a s', rv_bt ap en t il s = (.ok a, s') → rv_RS G nf nv fb r hb ho t il s a s' := by
  induction t, tt using pt_indh with
  | num v =>
    intro h il s S D a s' e
    cases e
    exact ⟨D.1, rv_gr_refl s, Or.inl ⟨rfl, rfl⟩, fun i v _ z => (z rfl).elim⟩
  | var v x =>
    intro h il s S D a s' e
    have e' : ((Except.ok ((s.2.1 (rv_j il) v).getD (0, -1, -1)) : Except (Nat × rv_I) rv_V), s) = (Except.ok a, s') := e
    cases q : s.2.1 (rv_j il) v with
    | none => exact (D.2.2.1 v rfl q).elim
    | some y =>
      rw [q] at e'
      cases e'
      exact ⟨D.1, rv_gr_refl s, (D.1.2.2 _ v _ q).2.2.1, fun i v _ z => (z rfl).elim⟩
  | glo g x =>
    intro h il s S D a s' e
    cases e
    exact ⟨D.1, rv_gr_refl s, Or.inr ⟨g, S.2.2.1, rfl, rfl, Or.inl ⟨S.2.2.2.2.1, rfl⟩⟩, fun i v _ z => (z rfl).elim⟩
  | dead d => intro h il s S D a s' e; cases e
  | lam f x b tb ih =>
    intro h il s S D a s' e
    cases e
    obtain ⟨_, f1, w, p, m, _⟩ := S
    obtain ⟨d1, ⟨d2, d3, d4⟩, d5, d6⟩ := D
    have m1 : ho f = h ∧ h < (f : Int) ∧ G ≤ f := m
    refine ⟨d1, rv_gr_refl s, Or.inr ⟨f, w.1, rfl, rfl, Or.inr ⟨m1.2.2, rv_j il, d2, rfl, d4.trans m1.1.symm, by rw [m1.1]; exact m1.2.1, fun v hv hn => d5 v ⟨by rw [← f1.2]; exact hv, hn⟩⟩⟩, fun i v _ z => (z rfl).elim⟩
  | ife a b c ta tb tc iha ihb ihc =>
    intro h il s S D y s' e
    obtain ⟨Sa, Sb, Sc, e1, e2, e3, e4⟩ := rv_SF_ife ta tb tc S
    obtain ⟨x, s1, q1, q2⟩ := rv_bd_ok (x := rv_bt ap en a il s) (k := fun v s1 => if fa_wr v.1 = 0 then rv_bt ap en c il s1 else rv_bt ap en b il s1) e
    have R := iha h il s Sa (rv_DF_1 D (fun v q => Or.inl q) (fun v q => Or.inl q)) x s1 q1
    by_cases z : fa_wr x.1 = 0
    · rw [if_pos z] at q2
      exact rv_RS_2 R (ihc h il s1 Sc (rv_DF_nx D R (fun v q => Or.inr (Or.inr q)) (fun v q => Or.inr (Or.inr q)) e4) y s' q2) (fun v q => Or.inl q) (fun v q => Or.inr (Or.inr q)) e2
    · rw [if_neg z] at q2
      exact rv_RS_2 R (ihb h il s1 Sb (rv_DF_nx D R (fun v q => Or.inr (Or.inl q)) (fun v q => Or.inr (Or.inl q)) e3) y s' q2) (fun v q => Or.inl q) (fun v q => Or.inr (Or.inl q)) rfl
  | lt u x a b ta tb iha ihb =>
    intro h il s S D y s' e
    obtain ⟨Sa, Sb, e1, e2, e3, e4, e5, e6⟩ := rv_SF_let ta tb S
    obtain ⟨c, s1, q1, q2⟩ := rv_bd_ok (x := rv_bt ap en a il s) (k := fun a s1 => rv_bt ap en b il (rv_put s1 (rv_j il) u a)) e
    have R := iha h il s Sa (rv_DF_1 D (fun v q => Or.inl q) (fun v q => Or.inr (Or.inl q))) c s1 q1
    obtain ⟨D2, g2, f2, j2⟩ := rv_let_2 ta tb S D R
    obtain ⟨r1, r2, r3, r4⟩ := ihb h il _ Sb D2 y s' q2
    refine ⟨r1, rv_gr_tr R.2.1 (rv_gr_tr g2 r2), r3, fun i v hi hn => ?_⟩
    by_cases z1 : (rv_put s1 (rv_j il) u c).2.1 i v = s1.2.1 i v
    · by_cases z2 : s1.2.1 i v = s.2.1 i v
      · have := r4 i v (Nat.le_trans hi R.2.1.1) (by rw [z1, z2]; exact hn)
        exact ⟨this.1, Or.inr (Or.inr this.2)⟩
      · have := R.2.2.2 i v hi z2
        exact ⟨this.1, Or.inr (Or.inl this.2)⟩
    · have : i = rv_j il ∧ v = u := by
        by_cases z3 : i = rv_j il ∧ v = u
        · exact z3
        · exact (z1 (by show (if i = rv_j il ∧ v = u then some c else s1.2.1 i v) = _; rw [if_neg z3])).elim
      exact ⟨this.1, Or.inl this.2⟩
  | op sg a b ta tb iha ihb =>
    intro h il s S D y s' e
    obtain ⟨Sa, Sb, e1, e2, _, e3⟩ := rv_SF_op ta tb S
    obtain ⟨c, s1, q1, q2⟩ := rv_bd_ok (x := rv_bt ap en a il s) (k := fun a s1 => rv_bd (rv_bt ap en b il s1) fun b s2 => rv_oo sg il a.1 b.1 s2) e
    obtain ⟨d, s2, q3, q4⟩ := rv_bd_ok q2
    have R := iha h il s Sa (rv_DF_1 D (fun v q => Or.inl q) (fun v q => Or.inl q)) c s1 q1
    have Q := ihb h il s1 Sb (rv_DF_nx D R (fun v q => Or.inr q) (fun v q => Or.inr q) e3) d s2 q3
    unfold rv_oo at q4
    cases z : rv_op sg c.1 d.1 with
    | none => rw [z] at q4; cases q4
    | some n =>
      rw [z] at q4
      cases q4
      obtain ⟨x1, x2, x3, x4⟩ := rv_RS_2 (t := pt_op sg a b) (b := b) R ⟨Q.1, Q.2.1, Q.2.2.1, Q.2.2.2⟩ (fun v q => Or.inl q) (fun v q => Or.inr q) e2.symm
      exact ⟨x1, x2, Or.inl ⟨rfl, rfl⟩, x4⟩
  | site sg a b ta tb iha ihb =>
    intro h il s S D y s' e
    obtain ⟨Sa, Sb, e1, e3⟩ := rv_SF_site ta tb S
    obtain ⟨c, s1, q1, q2⟩ := rv_bd_ok (x := rv_bt ap en a il s) (k := fun a s1 => rv_bd (rv_bt ap en b il s1) fun b s2 => rv_sx ap en il a b s2) e
    obtain ⟨d, s2, q3, q4⟩ := rv_bd_ok q2
    have R := iha h il s Sa (rv_DF_1 D (fun v q => Or.inl q) (fun v q => Or.inl q)) c s1 q1
    have Q := ihb h il s1 Sb (rv_DF_nx D R (fun v q => Or.inr q) (fun v q => Or.inr q) e3) d s2 q3
    unfold rv_sx at q4
    by_cases z : ap c.2.1.toNat = false
    · rw [if_pos z] at q4; cases q4
    · rw [if_neg z] at q4
      by_cases z2 : s2.1 = 100
      · rw [if_pos z2] at q4; cases q4
      · rw [if_neg z2] at q4
        have g2 := rv_gr_tr R.2.1 Q.2.1
        obtain ⟨n1, n2, n3, n4⟩ := hen il s2 c d _ _ Q.1 z2 (Nat.le_trans D.2.1.1 g2.1) (Nat.le_trans D.2.1.2.1 g2.1) (by rw [← e1]; exact rv_TY_gr Q.2.1 R.2.2.1) Q.2.2.1 y s' q4
        refine ⟨n1, rv_gr_tr g2 n2, n3, fun i v hi hn => ?_⟩
        rw [n4 i v (Nat.le_trans hi g2.1)] at hn
        by_cases z3 : s1.2.1 i v = s.2.1 i v
        · have := Q.2.2.2 i v (Nat.le_trans hi R.2.1.1) (by rw [z3]; exact hn)
          exact ⟨this.1, Or.inr this.2⟩
        · have := R.2.2.2 i v hi z3
          exact ⟨this.1, Or.inl this.2⟩
/-- from the point where a FUNCTION is entered -/
theorem rv_enter {G nf nv ns : Nat} {fb : Nat → pt_T} {r : pv_R} {hb ho : Nat → Int} (hP : rv_PF G nf nv ns fb r hb ho) {s : rv_S} (hs : rv_ST G nf nv fb r hb ho s) (h100 : s.1 ≠ 100) {a b : rv_V} {T X : pv_T} {il : rv_I} (hq : il.length ≤ s.1) (ha : rv_TY G nf fb r ho s a (pv_ar T X)) (hb' : rv_TY G nf fb r ho s b T) : ∃ f : Nat, f < nf ∧ a.2.1 = (f : Int) ∧ pv_t r (fb f) = X ∧ rv_SF G nf nv ns fb r hb ho (fb f) (f : Int) ∧ rv_DF G nf nv fb r hb ho (fb f) (f : Int) ((f, s.1 + 1) :: il) (rv_nw s f b a.2.2 il.length) ∧ rv_gr s (rv_nw s f b a.2.2 il.length) ∧ (∀ i v, i ≤ s.1 → (rv_nw s f b a.2.2 il.length).2.1 i v = s.2.1 i v) ∧ (a.2.2 = -1 ∨ ∃ j : Nat, j ≤ s.1 ∧ a.2.2 = (j : Int)) := by
  obtain ⟨f, hf, e1, e2, e3, n1, n2, n3, n4, n5, n6⟩ := rv_nw_ST hP hs h100 hq ha hb'
  obtain ⟨p1, p2, p3, p4, p5, p6, p7, p8, p9, p10, p11⟩ := hP f hf
  refine ⟨f, hf, e1, e3, ⟨p1, p2, p3, p4, p6, p8⟩, ⟨n1, ⟨Nat.le_refl _, Nat.succ_le_succ hq, ?_⟩, n3, n4⟩, n2, n5, n6⟩
  show (if s.1 + 1 = s.1 + 1 then (f : Int) else _) = _
  rw [if_pos rfl]
theorem rv_ok {G nf nv ns : Nat} {fb : Nat → pt_T} {r : pv_R} {hb ho : Nat → Int} {ap : Nat → Bool} (hP : rv_PF G nf nv ns fb r hb ho) : ∀ (d : Nat) (t : pt_T) (tt : pt_tw t) (h : Int) (il : rv_I) (s : rv_S), rv_SF G nf nv ns fb r hb ho t h → rv_DF G nf nv fb r hb ho t h il s → ∀ a s', rv_ev fb ap d t il s = (.ok a, s') → rv_RS G nf nv fb r hb ho t il s a s' := by
  intro d
  induction d with
  | zero =>
    intro t tt
    exact rv_ok_in (fun il s a b T X _ _ _ _ _ _ c s' e => by cases e) t tt
  | succ d ih =>
    intro t tt
    refine rv_ok_in (fun il s a b T X hs h100 hj hl ha hb' c s' e => ?_) t tt
    obtain ⟨f, hf, e1, e2, e3, e4, e5, e6, e7⟩ := rv_enter (il := il) hP hs h100 hl ha hb'
    have ef : a.2.1.toNat = f := by rw [e1]; rfl
    rw [ef] at e
    obtain ⟨q1, q2, q3, q4⟩ := ih (fb f) e3.1 (f : Int) _ _ e3 e4 c s' e
    refine ⟨q1, rv_gr_tr e5 q2, by rw [← e2]; exact q3, fun i v hi => ?_⟩
    by_cases z : s'.2.1 i v = (rv_nw s f b a.2.2 il.length).2.1 i v
    · rw [z, e6 i v hi]
    · have := (q4 i v (Nat.le_succ_of_le hi) z).1
      change i = s.1 + 1 at this
      omega
