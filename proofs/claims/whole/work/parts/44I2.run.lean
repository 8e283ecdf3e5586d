/-! what stands of an EXPR, of the state ahead of it, and behind it -/
def rv_SF (G nf nv ns : Nat) (fb : Nat → pt_T) (r : pv_R) (hb ho : Nat → Int) (t : pt_T) (h : Int) : Prop := pt_tw t ∧ pf_T fb t ∧ pf_W nf nv ns t ∧ pv_S r t ∧ rv_hm G hb ho t h ∧ ∃ k k', pn_can G t k k'
def rv_DF (G nf nv : Nat) (fb : Nat → pt_T) (r : pv_R) (hb ho : Nat → Int) (t : pt_T) (h : Int) (il : rv_I) (s : rv_S) : Prop := rv_ST G nf nv fb r hb ho s ∧ (rv_j il ≤ s.1 ∧ il.length ≤ s.1 ∧ s.2.2.1 (rv_j il) = h) ∧ (∀ v, rv_fv t v → s.2.1 (rv_j il) v ≠ none) ∧ ∀ v, rv_lv t v → s.2.1 (rv_j il) v = none
def rv_RS (G nf nv : Nat) (fb : Nat → pt_T) (r : pv_R) (hb ho : Nat → Int) (t : pt_T) (il : rv_I) (s : rv_S) (a : rv_V) (s' : rv_S) : Prop := rv_ST G nf nv fb r hb ho s' ∧ rv_gr s s' ∧ rv_TY G nf fb r ho s' a (pv_t r t) ∧ ∀ i v, i ≤ s.1 → s'.2.1 i v ≠ s.2.1 i v → i = rv_j il ∧ rv_lv t v
theorem rv_some_gr {s s' : rv_S} (g : rv_gr s s') {i v : Nat} (h : s.2.1 i v ≠ none) : s'.2.1 i v ≠ none := fun z => by
  cases e : s.2.1 i v with
  | none => exact h e
  | some a => rw [g.2.2 i v a e] at z; cases z
theorem rv_DF_nx {G nf nv : Nat} {fb : Nat → pt_T} {r : pv_R} {hb ho : Nat → Int} {u a b : pt_T} {h : Int} {il : rv_I} {s s1 : rv_S} {x : rv_V} (D : rv_DF G nf nv fb r hb ho u h il s) (R : rv_RS G nf nv fb r hb ho a il s x s1) (e1 : ∀ v, rv_fv b v → rv_fv u v) (e2 : ∀ v, rv_lv b v → rv_lv u v) (e3 : ∀ v, rv_lv a v → ¬ rv_lv b v) : rv_DF G nf nv fb r hb ho b h il s1 := by
  obtain ⟨d1, ⟨d2, d3, d4⟩, d5, d6⟩ := D
  obtain ⟨r1, r2, r3, r4⟩ := R
  refine ⟨r1, ⟨Nat.le_trans d2 r2.1, Nat.le_trans d3 r2.1, (r2.2.1 _ d2).1.trans d4⟩, fun v hv => rv_some_gr r2 (d5 v (e1 v hv)), fun v hv => ?_⟩
  cases e : s1.2.1 (rv_j il) v with
  | none => rfl
  | some y => exact (e3 v (r4 _ v d2 (by rw [e, d6 v (e2 v hv)]; intro z; cases z)).2 hv).elim
theorem rv_DF_1 {G nf nv : Nat} {fb : Nat → pt_T} {r : pv_R} {hb ho : Nat → Int} {u b : pt_T} {h : Int} {il : rv_I} {s : rv_S} (D : rv_DF G nf nv fb r hb ho u h il s) (e1 : ∀ v, rv_fv b v → rv_fv u v) (e2 : ∀ v, rv_lv b v → rv_lv u v) : rv_DF G nf nv fb r hb ho b h il s := ⟨D.1, D.2.1, fun v hv => D.2.2.1 v (e1 v hv), fun v hv => D.2.2.2 v (e2 v hv)⟩
theorem rv_SF_ife {G nf nv ns : Nat} {fb : Nat → pt_T} {r : pv_R} {hb ho : Nat → Int} {a b c : pt_T} {h : Int} (ta : pt_tw a) (tb : pt_tw b) (tc : pt_tw c) (S : rv_SF G nf nv ns fb r hb ho (pt_ife a b c) h) : rv_SF G nf nv ns fb r hb ho a h ∧ rv_SF G nf nv ns fb r hb ho b h ∧ rv_SF G nf nv ns fb r hb ho c h ∧ pv_t r a = pv_int ∧ pv_t r b = pv_t r c ∧ (∀ v, rv_lv a v → ¬ rv_lv b v) ∧ ∀ v, rv_lv a v → ¬ rv_lv c v := by
  obtain ⟨_, f, w, p, m, k, k', k1, k2, k3, c1, c2, c3, e⟩ := S
  have n1 := (pn_mono a ta _ _ c1).2.1
  have n2 := (pn_mono b tb _ _ c2).2.1
  refine ⟨⟨ta, f.1, w.1, p.1, m.1, k, k1, c1⟩, ⟨tb, f.2.1, w.2.1, p.2.1, m.2.1, k1, k2, c2⟩, ⟨tc, f.2.2, w.2.2, p.2.2.1, m.2.2, k2, k3, c3⟩, p.2.2.2.1, p.2.2.2.2, fun v x y => ?_, fun v x y => ?_⟩
  · have := rv_lv_can a ta _ _ c1 v x
    have := rv_lv_can b tb _ _ c2 v y
    omega
  · have := rv_lv_can a ta _ _ c1 v x
    have := rv_lv_can c tc _ _ c3 v y
    omega
theorem rv_SF_let {G nf nv ns : Nat} {fb : Nat → pt_T} {r : pv_R} {hb ho : Nat → Int} {u x : Nat} {a b : pt_T} {h : Int} (ta : pt_tw a) (tb : pt_tw b) (S : rv_SF G nf nv ns fb r hb ho (pt_let u x a b) h) : rv_SF G nf nv ns fb r hb ho a h ∧ rv_SF G nf nv ns fb r hb ho b h ∧ r.1 u = pv_t r a ∧ hb u = h ∧ u < nv ∧ (∀ v, rv_lv a v → ¬ rv_lv b v) ∧ ¬ rv_lv a u ∧ ¬ rv_lv b u := by
  obtain ⟨_, f, w, p, m, k, k', k1, k2, c1, e0, c2, e⟩ := S
  refine ⟨⟨ta, f.1, w.2.1, p.1, m.2.1, k, k1, c1⟩, ⟨tb, f.2, w.2.2, p.2.1, m.2.2, _, k2, c2⟩, p.2.2, m.1, w.1, fun v x y => ?_, fun x => ?_, fun y => ?_⟩
  · have := rv_lv_can a ta _ _ c1 v x
    have := rv_lv_can b tb _ _ c2 v y
    dsimp only at this
    omega
  · have := rv_lv_can a ta _ _ c1 u x
    omega
  · have := rv_lv_can b tb _ _ c2 u y
    dsimp only at this
    omega
theorem rv_SF_op {G nf nv ns : Nat} {fb : Nat → pt_T} {r : pv_R} {hb ho : Nat → Int} {sg : Nat} {a b : pt_T} {h : Int} (ta : pt_tw a) (tb : pt_tw b) (S : rv_SF G nf nv ns fb r hb ho (pt_op sg a b) h) : rv_SF G nf nv ns fb r hb ho a h ∧ rv_SF G nf nv ns fb r hb ho b h ∧ pv_t r a = pv_int ∧ pv_t r b = pv_int ∧ (sg = 42 ∨ sg = 43 ∨ sg = 45 ∨ sg = 47 ∨ sg = 60) ∧ ∀ v, rv_lv a v → ¬ rv_lv b v := by
  obtain ⟨_, f, w, p, m, k, k', k1, k2, c1, c2, e⟩ := S
  refine ⟨⟨ta, f.1, w.1, p.1, m.2.1, k, k1, c1⟩, ⟨tb, f.2, w.2, p.2.1, m.2.2, k1, k2, c2⟩, p.2.2.1, p.2.2.2, m.1, fun v x y => ?_⟩
  have := rv_lv_can a ta _ _ c1 v x
  have := rv_lv_can b tb _ _ c2 v y
  omega
theorem rv_SF_site {G nf nv ns : Nat} {fb : Nat → pt_T} {r : pv_R} {hb ho : Nat → Int} {sg : Nat} {a b : pt_T} {h : Int} (ta : pt_tw a) (tb : pt_tw b) (S : rv_SF G nf nv ns fb r hb ho (pt_site sg a b) h) : rv_SF G nf nv ns fb r hb ho a h ∧ rv_SF G nf nv ns fb r hb ho b h ∧ pv_t r a = pv_ar (pv_t r b) (pv_t r (pt_site sg a b)) ∧ ∀ v, rv_lv a v → ¬ rv_lv b v := by
  obtain ⟨_, f, w, p, m, k, k', k1, k2, c1, e0, c2, e⟩ := S
  refine ⟨⟨ta, f.1, w.2.1, p.1, m.1, k, k1, c1⟩, ⟨tb, f.2, w.2.2, p.2.1, m.2, _, k2, c2⟩, p.2.2, fun v x y => ?_⟩
  have := rv_lv_can a ta _ _ c1 v x
  have := rv_lv_can b tb _ _ c2 v y
  dsimp only at this
  omega
theorem rv_bd_ok {x : rv_O} {k : rv_V → rv_S → rv_O} {a : rv_V} {s : rv_S} (h : rv_bd x k = (.ok a, s)) : ∃ b s1, x = (.ok b, s1) ∧ k b s1 = (.ok a, s) := by
  obtain ⟨e, s1⟩ := x
  cases e with
  | error e => cases h
  | ok b => exact ⟨b, s1, rfl, h⟩
/-- the VAR of a let: behind it -/
theorem rv_let_2 {G nf nv ns : Nat} {fb : Nat → pt_T} {r : pv_R} {hb ho : Nat → Int} {u x : Nat} {a b : pt_T} {h : Int} (ta : pt_tw a) (tb : pt_tw b) {il : rv_I} {s s1 : rv_S} {c : rv_V} (S : rv_SF G nf nv ns fb r hb ho (pt_let u x a b) h) (D : rv_DF G nf nv fb r hb ho (pt_let u x a b) h il s) (R : rv_RS G nf nv fb r hb ho a il s c s1) : rv_DF G nf nv fb r hb ho b h il (rv_put s1 (rv_j il) u c) ∧ rv_gr s1 (rv_put s1 (rv_j il) u c) ∧ s1.2.1 (rv_j il) u = none ∧ rv_j il ≤ s1.1 := by
  obtain ⟨Sa, Sb, e1, e2, e3, e4, e5, e6⟩ := rv_SF_let ta tb S
  obtain ⟨d1, ⟨d2, d3, d4⟩, d5, d6⟩ := D
  obtain ⟨r1, r2, r3, r4⟩ := R
  have hj : rv_j il ≤ s1.1 := Nat.le_trans d2 r2.1
  have fu : s1.2.1 (rv_j il) u = none := by
    cases e : s1.2.1 (rv_j il) u with
    | none => rfl
    | some y => exact (e5 (r4 _ u d2 (by rw [e, d6 u (Or.inl rfl)]; intro z; cases z)).2).elim
  have hf : s1.2.2.1 (rv_j il) = h := (r2.2.1 _ d2).1.trans d4
  obtain ⟨p1, p2⟩ := rv_put_ST r1 hj e3 (by rw [e1]; exact r3) (by rw [e2, hf]) fu
  refine ⟨⟨p1, ⟨hj, Nat.le_trans d3 r2.1, hf⟩, fun v hv => ?_, fun v hv => ?_⟩, p2, fu, hj⟩
  · show (if rv_j il = rv_j il ∧ v = u then some c else s1.2.1 (rv_j il) v) ≠ none
    by_cases e : v = u
    · rw [if_pos ⟨rfl, e⟩]; exact fun z => by cases z
    · rw [if_neg (fun z => e z.2)]
      exact rv_some_gr r2 (d5 v (Or.inr ⟨hv, e⟩))
  · show (if rv_j il = rv_j il ∧ v = u then some c else s1.2.1 (rv_j il) v) = none
    rw [if_neg (fun z => e6 (by rw [← z.2]; exact hv))]
    cases e : s1.2.1 (rv_j il) v with
    | none => rfl
    | some y => exact (e4 v (r4 _ v d2 (by rw [e, d6 v (Or.inr (Or.inr hv))]; intro z; cases z)).2 hv).elim
theorem rv_RS_2 {G nf nv : Nat} {fb : Nat → pt_T} {r : pv_R} {hb ho : Nat → Int} {t a b : pt_T} {il : rv_I} {s s1 s2 : rv_S} {x y : rv_V} (R : rv_RS G nf nv fb r hb ho a il s x s1) (Q : rv_RS G nf nv fb r hb ho b il s1 y s2) (e1 : ∀ v, rv_lv a v → rv_lv t v) (e2 : ∀ v, rv_lv b v → rv_lv t v) (e : pv_t r t = pv_t r b) : rv_RS G nf nv fb r hb ho t il s y s2 := by
  obtain ⟨r1, r2, r3, r4⟩ := R
  obtain ⟨q1, q2, q3, q4⟩ := Q
  refine ⟨q1, rv_gr_tr r2 q2, by rw [e]; exact q3, fun i v hi hn => ?_⟩
  by_cases c : s1.2.1 i v = s.2.1 i v
  · have := q4 i v (Nat.le_trans hi r2.1) (by rw [c]; exact hn)
    exact ⟨this.1, e2 v this.2⟩
  · have := r4 i v hi c
    exact ⟨this.1, e1 v this.2⟩
