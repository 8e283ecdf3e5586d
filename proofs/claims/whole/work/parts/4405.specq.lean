def pk_lb (v la li : Nat) : Prop := v < 6 + la ∨ (24 ≤ v ∧ v < 24 + li)
def ps_SI (n : Nat) : ps_E → ps_S → Prop
  | (gl, sc, _, ne), (p, th, la, ins, lt, si, nd) => p ≤ n ∧ th ≤ 100 ∧ nd ≤ th ∧ si ≤ th ∧ la ≤ 18 ∧ la + lt ≤ th ∧ ins.length ≤ lt ∧ lt ≤ ins.length + ne ∧ 6 * lt + 3 * ins.length ≤ p ∧ sc.length ≤ ne + 1 ∧ sc.length ≤ 1 + la + ins.length ∧ (∀ b ∈ sc, pk_lb b.1 la ins.length ∧ pk_nm b.2) ∧ (∀ x ∈ ins, 24 ≤ x ∧ x < 24 + lt) ∧ ins.Nodup ∧ gl.length ≤ 6 ∧ (∀ x ∈ gl, pk_nm x) ∧ ne ≤ p
def pk_inx (i0 : List Nat) (l0 : Nat) (i1 : List Nat) (l1 : Nat) : Prop := ∃ l, i1 = i0 ++ l ∧ ∀ x ∈ l, 24 + l0 ≤ x ∧ x < 24 + l1
theorem pk_inx_refl (i : List Nat) (l : Nat) : pk_inx i l i l := ⟨[], (List.append_nil i).symm, fun x h => by cases h⟩
theorem pk_inx_tr {i0 i1 i2 : List Nat} {l0 l1 l2 : Nat} (h1 : pk_inx i0 l0 i1 l1) (h2 : pk_inx i1 l1 i2 l2) (a : l0 ≤ l1) (b : l1 ≤ l2) : pk_inx i0 l0 i2 l2 := by
  obtain ⟨m1, rfl, k1⟩ := h1
  obtain ⟨m2, rfl, k2⟩ := h2
  refine ⟨m1 ++ m2, List.append_assoc _ _ _, fun x hx => ?_⟩
  rcases List.mem_append.mp hx with h | h
  · have := k1 x h; omega
  · have := k2 x h; omega
theorem pk_inx_in {i0 i1 : List Nat} {l0 l1 : Nat} (h : pk_inx i0 l0 i1 l1) (a : l0 ≤ l1) (h0 : ∀ x ∈ i0, 24 ≤ x ∧ x < 24 + l0) : ∀ x ∈ i1, 24 ≤ x ∧ x < 24 + l1 := by
  obtain ⟨m, rfl, k⟩ := h
  intro x hx
  rcases List.mem_append.mp hx with h | h
  · have := h0 x h; omega
  · have := k x h; omega
def ps_PO (n : Nat) : ps_E → ps_S → pt_T → ps_S → Prop
  | (gl, sc, _, _), (p, th, la, ins, lt, si, nd), t, (p', th', la', ins', lt', si', nd') => p' ≤ n ∧ th' ≤ 100 ∧ th' + nd = th + nd' ∧ th < th' ∧ la ≤ la' ∧ la' ≤ 18 ∧ lt ≤ lt' ∧ lt' + ins.length = lt + ins'.length ∧ si ≤ si' ∧ si' + th ≤ si + th' ∧ la' + lt' + th ≤ la + lt + th' ∧ 6 * lt' + 3 * ins'.length + p + 1 ≤ p' + 6 * lt + 3 * ins.length ∧ pk_inx ins lt ins' lt' ∧ ins'.Nodup ∧ pt_tw t ∧ pk_wfs t gl sc ∧ pk_can t (la, ins.length, si, nd) (la', ins'.length, si', nd')
theorem ps_PO_SI {n : Nat} {e : ps_E} {s s' : ps_S} {t : pt_T} (h : ps_SI n e s) (q : ps_PO n e s t s') : ps_SI n e s' := by
  obtain ⟨gl, sc, ow, ne⟩ := e
  obtain ⟨p, th, la, ins, lt, si, nd⟩ := s
  obtain ⟨p', th', la', ins', lt', si', nd'⟩ := s'
  obtain ⟨a1, a2, a3, a4, a5, a6, a7, a8, a9, a10, a11, a12, a13, a14, a15, a16, a17⟩ := h
  obtain ⟨b1, b2, b3, b4, b5, b6, b7, b8, b9, b10, b11, b12, b13, b14, b15, b16, b17⟩ := q
  refine ⟨b1, b2, by omega, by omega, b6, by omega, by omega, by omega, by omega, a10, by omega, fun b hb => ⟨?_, (a12 b hb).2⟩, pk_inx_in b13 b7 a13, b14, a15, a16, by omega⟩
  have := (a12 b hb).1
  unfold pk_lb at this ⊢
  omega
/-! what stands behind an answer -/
theorem ps_bd_ok {x : ps_R} {f : pt_T → ps_S → ps_R} {q : pt_T × ps_S} (h : ps_bd x f = some (.ok q)) : ∃ t s, x = some (.ok (t, s)) ∧ f t s = some (.ok q) := by
  unfold ps_bd at h
  split at h
  · cases h
  · cases h
  · exact ⟨_, _, rfl, h⟩
theorem ps_ex_ok {c : Nat → Int} {n k p : Nat} {f : Nat → ps_R} {q : pt_T × ps_S} (h : ps_ex c n k p f = some (.ok q)) : ps_tk c n (ps_sk c n p) = k ∧ f (ps_te c n (ps_sk c n p)) = some (.ok q) := by
  unfold ps_ex at h
  split at h
  · rename_i e; exact ⟨e, h⟩
  · cases h
theorem ps_nm_ok {c : Nat → Int} {n p : Nat} {f : Nat → Nat → ps_R} {q : pt_T × ps_S} (h : ps_nm c n p f = some (.ok q)) : ps_tk c n (ps_sk c n p) = 2 ∧ f (ps_tv c n (ps_sk c n p)) (ps_te c n (ps_sk c n p)) = some (.ok q) := by
  unfold ps_nm at h
  split at h
  · rename_i e; exact ⟨e, h⟩
  · cases h
theorem ps_if_ok {c : Prop} [Decidable c] {q : Nat} {x : ps_R} {r : pt_T × ps_S} (h : (if c then ps_er q else x) = some (.ok r)) : ¬ c ∧ x = some (.ok r) := by
  split at h
  · cases h
  · rename_i e; exact ⟨e, h⟩
theorem ps_nd_ok {t t' : pt_T} {s s' : ps_S} (h : ps_nd t s = some (.ok (t', s'))) : t' = t ∧ s' = (s.1, s.2.1, s.2.2.1, s.2.2.2.1, s.2.2.2.2.1, s.2.2.2.2.2.1, s.2.2.2.2.2.2 + 1) := by
  obtain ⟨p, th, la, ins, lt, si, nd⟩ := s
  cases h
  exact ⟨rfl, rfl⟩
theorem ps_re_ok {t t' : pt_T} {s s' : ps_S} (h : ps_re t s = some (.ok (t', s'))) : t' = t ∧ s' = s := by
  cases h
  exact ⟨rfl, rfl⟩
def ps_RC (n : Nat) (rc : ps_E → ps_S → ps_R) : Prop := ∀ e s t s', ps_SI n e s → rc e s = some (.ok (t, s')) → ps_PO n e s t s'
/-- a sign at the next place -/
theorem ps_sign {c : Nat → Int} {n : Nat} (hx : ps_TX c n) {k p : Nat} (hp : p ≤ n) (hk : k < 93) (h1 : 3 < k) (h : ps_tk c n (ps_sk c n p) = k) : p ≤ ps_sk c n p ∧ ps_sk c n p < n ∧ ps_te c n (ps_sk c n p) = ps_sk c n p + 1 := by
  have q := ps_sk_p hx p hp
  have hs := ps_lt hx (s := ps_sk c n p) (by omega)
  refine ⟨q.1, hs, ?_⟩
  unfold ps_te
  unfold ps_tk at h
  split at h
  · rename_i hl
    split at h
    · omega
    · split at h
      · have w := ps_we_p hx (ps_sk c n p) (by omega)
        have l := ps_wv_len (c := c) (s := ps_sk c n p) (k := ps_we c n (ps_sk c n p) - ps_sk c n p) (by omega) (fun j h1 h2 => ps_le_in (w.2.2.2 j h1 (by omega)))
        omega
      · omega
  · rename_i hl
    rw [if_neg hl]
    split at h
    · split at h <;> omega
    · rename_i hd
      rw [if_neg hd]
theorem ps_leaf_po {c : Nat → Int} {n : Nat} (hx : ps_TX c n) {t t' : pt_T} {gl : List Nat} {sc : List (Nat × Nat)} {ow : Int} {ne : Nat} {s s' : ps_S} (hs : ps_SI n (gl, sc, ow, ne) s) (hk : ps_tk c n (ps_sk c n s.1) ≠ 0) (ht : pt_tw t) (hw : pk_wfs t gl sc) (hc : pk_can t (s.2.2.1, s.2.2.2.1.length, s.2.2.2.2.2.1, s.2.2.2.2.2.2) (s.2.2.1, s.2.2.2.1.length, s.2.2.2.2.2.1, s.2.2.2.2.2.2 + 1)) (h : ps_leaf c n t s = some (.ok (t', s'))) : ps_PO n (gl, sc, ow, ne) s t' s' := by
  obtain ⟨p, th, la, ins, lt, si, nd⟩ := s
  obtain ⟨a1, a2, a3, a4, a5, a6, a7, a8, a9, a10, a11, a12, a13, a14, a15, a16, a17⟩ := hs
  obtain ⟨h1, h⟩ := ps_if_ok h
  obtain ⟨rfl, rfl⟩ := ps_re_ok h
  have q := ps_sk_p hx p a1
  have l : ps_sk c n p < n := ps_lt hx hk
  have e := ps_te_p hx l
  refine ⟨e.2, by omega, by omega, by omega, by omega, a5, by omega, by omega, by omega, by omega, by omega, by omega, pk_inx_refl _ _, a14, ht, hw, hc⟩
theorem ps_lam_po {c : Nat → Int} {n : Nat} (hx : ps_TX c n) {fr : Bool} {rc : ps_E → ps_S → ps_R} (hr : ps_RC n rc) {e : ps_E} {s s' : ps_S} {t : pt_T} (hs : ps_SI n e s) (hk : ps_tk c n (ps_sk c n s.1) = 92) (h : ps_lam c n fr rc e s = some (.ok (t, s'))) : ps_PO n e s t s' := by
  obtain ⟨gl, sc, ow, ne⟩ := e
  obtain ⟨p, th, la, ins, lt, si, nd⟩ := s
  obtain ⟨a1, a2, a3, a4, a5, a6, a7, a8, a9, a10, a11, a12, a13, a14, a15, a16, a17⟩ := hs
  obtain ⟨h1, h⟩ := ps_if_ok h
  obtain ⟨k2, h⟩ := ps_nm_ok h
  obtain ⟨k3, h⟩ := ps_ex_ok h
  obtain ⟨b, s1, h2, h⟩ := ps_bd_ok h
  have z0 := ps_sign hx a1 (by omega) (by omega) hk
  have z1 := ps_name hx k2
  have z1' := ps_sk_p hx (ps_sk c n p + 1) (by omega)
  have z2 := ps_sign hx z1.2.2.2 (by omega) (by omega) k3
  have si1 : ps_SI n (gl, (6 + la, ps_tv c n (ps_sk c n (ps_sk c n p + 1))) :: sc, ((6 + la : Nat) : Int), ne + 1) (ps_te c n (ps_sk c n (ps_te c n (ps_sk c n (ps_sk c n p + 1)))), th + 1, la + 1, ins, lt, si, nd) := by
    refine ⟨by omega, by omega, by omega, by omega, by omega, by omega, by omega, by omega, by omega, ?_, ?_, ?_, a13, a14, a15, a16, by omega⟩
    · rw [List.length_cons]; omega
    · rw [List.length_cons]; omega
    · intro b hb
      rcases List.mem_cons.mp hb with rfl | hb
      · exact ⟨Or.inl (by show 6 + la < 6 + (la + 1); omega), z1.1⟩
      · refine ⟨?_, (a12 b hb).2⟩
        have := (a12 b hb).1
        unfold pk_lb at this ⊢
        omega
  have po := hr _ _ _ _ si1 h2
  obtain ⟨p', th', la', ins', lt', si', nd'⟩ := s1
  obtain ⟨rfl, rfl⟩ := ps_nd_ok h
  show ps_PO n (gl, sc, ow, ne) (p, th, la, ins, lt, si, nd) _ (p', th', la', ins', lt', si', nd' + 1)
  obtain ⟨b1, b2, b3, b4, b5, b6, b7, b8, b9, b10, b11, b12, b13, b14, b15, b16, b17⟩ := po
  refine ⟨b1, b2, by omega, by omega, by omega, b6, b7, b8, b9, by omega, by omega, by omega, b13, b14, b15, ⟨z1.1, b16⟩, ⟨rfl, _, b17, rfl⟩⟩
theorem ps_cho_po {c : Nat → Int} {n : Nat} (hx : ps_TX c n) {fr : Bool} {rc : ps_E → ps_S → ps_R} (hr : ps_RC n rc) {e : ps_E} {s s' : ps_S} {t : pt_T} (hs : ps_SI n e s) (hk : ps_tk c n (ps_sk c n s.1) = 26982) (h : ps_cho c n fr rc e s = some (.ok (t, s'))) : ps_PO n e s t s' := by
  obtain ⟨gl, sc, ow, ne⟩ := e
  obtain ⟨p, th, la, ins, lt, si, nd⟩ := s
  obtain ⟨a1, a2, a3, a4, a5, a6, a7, a8, a9, a10, a11, a12, a13, a14, a15, a16, a17⟩ := hs
  obtain ⟨h1, h⟩ := ps_if_ok h
  obtain ⟨a, s1, g1, h⟩ := ps_bd_ok h
  obtain ⟨k1, h⟩ := ps_ex_ok h
  obtain ⟨b, s2, g2, h⟩ := ps_bd_ok h
  obtain ⟨k2, h⟩ := ps_ex_ok h
  obtain ⟨d, s3, g3, h⟩ := ps_bd_ok h
  have z0 := ps_word_len hx (s := ps_sk c n p) (by rw [hk]; omega)
  have z0' := ps_sk_p hx p a1
  have lb : ∀ b ∈ sc, pk_lb b.1 la ins.length ∧ pk_nm b.2 := a12
  have i1 : ps_SI n (gl, sc, ow, ne + 1) (ps_te c n (ps_sk c n p), th + 1, la, ins, lt, si, nd) := ⟨z0.1, by omega, by omega, by omega, a5, by omega, by omega, by omega, by omega, by omega, by omega, a12, a13, a14, a15, a16, by omega⟩
  have o1 := hr _ _ _ _ i1 g1
  have i2' := ps_PO_SI i1 o1
  obtain ⟨p1, th1, la1, ins1, lt1, si1, nd1⟩ := s1
  have z1 := ps_word_len hx (s := ps_sk c n p1) (by rw [k1]; omega)
  obtain ⟨b1, b2, b3, b4, b5, b6, b7, b8, b9, b10, b11, b12, b13, b14, b15, b16, b17⟩ := o1
  have z1' := ps_sk_p hx p1 b1
  have i2 : ps_SI n (gl, sc, ow, ne + 1) (ps_te c n (ps_sk c n p1), th1, la1, ins1, lt1, si1, nd1) := by
    obtain ⟨e1, e2, e3, e4, e5, e6, e7, e8, e9, e10, e11, e12, e13, e14, e15, e16, e17⟩ := i2'
    exact ⟨z1.1, e2, e3, e4, e5, e6, e7, e8, by omega, e10, e11, e12, e13, e14, e15, e16, by omega⟩
  have o2 := hr _ _ _ _ i2 g2
  have i3' := ps_PO_SI i2 o2
  obtain ⟨p2, th2, la2, ins2, lt2, si2, nd2⟩ := s2
  have z2 := ps_word_len hx (s := ps_sk c n p2) (by rw [k2]; omega)
  obtain ⟨c1, c2, c3, c4, c5, c6, c7, c8, c9, c10, c11, c12, c13, c14, c15, c16, c17⟩ := o2
  have z2' := ps_sk_p hx p2 c1
  have i3 : ps_SI n (gl, sc, ow, ne + 1) (ps_te c n (ps_sk c n p2), th2, la2, ins2, lt2, si2, nd2) := by
    obtain ⟨e1, e2, e3, e4, e5, e6, e7, e8, e9, e10, e11, e12, e13, e14, e15, e16, e17⟩ := i3'
    exact ⟨z2.1, e2, e3, e4, e5, e6, e7, e8, by omega, e10, e11, e12, e13, e14, e15, e16, by omega⟩
  have o3 := hr _ _ _ _ i3 g3
  obtain ⟨p3, th3, la3, ins3, lt3, si3, nd3⟩ := s3
  obtain ⟨rfl, rfl⟩ := ps_nd_ok h
  show ps_PO n (gl, sc, ow, ne) (p, th, la, ins, lt, si, nd) _ (p3, th3, la3, ins3, lt3, si3, nd3 + 1)
  obtain ⟨d1, d2, d3, d4, d5, d6, d7, d8, d9, d10, d11, d12, d13, d14, d15, d16, d17⟩ := o3
  refine ⟨d1, d2, by omega, by omega, by omega, d6, by omega, by omega, by omega, by omega, by omega, by omega, pk_inx_tr (pk_inx_tr b13 c13 b7 c7) d13 (by omega) d7, d14, ⟨b15, c15, d15⟩, ⟨b16, c16, d16⟩, ⟨_, _, _, b17, c17, d17, rfl⟩⟩
theorem ps_let_po {c : Nat → Int} {n : Nat} (hx : ps_TX c n) {fr : Bool} {rc : ps_E → ps_S → ps_R} (hr : ps_RC n rc) {e : ps_E} {s s' : ps_S} {t : pt_T} (hs : ps_SI n e s) (hk : ps_tk c n (ps_sk c n s.1) = 7103860) (h : ps_let c n fr rc e s = some (.ok (t, s'))) : ps_PO n e s t s' := by
  obtain ⟨gl, sc, ow, ne⟩ := e
  obtain ⟨p, th, la, ins, lt, si, nd⟩ := s
  obtain ⟨a1, a2, a3, a4, a5, a6, a7, a8, a9, a10, a11, a12, a13, a14, a15, a16, a17⟩ := hs
  obtain ⟨h1, h⟩ := ps_if_ok h
  obtain ⟨k1, h⟩ := ps_nm_ok h
  obtain ⟨k2, h⟩ := ps_ex_ok h
  obtain ⟨a, s1, g1, h⟩ := ps_bd_ok h
  obtain ⟨k3, h⟩ := ps_ex_ok h
  obtain ⟨p1, th1, la1, ins1, lt1, si1, nd1⟩ := s1
  obtain ⟨b, s2, g2, h⟩ := ps_bd_ok h
  have z0 := ps_word_len hx (s := ps_sk c n p) (by rw [hk]; omega)
  rw [hk] at z0
  have z0' := ps_sk_p hx p a1
  have z1 := ps_name hx k1
  have z1' := ps_sk_p hx (ps_te c n (ps_sk c n p)) z0.1
  have z1'' : ps_sk c n (ps_te c n (ps_sk c n p)) ≠ ps_te c n (ps_sk c n p) := by
    intro he
    rw [he] at k1
    have := (ps_kw_tk2 k1).1
    rw [z0.2.2.2.2.2] at this
    cases this
  have z2 := ps_sign hx z1.2.2.2 (by omega) (by omega) k2
  have i1 : ps_SI n (gl, sc, ow, ne + 1) (ps_te c n (ps_sk c n (ps_te c n (ps_sk c n (ps_te c n (ps_sk c n p))))), th + 1, la, ins, lt + 1, si, nd) := ⟨by omega, by omega, by omega, by omega, a5, by omega, by omega, by omega, by omega, by omega, by omega, a12, fun x hx => ⟨(a13 x hx).1, by have := (a13 x hx).2; omega⟩, a14, a15, a16, by omega⟩
  have o1 := hr _ _ _ _ i1 g1
  have i2' := ps_PO_SI i1 o1
  obtain ⟨b1, b2, b3, b4, b5, b6, b7, b8, b9, b10, b11, b12, b13, b14, b15, b16, b17⟩ := o1
  have z3 := ps_word_len hx (s := ps_sk c n p1) (by rw [k3]; omega)
  rw [k3] at z3
  have z3' := ps_sk_p hx p1 b1
  have nin : 24 + lt ∉ ins1 := by
    intro hm
    obtain ⟨l, rfl, hl⟩ := b13
    rcases List.mem_append.mp hm with q | q
    · have := a13 _ q; omega
    · have := hl _ q; omega
  have nod : (ins1 ++ [24 + lt]).Nodup := by
    rw [List.nodup_append]
    refine ⟨b14, by simp, ?_⟩
    intro x hx y hy
    rw [List.mem_singleton] at hy
    subst hy
    intro q
    subst q
    exact nin hx
  have i2 : ps_SI n (gl, (24 + ins1.length, ps_tv c n (ps_sk c n (ps_te c n (ps_sk c n p)))) :: sc, ow, ne + 1) (ps_te c n (ps_sk c n p1), th1, la1, ins1 ++ [24 + lt], lt1, si1, nd1) := by
    obtain ⟨e1, e2, e3, e4, e5, e6, e7, e8, e9, e10, e11, e12, e13, e14, e15, e16, e17⟩ := i2'
    have el : (ins1 ++ [24 + lt]).length = ins1.length + 1 := by simp
    refine ⟨z3.1, e2, e3, e4, e5, e6, by omega, by omega, by omega, ?_, ?_, ?_, ?_, nod, e15, e16, by omega⟩
    · rw [List.length_cons]; omega
    · rw [List.length_cons]; omega
    · intro b hb
      rw [el]
      rcases List.mem_cons.mp hb with rfl | hb
      · exact ⟨Or.inr ⟨by omega, by omega⟩, z1.1⟩
      · refine ⟨?_, (e12 b hb).2⟩
        have := (e12 b hb).1
        unfold pk_lb at this ⊢
        omega
    · intro x hx
      rcases List.mem_append.mp hx with q | q
      · exact e13 x q
      · rw [List.mem_singleton] at q; subst q; omega
  have o2 := hr _ _ _ _ i2 g2
  obtain ⟨p2, th2, la2, ins2, lt2, si2, nd2⟩ := s2
  obtain ⟨rfl, rfl⟩ := ps_nd_ok h
  show ps_PO n (gl, sc, ow, ne) (p, th, la, ins, lt, si, nd) _ (p2, th2, la2, ins2, lt2, si2, nd2 + 1)
  obtain ⟨c1, c2, c3, c4, c5, c6, c7, c8, c9, c10, c11, c12, c13, c14, c15, c16, c17⟩ := o2
  have el : (ins1 ++ [24 + lt]).length = ins1.length + 1 := by simp
  rw [el] at c8 c12 c17
  have ix : pk_inx ins lt ins2 lt2 := by
    obtain ⟨l1, rfl, hl1⟩ := b13
    obtain ⟨l2, rfl, hl2⟩ := c13
    refine ⟨l1 ++ [24 + lt] ++ l2, by simp, fun x hx => ?_⟩
    rcases List.mem_append.mp hx with q | q
    · rcases List.mem_append.mp q with q | q
      · have := hl1 x q; omega
      · rw [List.mem_singleton] at q; subst q; omega
    · have := hl2 x q; omega
  refine ⟨c1, c2, by omega, by omega, by omega, c6, by omega, by omega, by omega, by omega, by omega, by omega, ix, c14, ⟨b15, c15⟩, ⟨z1.1, b16, c16⟩, ⟨_, _, b17, rfl, c17, rfl⟩⟩
