theorem ps_lk_mem : ∀ (sc : List (Nat × Nat)) (x v : Nat), ps_lk sc x = some v → (v, x) ∈ sc := by
  intro sc
  induction sc with
  | nil => intro x v h; cases h
  | cons b r ih =>
    intro x v h
    unfold ps_lk at h
    split at h
    · rename_i e
      cases h
      subst e
      exact List.mem_cons_self
    · exact List.mem_cons_of_mem _ (ih x v h)
theorem ps_gx_mem : ∀ (gl : List Nat) (x k g : Nat), ps_gx gl x k = some g → k ≤ g ∧ g < k + gl.length ∧ gl[g - k]? = some x := by
  intro gl
  induction gl with
  | nil => intro x k g h; cases h
  | cons y r ih =>
    intro x k g h
    unfold ps_gx at h
    split at h
    · rename_i e
      cases h
      subst e
      refine ⟨Nat.le_refl _, by rw [List.length_cons]; omega, ?_⟩
      rw [Nat.sub_self]
      rfl
    · have q := ih x (k + 1) g h
      refine ⟨by omega, by rw [List.length_cons]; omega, ?_⟩
      have e : g - k = (g - (k + 1)) + 1 := by omega
      rw [e, List.getElem?_cons_succ]
      exact q.2.2
theorem ps_dv_le {c : Nat → Int} {s k : Nat} (hk : k ≤ 4) (hl : ∀ j, s ≤ j → j < s + k → 48 ≤ c j ∧ c j ≤ 57) : ps_dv c s k ≤ 9999 := by
  have c0 := hl s
  have c1 := hl (s + 1)
  have c2 := hl (s + 2)
  have c3 := hl (s + 3)
  match k, hk with
  | 0, _ => exact Nat.zero_le _
  | 1, _ =>
    have e : ps_dv c s 1 = 10 * 0 + ((c (s + 0)).toNat - 48) := rfl
    rw [Nat.add_zero] at e
    omega
  | 2, _ =>
    have e : ps_dv c s 2 = 10 * (10 * 0 + ((c (s + 0)).toNat - 48)) + ((c (s + 1)).toNat - 48) := rfl
    rw [Nat.add_zero] at e
    omega
  | 3, _ =>
    have e : ps_dv c s 3 = 10 * (10 * (10 * 0 + ((c (s + 0)).toNat - 48)) + ((c (s + 1)).toNat - 48)) + ((c (s + 2)).toNat - 48) := rfl
    rw [Nat.add_zero] at e
    omega
  | 4, _ =>
    have e : ps_dv c s 4 = 10 * (10 * (10 * (10 * 0 + ((c (s + 0)).toNat - 48)) + ((c (s + 1)).toNat - 48)) + ((c (s + 2)).toNat - 48)) + ((c (s + 3)).toNat - 48) := rfl
    rw [Nat.add_zero] at e
    omega
theorem ps_num {c : Nat → Int} {n : Nat} (hx : ps_TX c n) {s : Nat} (h : ps_tk c n s = 1) : ps_le (c s) = false ∧ ps_di (c s) = true ∧ ps_de c n s - s ≤ 4 ∧ ps_tv c n s = ps_dv c s (ps_de c n s - s) ∧ ps_te c n s = ps_de c n s ∧ ps_tv c n s ≤ 9999 ∧ s < n := by
  have hs := ps_lt hx (s := s) (by omega)
  unfold ps_tk at h
  split at h
  · rename_i hl
    split at h
    · omega
    · split at h
      · rename_i hk
        rw [h] at hk
        exact absurd hk (by decide)
      · omega
  · rename_i hl
    split at h
    · rename_i hd
      split at h
      · omega
      · have w := ps_de_p hx s (by omega)
        have e1 : ps_tv c n s = ps_dv c s (ps_de c n s - s) := by unfold ps_tv; rw [if_neg hl]
        refine ⟨Bool.eq_false_iff.mpr hl, hd, by omega, e1, by unfold ps_te; rw [if_neg hl, if_pos hd], ?_, hs⟩
        rw [e1]
        exact ps_dv_le (by omega) (fun j h1 h2 => by
          have := w.2.2.2 j h1 (by omega)
          unfold ps_di at this
          exact of_decide_eq_true this)
    · exfalso
      revert h
      unfold ps_sg
      split
      · intro h; omega
      · split <;> intro h <;> omega
theorem ps_PO_op {n : Nat} {gl : List Nat} {sc : List (Nat × Nat)} {ow : Int} {ne p0 th0 la0 lt0 si0 nd0 p1 th1 la1 lt1 si1 nd1 p2 th2 la2 lt2 si2 nd2 q o : Nat} {i0 i1 i2 : List Nat} {a b : pt_T} (ho : o = 42 ∨ o = 43 ∨ o = 45 ∨ o = 47 ∨ o = 60) (h1 : ps_PO n (gl, sc, ow, ne) (p0, th0, la0, i0, lt0, si0, nd0) a (p1, th1, la1, i1, lt1, si1, nd1)) (hq : p1 ≤ q) (h2 : ps_PO n (gl, sc, ow, ne) (q, th1 + 1, la1, i1, lt1, si1, nd1) b (p2, th2, la2, i2, lt2, si2, nd2)) : ps_PO n (gl, sc, ow, ne) (p0, th0, la0, i0, lt0, si0, nd0) (pt_op o a b) (p2, th2, la2, i2, lt2, si2, nd2 + 1) := by
  obtain ⟨b1, b2, b3, b4, b5, b6, b7, b8, b9, b10, b11, b12, b13, b14, b15, b16, b17⟩ := h1
  obtain ⟨c1, c2, c3, c4, c5, c6, c7, c8, c9, c10, c11, c12, c13, c14, c15, c16, c17⟩ := h2
  exact ⟨c1, c2, by omega, by omega, by omega, c6, by omega, by omega, by omega, by omega, by omega, by omega, pk_inx_tr b13 c13 b7 c7, c14, ⟨b15, c15⟩, ⟨ho, b16, c16⟩, ⟨_, _, b17, c17, rfl⟩⟩
theorem ps_PO_site {n : Nat} {gl : List Nat} {sc : List (Nat × Nat)} {ow : Int} {ne p0 th0 la0 lt0 si0 nd0 p1 th1 la1 lt1 si1 nd1 p2 th2 la2 lt2 si2 nd2 q : Nat} {i0 i1 i2 : List Nat} {a b : pt_T} (h1 : ps_PO n (gl, sc, ow, ne) (p0, th0, la0, i0, lt0, si0, nd0) a (p1, th1, la1, i1, lt1, si1, nd1)) (hq : p1 ≤ q) (h2 : ps_PO n (gl, sc, ow, ne) (q, th1 + 1, la1, i1, lt1, si1 + 1, nd1) b (p2, th2, la2, i2, lt2, si2, nd2)) : ps_PO n (gl, sc, ow, ne) (p0, th0, la0, i0, lt0, si0, nd0) (pt_site si1 a b) (p2, th2, la2, i2, lt2, si2, nd2 + 1) := by
  obtain ⟨b1, b2, b3, b4, b5, b6, b7, b8, b9, b10, b11, b12, b13, b14, b15, b16, b17⟩ := h1
  obtain ⟨c1, c2, c3, c4, c5, c6, c7, c8, c9, c10, c11, c12, c13, c14, c15, c16, c17⟩ := h2
  exact ⟨c1, c2, by omega, by omega, by omega, c6, by omega, by omega, by omega, by omega, by omega, by omega, pk_inx_tr b13 c13 b7 c7, c14, ⟨b15, c15⟩, ⟨b16, c16⟩, ⟨_, _, b17, rfl, c17, rfl⟩⟩
/-- the state behind a sign, ahead of the next part -/
theorem ps_SI_op {n : Nat} {gl : List Nat} {sc : List (Nat × Nat)} {ow : Int} {ne p1 th1 la1 lt1 si1 nd1 q d : Nat} {i1 : List Nat} (h : ps_SI n (gl, sc, ow, ne) (p1, th1, la1, i1, lt1, si1, nd1)) (hq : p1 ≤ q) (hn : q ≤ n) (ht : th1 ≠ 100) (hd : d ≤ 1) : ps_SI n (gl, sc, ow, ne) (q, th1 + 1, la1, i1, lt1, si1 + d, nd1) := by
  obtain ⟨a1, a2, a3, a4, a5, a6, a7, a8, a9, a10, a11, a12, a13, a14, a15, a16, a17⟩ := h
  exact ⟨hn, by omega, by omega, by omega, a5, by omega, a7, a8, by omega, a10, a11, a12, a13, a14, a15, a16, by omega⟩
theorem ps_tst_po {c : Nat → Int} {n : Nat} (hx : ps_TX c n) {rc : ps_E → ps_S → ps_R} (hr : ps_RC n rc) {e : ps_E} {s s' : ps_S} {t : pt_T} (hs : ps_SI n e s) (h : ps_tst c n rc e s = some (.ok (t, s'))) : ps_PO n e s t s' := by
  obtain ⟨gl, sc, ow, ne⟩ := e
  obtain ⟨a, s1, g1, h⟩ := ps_bd_ok h
  have o1 := hr _ _ _ _ hs g1
  have i1 := ps_PO_SI hs o1
  obtain ⟨p0, th0, la0, i0, lt0, si0, nd0⟩ := s
  obtain ⟨p1, th1, la1, ins1, lt1, si1, nd1⟩ := s1
  dsimp only at h
  split at h
  · rename_i hk
    split at h
    · cases h
    · rename_i ht
      obtain ⟨b, s2, g2, h⟩ := ps_bd_ok h
      have z := ps_sign hx i1.1 (by omega) (by omega) hk
      have o2 := hr _ _ _ _ (ps_SI_op (d := 0) i1 (q := ps_sk c n p1 + 1) (by omega) (by omega) ht (by omega)) g2
      obtain ⟨p2, th2, la2, ins2, lt2, si2, nd2⟩ := s2
      obtain ⟨rfl, rfl⟩ := ps_nd_ok h
      exact ps_PO_op (by omega) o1 (by omega) o2
  · obtain ⟨rfl, rfl⟩ := ps_re_ok h
    exact o1
theorem ps_lp_po {c : Nat → Int} {n : Nat} (hx : ps_TX c n) {o1 o2 : Nat} (ho : (o1 = 43 ∧ o2 = 45) ∨ (o1 = 42 ∧ o2 = 47)) {rc : ps_E → ps_S → ps_R} (hr : ps_RC n rc) {e : ps_E} {s : ps_S} (hs : ps_SI n e s) : ∀ (f : Nat) (a : pt_T) (s1 : ps_S) (t : pt_T) (s' : ps_S), ps_PO n e s a s1 → ps_lp c n o1 o2 rc e f a s1 = some (.ok (t, s')) → ps_PO n e s t s' := by
  obtain ⟨gl, sc, ow, ne⟩ := e
  obtain ⟨p0, th0, la0, i0, lt0, si0, nd0⟩ := s
  intro f
  induction f with
  | zero => intro a s1 t s' _ h; cases h
  | succ f ih =>
    intro a s1 t s' o1' h
    have i1 := ps_PO_SI hs o1'
    obtain ⟨p1, th1, la1, ins1, lt1, si1, nd1⟩ := s1
    unfold ps_lp at h
    dsimp only at h
    split at h
    · rename_i hk
      split at h
      · cases h
      · rename_i ht
        obtain ⟨t3, s3, g3, h⟩ := ps_bd_ok h
        obtain ⟨b, s2, g2, g3⟩ := ps_bd_ok g3
        have z := ps_sign hx (k := ps_tk c n (ps_sk c n p1)) i1.1 (by omega) (by omega) rfl
        have o2' := hr _ _ _ _ (ps_SI_op (d := 0) i1 (q := ps_sk c n p1 + 1) (by omega) (by omega) ht (by omega)) g2
        obtain ⟨p2, th2, la2, ins2, lt2, si2, nd2⟩ := s2
        obtain ⟨rfl, rfl⟩ := ps_nd_ok g3
        exact ih _ _ _ _ (ps_PO_op (by omega) o1' (by omega) o2') h
    · obtain ⟨rfl, rfl⟩ := ps_re_ok h
      exact o1'
theorem ps_ch_po {c : Nat → Int} {n : Nat} (hx : ps_TX c n) {rc : ps_E → ps_S → ps_R} (hr : ps_RC n rc) {e : ps_E} {s : ps_S} (hs : ps_SI n e s) : ∀ (f : Nat) (a : pt_T) (s1 : ps_S) (t : pt_T) (s' : ps_S), ps_PO n e s a s1 → ps_ch c n rc e f a s1 = some (.ok (t, s')) → ps_PO n e s t s' := by
  obtain ⟨gl, sc, ow, ne⟩ := e
  obtain ⟨p0, th0, la0, i0, lt0, si0, nd0⟩ := s
  intro f
  induction f with
  | zero => intro a s1 t s' _ h; cases h
  | succ f ih =>
    intro a s1 t s' o1' h
    have i1 := ps_PO_SI hs o1'
    obtain ⟨p1, th1, la1, ins1, lt1, si1, nd1⟩ := s1
    unfold ps_ch at h
    split at h
    · rename_i hk
      split at h
      · cases h
      · rename_i ht
        obtain ⟨t3, s3, g3, h⟩ := ps_bd_ok h
        obtain ⟨b, s2, g2, g3⟩ := ps_bd_ok g3
        have o2' := hr _ _ _ _ (ps_SI_op (d := 1) i1 (q := p1) (by omega) i1.1 ht (by omega)) g2
        obtain ⟨p2, th2, la2, ins2, lt2, si2, nd2⟩ := s2
        obtain ⟨rfl, rfl⟩ := ps_nd_ok g3
        exact ih _ _ _ _ (ps_PO_site o1' (by omega) o2') h
    · obtain ⟨rfl, rfl⟩ := ps_re_ok h
      exact o1'
theorem ps_atom_po {c : Nat → Int} {n : Nat} (hx : ps_TX c n) {fr : Bool} {rc : ps_E → ps_S → ps_R} (hr : ps_RC n rc) {e : ps_E} {s s' : ps_S} {t : pt_T} (hs : ps_SI n e s) (h : ps_atom c n fr rc e s = some (.ok (t, s'))) : ps_PO n e s t s' := by
  obtain ⟨gl, sc, ow, ne⟩ := e
  dsimp only [ps_atom] at h
  have hs0 := hs
  split at h
  · rename_i hk
    obtain ⟨h1, h⟩ := ps_if_ok h
    obtain ⟨a, s1, g1, h⟩ := ps_bd_ok h
    obtain ⟨k2, h⟩ := ps_ex_ok h
    obtain ⟨rfl, rfl⟩ := ps_re_ok h
    obtain ⟨p, th, la, ins, lt, si, nd⟩ := s
    obtain ⟨a1, a2, a3, a4, a5, a6, a7, a8, a9, a10, a11, a12, a13, a14, a15, a16, a17⟩ := hs
    have z := ps_sign hx a1 (by omega) (by omega) hk
    dsimp only at g1
    have o1 := hr _ _ _ _ (show ps_SI n (gl, sc, ow, ne + 1) (ps_sk c n p + 1, th, la, ins, lt, si, nd) from ⟨by omega, a2, a3, a4, a5, a6, a7, by omega, by omega, by omega, a11, a12, a13, a14, a15, a16, by omega⟩) g1
    obtain ⟨p1, th1, la1, ins1, lt1, si1, nd1⟩ := s1
    obtain ⟨b1, b2, b3, b4, b5, b6, b7, b8, b9, b10, b11, b12, b13, b14, b15, b16, b17⟩ := o1
    have z2 := ps_sign hx b1 (by omega) (by omega) k2
    show ps_PO n _ _ _ (ps_te c n (ps_sk c n p1), th1, la1, ins1, lt1, si1, nd1)
    exact ⟨by omega, b2, b3, b4, b5, b6, b7, b8, b9, b10, b11, by omega, b13, b14, b15, b16, b17⟩
  · split at h
    · rename_i hk
      exact ps_leaf_po hx (t := pt_num _) hs (by omega) trivial (ps_num hx hk).2.2.2.2.2.1 rfl h
    · split at h
      · rename_i hk
        exact ps_leaf_po hx (t := pt_dead _) hs (by omega) trivial trivial ⟨rfl, rfl⟩ h
      · split at h
        · rename_i hk
          have nm := (ps_name hx hk).1
          unfold ps_word at h
          split at h
          · rename_i v hv
            exact ps_leaf_po hx (t := pt_var _ _) hs (by omega) trivial ⟨hv, nm⟩ rfl h
          · rename_i hv
            split at h
            · rename_i g hg
              exact ps_leaf_po hx (t := pt_glo _ _) hs (by omega) trivial ⟨hv, hg, nm⟩ rfl h
            · cases h
        · cases h
theorem ps_t_po {c : Nat → Int} {n : Nat} (hx : ps_TX c n) {fr : Bool} : ∀ (f m : Nat) (e : ps_E) (s : ps_S) (t : pt_T) (s' : ps_S), (m = 1 → ps_tk c n (ps_sk c n s.1) = 92) → (m = 2 → ps_tk c n (ps_sk c n s.1) = 26982) → (m = 3 → ps_tk c n (ps_sk c n s.1) = 7103860) → ps_SI n e s → ps_t c n fr f m e s = some (.ok (t, s')) → ps_PO n e s t s' := by
  intro f
  induction f with
  | zero => intro m e s t s' _ _ _ _ h; cases h
  | succ f ih =>
    intro m e s t s' m1 m2 m3 hs h
    have hr : ∀ m, m = 0 ∨ 3 < m → ps_RC n (ps_t c n fr f m) := fun m hm e s t s' hs h => ih m e s t s' (by omega) (by omega) (by omega) hs h
    unfold ps_t at h
    split at h
    · unfold ps_expr at h
      split at h
      · rename_i k; exact ih 1 e s t s' (fun _ => k) (by omega) (by omega) hs h
      · split at h
        · rename_i k; exact ih 2 e s t s' (by omega) (fun _ => k) (by omega) hs h
        · split at h
          · rename_i k; exact ih 3 e s t s' (by omega) (by omega) (fun _ => k) hs h
          · exact ih 4 e s t s' (by omega) (by omega) (by omega) hs h
    · exact ps_lam_po hx (hr 0 (by omega)) hs (m1 rfl) h
    · exact ps_cho_po hx (hr 0 (by omega)) hs (m2 rfl) h
    · exact ps_let_po hx (hr 0 (by omega)) hs (m3 rfl) h
    · exact ps_tst_po hx (hr 5 (by omega)) hs h
    · obtain ⟨a, s1, g1, h⟩ := ps_bd_ok h
      exact ps_lp_po hx (by omega) (hr 6 (by omega)) hs _ _ _ _ _ (hr 6 (by omega) _ _ _ _ hs g1) h
    · obtain ⟨a, s1, g1, h⟩ := ps_bd_ok h
      exact ps_lp_po hx (by omega) (hr 7 (by omega)) hs _ _ _ _ _ (hr 7 (by omega) _ _ _ _ hs g1) h
    · obtain ⟨a, s1, g1, h⟩ := ps_bd_ok h
      exact ps_ch_po hx (hr 8 (by omega)) hs _ _ _ _ _ (hr 8 (by omega) _ _ _ _ hs g1) h
    · exact ps_atom_po hx (hr 0 (by omega)) hs h
    · cases h
theorem ps_lam_si {c : Nat → Int} {n : Nat} (hx : ps_TX c n) {gl : List Nat} {sc : List (Nat × Nat)} {ow : Int} {ne p th la lt si nd : Nat} {ins : List Nat} (hs : ps_SI n (gl, sc, ow, ne) (p, th, la, ins, lt, si, nd)) (hk : ps_tk c n (ps_sk c n p) = 92) (c1 : la ≠ 18) (c2 : th ≠ 100) (k2 : ps_tk c n (ps_sk c n (ps_sk c n p + 1)) = 2) (k3 : ps_tk c n (ps_sk c n (ps_te c n (ps_sk c n (ps_sk c n p + 1)))) = 46) : ps_SI n (gl, (6 + la, ps_tv c n (ps_sk c n (ps_sk c n p + 1))) :: sc, ((6 + la : Nat) : Int), ne + 1) (ps_te c n (ps_sk c n (ps_te c n (ps_sk c n (ps_sk c n p + 1)))), th + 1, la + 1, ins, lt, si, nd) := by
  obtain ⟨a1, a2, a3, a4, a5, a6, a7, a8, a9, a10, a11, a12, a13, a14, a15, a16, a17⟩ := hs
  have z0 := ps_sign hx a1 (by omega) (by omega) hk
  have z1 := ps_name hx k2
  have z1' := ps_sk_p hx (ps_sk c n p + 1) (by omega)
  have z2 := ps_sign hx z1.2.2.2 (by omega) (by omega) k3
  refine ⟨by omega, by omega, by omega, by omega, by omega, by omega, by omega, by omega, by omega, ?_, ?_, ?_, a13, a14, a15, a16, by omega⟩
  · rw [List.length_cons]; omega
  · rw [List.length_cons]; omega
  · intro b hb
    rcases List.mem_cons.mp hb with rfl | hb
    · exact ⟨Or.inl (by show 6 + la < 6 + (la + 1); omega), z1.1⟩
    · refine ⟨?_, (a12 b hb).2⟩
      have := (a12 b hb).1
      unfold pk_lb at this ⊢
      omega
theorem ps_word_si {c : Nat → Int} {n K : Nat} (hx : ps_TX c n) {gl : List Nat} {sc : List (Nat × Nat)} {ow : Int} {ne p th la lt si nd d : Nat} {ins : List Nat} (hs : ps_SI n (gl, sc, ow, ne) (p, th, la, ins, lt, si, nd)) (hk : ps_tk c n (ps_sk c n p) = K) (hK : 93 ≤ K) (c2 : d = 0 ∨ th ≠ 100) (hd : d ≤ 1) : ps_SI n (gl, sc, ow, ne + d) (ps_te c n (ps_sk c n p), th + d, la, ins, lt, si, nd) := by
  obtain ⟨a1, a2, a3, a4, a5, a6, a7, a8, a9, a10, a11, a12, a13, a14, a15, a16, a17⟩ := hs
  have z0 := ps_word_len hx (s := ps_sk c n p) (by omega)
  have z0' := ps_sk_p hx p a1
  exact ⟨z0.1, by omega, by omega, by omega, a5, by omega, by omega, by omega, by omega, by omega, by omega, a12, a13, a14, a15, a16, by omega⟩
theorem ps_let_si {c : Nat → Int} {n : Nat} (hx : ps_TX c n) {gl : List Nat} {sc : List (Nat × Nat)} {ow : Int} {ne p th la lt si nd : Nat} {ins : List Nat} (hs : ps_SI n (gl, sc, ow, ne) (p, th, la, ins, lt, si, nd)) (hk : ps_tk c n (ps_sk c n p) = 7103860) (c2 : th ≠ 100) (k1 : ps_tk c n (ps_sk c n (ps_te c n (ps_sk c n p))) = 2) (k2 : ps_tk c n (ps_sk c n (ps_te c n (ps_sk c n (ps_te c n (ps_sk c n p))))) = 61) : ps_SI n (gl, sc, ow, ne + 1) (ps_te c n (ps_sk c n (ps_te c n (ps_sk c n (ps_te c n (ps_sk c n p))))), th + 1, la, ins, lt + 1, si, nd) ∧ pk_nm (ps_tv c n (ps_sk c n (ps_te c n (ps_sk c n p)))) ∧ ps_sk c n p + 6 ≤ ps_te c n (ps_sk c n (ps_te c n (ps_sk c n (ps_te c n (ps_sk c n p))))) := by
  obtain ⟨a1, a2, a3, a4, a5, a6, a7, a8, a9, a10, a11, a12, a13, a14, a15, a16, a17⟩ := hs
  have z0 := ps_word_len hx (s := ps_sk c n p) (by rw [hk]; omega)
  rw [hk] at z0
  have z0' := ps_sk_p hx p a1
  have z1 := ps_name hx k1
  have z1' := ps_sk_p hx (ps_te c n (ps_sk c n p)) z0.1
  have z1'' : ps_sk c n (ps_te c n (ps_sk c n p)) ≠ ps_te c n (ps_sk c n p) := by
    intro he
    rw [he] at k1
    have := (ps_kw_tk2 k1).1
    rw [z0.2.2.2.2.2] at this
    cases this
  have z2 := ps_sign hx z1.2.2.2 (by omega) (by omega) k2
  exact ⟨⟨by omega, by omega, by omega, by omega, a5, by omega, by omega, by omega, by omega, by omega, by omega, a12, fun x hx => ⟨(a13 x hx).1, by have := (a13 x hx).2; omega⟩, a14, a15, a16, by omega⟩, z1.1, by omega⟩
/-- the state behind in -/
theorem ps_let_sj {c : Nat → Int} {n : Nat} (hx : ps_TX c n) {gl : List Nat} {sc : List (Nat × Nat)} {ow : Int} {ne p th la lt si nd p2 p1 th1 la1 lt1 si1 nd1 x : Nat} {ins ins1 : List Nat} {a : pt_T} (hs : ps_SI n (gl, sc, ow, ne) (p, th, la, ins, lt, si, nd)) (hp2 : p + 6 ≤ p2) (i1 : ps_SI n (gl, sc, ow, ne + 1) (p2, th + 1, la, ins, lt + 1, si, nd)) (o1 : ps_PO n (gl, sc, ow, ne + 1) (p2, th + 1, la, ins, lt + 1, si, nd) a (p1, th1, la1, ins1, lt1, si1, nd1)) (nm : pk_nm x) (k3 : ps_tk c n (ps_sk c n p1) = 26990) : ps_SI n (gl, (24 + ins1.length, x) :: sc, ow, ne + 1) (ps_te c n (ps_sk c n p1), th1, la1, ins1 ++ [24 + lt], lt1, si1, nd1) ∧ (ins1 ++ [24 + lt]).length = ins1.length + 1 := by
  have i2' := ps_PO_SI i1 o1
  obtain ⟨a1, a2, a3, a4, a5, a6, a7, a8, a9, a10, a11, a12, a13, a14, a15, a16, a17⟩ := hs
  obtain ⟨b1, b2, b3, b4, b5, b6, b7, b8, b9, b10, b11, b12, b13, b14, b15, b16, b17⟩ := o1
  have z3 := ps_word_len hx (s := ps_sk c n p1) (by rw [k3]; omega)
  rw [k3] at z3
  have z3' := ps_sk_p hx p1 b1
  have nin : 24 + lt ∉ ins1 := by
    intro hm
    obtain ⟨l, rfl, hl⟩ := b13
    rcases List.mem_append.mp hm with q | q
    · have := a13 _ q; omega
    · have := hl _ q; omega
  have nod : (ins1 ++ [24 + lt]).Nodup := by
    rw [List.nodup_append]
    refine ⟨b14, by simp, ?_⟩
    intro x hx y hy
    rw [List.mem_singleton] at hy
    subst hy
    intro q
    subst q
    exact nin hx
  obtain ⟨e1, e2, e3, e4, e5, e6, e7, e8, e9, e10, e11, e12, e13, e14, e15, e16, e17⟩ := i2'
  have el : (ins1 ++ [24 + lt]).length = ins1.length + 1 := by simp
  refine ⟨⟨z3.1, e2, e3, e4, e5, e6, by omega, by omega, by omega, ?_, ?_, ?_, ?_, nod, e15, e16, by omega⟩, el⟩
  · rw [List.length_cons]; omega
  · rw [List.length_cons]; omega
  · intro b hb
    rw [el]
    rcases List.mem_cons.mp hb with rfl | hb
    · exact ⟨Or.inr ⟨by omega, by omega⟩, nm⟩
    · refine ⟨?_, (e12 b hb).2⟩
      have := (e12 b hb).1
      unfold pk_lb at this ⊢
      omega
  · intro x hx
    rcases List.mem_append.mp hx with q | q
    · exact e13 x q
    · rw [List.mem_singleton] at q; subst q; omega
