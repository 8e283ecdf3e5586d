/-! PHASE B. The whole text -/
def pk_GW : ps_G → List Nat → pk_K → pk_K → Prop
  | [], _, k, k' => k' = k
  | (x, v, t) :: r, gl, k, k' => pk_nm x ∧ x ∉ gl ∧ pk_nm v ∧ pt_tw t ∧ pk_wfs t (gl ++ [x]) [(gl.length, v)] ∧ ∃ k1, pk_can t k k1 ∧ pk_GW r (gl ++ [x]) k1 k'
def pk_gn (gs : ps_G) : List Nat := gs.map (fun g => g.1)
theorem pk_gn_len (gs : ps_G) : (pk_gn gs).length = gs.length := List.length_map _
theorem pk_gn_snoc (gs : ps_G) (x v : Nat) (t : pt_T) : pk_gn (gs ++ [(x, v, t)]) = pk_gn gs ++ [x] := by
  unfold pk_gn
  rw [List.map_append]
  rfl
theorem pk_GW_snoc : ∀ (gs : ps_G) (gl : List Nat) (k k1 k2 : pk_K) (x v : Nat) (t : pt_T), pk_GW gs gl k k1 → pk_nm x → x ∉ gl ++ pk_gn gs → pk_nm v → pt_tw t → pk_wfs t (gl ++ pk_gn gs ++ [x]) [((gl ++ pk_gn gs).length, v)] → pk_can t k1 k2 → pk_GW (gs ++ [(x, v, t)]) gl k k2 := by
  intro gs
  induction gs with
  | nil =>
    intro gl k k1 k2 x v t h hx hn hv ht hw hc
    cases h
    have e : gl ++ pk_gn [] = gl := List.append_nil gl
    rw [e] at hn hw
    exact ⟨hx, hn, hv, ht, hw, k2, hc, rfl⟩
  | cons g r ih =>
    intro gl k k1 k2 x v t h hx hn hv ht hw hc
    obtain ⟨x0, v0, t0⟩ := g
    obtain ⟨h1, h2, h3, h4, h5, k3, h6, h7⟩ := h
    have e : gl ++ pk_gn ((x0, v0, t0) :: r) = (gl ++ [x0]) ++ pk_gn r := by
      show gl ++ (x0 :: pk_gn r) = _
      rw [List.append_assoc]
      rfl
    rw [e] at hn hw
    exact ⟨h1, h2, h3, h4, h5, k3, h6, ih (gl ++ [x0]) k3 k1 k2 x v t h7 hx hn hv ht hw hc⟩
def ps_Kof (s : ps_S) : pk_K := (s.2.2.1, s.2.2.2.1.length, s.2.2.2.2.2.1, s.2.2.2.2.2.2)
theorem ps_qb_ok {x : ps_R} {f : pt_T → ps_S → ps_Q} {q : ps_G × pt_T × ps_S} (h : ps_qb x f = some (.ok q)) : ∃ t s, x = some (.ok (t, s)) ∧ f t s = some (.ok q) := by
  unfold ps_qb at h
  split at h
  · cases h
  · cases h
  · exact ⟨_, _, rfl, h⟩
/-- from GLOBAL to GLOBAL -/
theorem ps_glo_si {c : Nat → Int} {n : Nat} (hx : ps_TX c n) {gl : List Nat} {p x v : Nat} {r : Nat × Nat × List Nat × Nat × Nat × Nat} (hs : ps_SI n (gl, [], -1, 0) (p, r)) (hg : gl.length < 6) (q : Nat) (hpq : p ≤ q) (hq : q ≤ n) (hxn : pk_nm x) (hv : pk_nm v) : ps_SI n (gl ++ [x], [(gl.length, v)], (gl.length : Int), 0) (q, r) := by
  obtain ⟨th, la, ins, lt, si, nd⟩ := r
  obtain ⟨a1, a2, a3, a4, a5, a6, a7, a8, a9, a10, a11, a12, a13, a14, a15, a16, a17⟩ := hs
  refine ⟨hq, a2, a3, a4, a5, a6, a7, a8, by omega, by simp, by simp; omega, ?_, a13, a14, by simp; omega, ?_, by omega⟩
  · intro b hb
    rw [List.mem_singleton] at hb
    subst hb
    exact ⟨Or.inl (by show gl.length < 6 + la; omega), hv⟩
  · intro y hy
    rcases List.mem_append.mp hy with h | h
    · exact a16 y h
    · rw [List.mem_singleton] at h; rw [h]; exact hxn
theorem ps_glo_sj {c : Nat → Int} {n : Nat} (hx : ps_TX c n) {gl' : List Nat} {p v g : Nat} {r r' : Nat × Nat × List Nat × Nat × Nat × Nat} {t : pt_T} {p' q : Nat} {ow : Int} (hs : ps_SI n (gl', [(g, v)], ow, 0) (p, r)) (o : ps_PO n (gl', [(g, v)], ow, 0) (p, r) t (p', r')) (hpq : p' ≤ q) (hq : q ≤ n) : ps_SI n (gl', [], -1, 0) (q, r') := by
  have h := ps_PO_SI hs o
  obtain ⟨th, la, ins, lt, si, nd⟩ := r'
  obtain ⟨a1, a2, a3, a4, a5, a6, a7, a8, a9, a10, a11, a12, a13, a14, a15, a16, a17⟩ := h
  refine ⟨hq, a2, a3, a4, a5, a6, a7, a8, by omega, by simp, by simp, ?_, a13, a14, a15, a16, by omega⟩
  intro b hb
  cases hb
theorem ps_all_po {c : Nat → Int} {n : Nat} (hx : ps_TX c n) {fr : Bool} : ∀ (f : Nat) (gs : ps_G) (s : ps_S) (gs' : ps_G) (t : pt_T) (s' : ps_S), gs.length ≤ 6 → ps_SI n (pk_gn gs, [], -1, 0) s → s.2.1 = s.2.2.2.2.2.2 → pk_GW gs [] (0, 0, 0, 0) (ps_Kof s) → ps_all c n fr f gs s = some (.ok (gs', t, s')) → gs'.length ≤ 6 ∧ ps_SI n (pk_gn gs', [], -1, 0) s' ∧ s'.2.1 = s'.2.2.2.2.2.2 ∧ ∃ k1, pk_GW gs' [] (0, 0, 0, 0) k1 ∧ pt_tw t ∧ pk_wfs t (pk_gn gs') [] ∧ pk_can t k1 (ps_Kof s') := by
  intro f
  induction f with
  | zero => intro gs s gs' t s' _ _ _ _ h; cases h
  | succ f ih =>
    intro gs s gs' t s' hg hs ht hw h
    have hp : ps_RC n (ps_t c n fr 899 0) := fun e s t s' hs h => ps_t_po hx 899 0 e s t s' (by omega) (by omega) (by omega) hs h
    obtain ⟨p, r⟩ := s
    unfold ps_all at h
    dsimp only at h
    split at h
    · rename_i k1
      split at h
      · cases h
      · rename_i g6
        split at h
        · cases h
        · rename_i k2
          have k2' : ps_tk c n (ps_sk c n (ps_te c n (ps_sk c n p))) = 2 := by
            apply Decidable.byContradiction
            intro q
            exact k2 (Or.inl q)
          have k3 : ps_tv c n (ps_sk c n (ps_te c n (ps_sk c n p))) ∉ pk_gn gs := fun q => k2 (Or.inr q)
          unfold ps_glo at h
          split at h
          · cases h
          · rename_i k4
            have k4 : ps_tk c n (ps_sk c n (ps_te c n (ps_sk c n (ps_te c n (ps_sk c n p))))) = 2 := Decidable.byContradiction k4
            split at h
            · cases h
            · rename_i k5
              have k5 := Decidable.byContradiction k5
              obtain ⟨t1, s1, h1, h⟩ := ps_qb_ok h
              dsimp only at h1 h
              split at h
              · rename_i k6
                have hp1 : p ≤ n := by obtain ⟨th, la, ins, lt, si, nd⟩ := r; exact hs.1
                have z0 := (ps_word_len hx (s := ps_sk c n p) (by omega)).1
                have z0' := (ps_word_len hx (s := ps_sk c n p) (by omega)).2.1
                have s0 := ps_sk_p hx p hp1
                have z1 := ps_name hx k2'
                have s1' := ps_sk_p hx _ z0
                have z2 := ps_name hx k4
                have s2' := ps_sk_p hx _ z1.2.2.2
                have z3 := ps_sign hx z2.2.2.2 (by decide) (by decide) k5
                rw [z3.2.2] at h1
                have gl : (pk_gn gs).length = gs.length := pk_gn_len gs
                have i1 := ps_glo_si hx hs (by omega) (ps_sk c n (ps_te c n (ps_sk c n (ps_te c n (ps_sk c n (ps_te c n (ps_sk c n p)))))) + 1) (by omega) (by omega) z1.1 z2.1
                rw [gl] at i1
                have o1 := hp _ _ _ _ i1 h1
                obtain ⟨p1, r1⟩ := s1
                have j1 := ps_PO_SI i1 o1
                have hp2 : p1 ≤ n := by obtain ⟨th, la, ins, lt, si, nd⟩ := r1; exact j1.1
                have z4 := ps_sign hx hp2 (by decide) (by decide) k6
                have i2 := ps_glo_sj hx i1 o1 (q := ps_te c n (ps_sk c n p1)) (by omega) (by omega)
                rw [← pk_gn_snoc gs _ (ps_tv c n (ps_sk c n (ps_te c n (ps_sk c n (ps_te c n (ps_sk c n p)))))) t1] at i2
                refine ih _ _ _ _ _ (by simp; omega) i2 ?_ ?_ h
                · obtain ⟨th, la, ins, lt, si, nd⟩ := r
                  obtain ⟨th1, la1, ins1, lt1, si1, nd1⟩ := r1
                  obtain ⟨b1, b2, b3, _⟩ := o1
                  dsimp only at ht ⊢
                  omega
                · obtain ⟨th, la, ins, lt, si, nd⟩ := r
                  obtain ⟨th1, la1, ins1, lt1, si1, nd1⟩ := r1
                  obtain ⟨b1, b2, b3, b4, b5, b6⟩ := ps_PO_x o1
                  exact pk_GW_snoc gs [] _ _ _ _ _ _ hw z1.1 k3 z2.1 b2 (by rw [List.nil_append, gl]; exact b3) b4
              · cases h
    · obtain ⟨t1, s1, h1, h⟩ := ps_qb_ok h
      split at h
      · rename_i k6
        cases h
        have o1 := hp _ _ _ _ hs h1
        have j1 := ps_PO_SI hs o1
        obtain ⟨th, la, ins, lt, si, nd⟩ := r
        obtain ⟨p1, th1, la1, ins1, lt1, si1, nd1⟩ := s'
        obtain ⟨b1, b2, b3, b4, b5, b6⟩ := ps_PO_x o1
        obtain ⟨c1, c2, c3, _⟩ := o1
        refine ⟨hg, j1, ?_, _, hw, b2, b3, b4⟩
        dsimp only at ht ⊢
        omega
      · cases h
