/-! with the limit of depth the fuel never ends -/
theorem ps_bd_ne {x : ps_R} {f : pt_T → ps_S → ps_R} (h : x ≠ none) (hf : ∀ t s, x = some (.ok (t, s)) → f t s ≠ none) : ps_bd x f ≠ none := by
  cases x with
  | none => exact absurd rfl h
  | some x =>
    cases x with
    | error z => intro q; cases q
    | ok u =>
      obtain ⟨t, s⟩ := u
      exact hf t s rfl
theorem ps_er_ne {z : Nat} : ps_er z ≠ none := by intro q; cases q
theorem ps_nd_ne {t : pt_T} {s : ps_S} : ps_nd t s ≠ none := by
  obtain ⟨p, th, la, ins, lt, si, nd⟩ := s
  intro q; cases q
def pk_T (n k : Nat) (rs : ps_E → ps_S → ps_R) : Prop := ∀ e s, ps_SI n e s → e.2.2.2 = k → rs e s ≠ none
theorem ps_lp_ne {c : Nat → Int} {n o1 o2 k : Nat} {rs : ps_E → ps_S → ps_R} (hx : ps_TX c n) (hp : ps_RC n rs) (hr : pk_T n k rs) (ho : (o1 = 43 ∧ o2 = 45) ∨ (o1 = 42 ∧ o2 = 47)) {e : ps_E} (he : e.2.2.2 = k) : ∀ (f : Nat) (a : pt_T) (s1 : ps_S), ps_SI n e s1 → 101 ≤ f + s1.2.1 → ps_lp c n o1 o2 rs e f a s1 ≠ none := by
  intro f
  induction f with
  | zero =>
    intro a s1 hs hf
    obtain ⟨gl, sc, ow, ne⟩ := e
    obtain ⟨p1, th1, la1, ins1, lt1, si1, nd1⟩ := s1
    have := (ps_SI_z hs).2.2.2.2.2.2.2.1
    dsimp only at hf
    omega
  | succ f ih =>
    intro a s1 hs hf
    obtain ⟨gl, sc, ow, ne⟩ := e
    obtain ⟨p1, th1, la1, ins1, lt1, si1, nd1⟩ := s1
    unfold ps_lp
    dsimp only at hf ⊢
    by_cases k1 : ps_tk c n (ps_sk c n p1) = o1 ∨ ps_tk c n (ps_sk c n p1) = o2
    · rw [if_pos k1]
      by_cases c2 : th1 = 100
      · rw [if_pos c2]; exact ps_er_ne
      rw [if_neg c2]
      have z := ps_sk_p hx p1 hs.1
      have zz := ps_sign hx (k := ps_tk c n (ps_sk c n p1)) hs.1 (by omega) (by omega) rfl
      have i2 : ps_SI n (gl, sc, ow, ne) (ps_sk c n p1 + 1, th1 + 1, la1, ins1, lt1, si1, nd1) := ps_SI_op (d := 0) hs (q := ps_sk c n p1 + 1) (Nat.le_trans z.1 (Nat.le_succ _)) (Nat.succ_le_of_lt zz.2.1) c2 (by decide)
      refine ps_bd_ne (ps_bd_ne (hr _ _ i2 he) (fun t s _ => ps_nd_ne)) (fun t s h => ?_)
      cases hq : rs (gl, sc, ow, ne) (ps_sk c n p1 + 1, th1 + 1, la1, ins1, lt1, si1, nd1) with
      | none => rw [hq] at h; cases h
      | some r =>
        cases r with
        | error z => rw [hq] at h; cases h
        | ok u =>
          obtain ⟨b, s2⟩ := u
          have o2 := hp _ _ _ _ i2 hq
          have j2 := ps_PO_SI i2 o2
          rw [hq] at h
          obtain ⟨p2, th2, la2, ins2, lt2, si2, nd2⟩ := s2
          cases h
          have t2 := (ps_PO_w o2).2.2.2
          refine ih _ _ ?_ (by dsimp only; omega)
          have nn : nd2 + 1 ≤ th2 := by
            have := (ps_PO_w o2).2.2.1
            have := (ps_SI_z hs).2.2.2.2.1
            omega
          obtain ⟨a1, a2, a3, a4⟩ := j2
          exact ⟨a1, a2, nn, a4⟩
    · rw [if_neg k1]
      intro q; cases q
theorem ps_ch_ne {c : Nat → Int} {n k : Nat} {rs : ps_E → ps_S → ps_R} (hp : ps_RC n rs) (hr : pk_T n k rs) {e : ps_E} (he : e.2.2.2 = k) : ∀ (f : Nat) (a : pt_T) (s1 : ps_S), ps_SI n e s1 → 101 ≤ f + s1.2.1 → ps_ch c n rs e f a s1 ≠ none := by
  intro f
  induction f with
  | zero =>
    intro a s1 hs hf
    obtain ⟨gl, sc, ow, ne⟩ := e
    obtain ⟨p1, th1, la1, ins1, lt1, si1, nd1⟩ := s1
    have := (ps_SI_z hs).2.2.2.2.2.2.2.1
    dsimp only at hf
    omega
  | succ f ih =>
    intro a s1 hs hf
    obtain ⟨gl, sc, ow, ne⟩ := e
    obtain ⟨p1, th1, la1, ins1, lt1, si1, nd1⟩ := s1
    unfold ps_ch
    dsimp only at hf ⊢
    by_cases k1 : ps_sa c n (ps_sk c n p1) = true
    · rw [if_pos k1]
      by_cases c2 : th1 = 100
      · rw [if_pos c2]; exact ps_er_ne
      rw [if_neg c2]
      have i2 : ps_SI n (gl, sc, ow, ne) (p1, th1 + 1, la1, ins1, lt1, si1 + 1, nd1) := ps_SI_op (d := 1) hs (q := p1) (Nat.le_refl _) hs.1 c2 (by decide)
      refine ps_bd_ne (ps_bd_ne (hr _ _ i2 he) (fun t s _ => ps_nd_ne)) (fun t s h => ?_)
      cases hq : rs (gl, sc, ow, ne) (p1, th1 + 1, la1, ins1, lt1, si1 + 1, nd1) with
      | none => rw [hq] at h; cases h
      | some r =>
        cases r with
        | error z => rw [hq] at h; cases h
        | ok u =>
          obtain ⟨b, s2⟩ := u
          have o2 := hp _ _ _ _ i2 hq
          have j2 := ps_PO_SI i2 o2
          rw [hq] at h
          obtain ⟨p2, th2, la2, ins2, lt2, si2, nd2⟩ := s2
          cases h
          have t2 := (ps_PO_w o2).2.2.2
          refine ih _ _ ?_ (by dsimp only; omega)
          have nn : nd2 + 1 ≤ th2 := by
            have := (ps_PO_w o2).2.2.1
            have := (ps_SI_z hs).2.2.2.2.1
            omega
          obtain ⟨a1, a2, a3, a4⟩ := j2
          exact ⟨a1, a2, nn, a4⟩
    · rw [if_neg k1]
      intro q; cases q
theorem ps_t_ne {c : Nat → Int} {n : Nat} (hx : ps_TX c n) : ∀ (f m : Nat) (e : ps_E) (s : ps_S), m ≤ 8 → e.2.2.2 ≤ 20 → 6 * (21 - e.2.2.2) ≤ f + (if m = 0 then 0 else if m < 4 then 1 else m - 3) → (m = 1 → ps_tk c n (ps_sk c n s.1) = 92) → (m = 2 → ps_tk c n (ps_sk c n s.1) = 26982) → (m = 3 → ps_tk c n (ps_sk c n s.1) = 7103860) → ps_SI n e s → ps_t c n false f m e s ≠ none := by
  intro f
  induction f with
  | zero =>
    intro m e s hm he hf
    split at hf
    · omega
    · split at hf <;> omega
  | succ f ih =>
    intro m e s hm he hf m1 m2 m3 hs
    obtain ⟨gl, sc, ow, ne⟩ := e
    obtain ⟨p, th, la, ins, lt, si, nd⟩ := s
    dsimp only at he hf
    have hp : ∀ m, m = 0 ∨ 3 < m → ps_RC n (ps_t c n false f m) := fun m hm e s t s' hs h => ps_t_po hx f m e s t s' (by omega) (by omega) (by omega) hs h
    have up : ne ≠ 20 → 6 * (20 - ne) ≤ f → pk_T n (ne + 1) (ps_t c n false f 0) := fun h g e s hs k => ih 0 e s (by omega) (by omega) (by rw [if_pos rfl, k]; omega) (by omega) (by omega) (by omega) hs
    have go : ∀ m, 4 ≤ m → m ≤ 8 → 6 * (21 - ne) ≤ f + (m - 3) → pk_T n ne (ps_t c n false f m) := fun m a b g e s hs k => ih m e s b (by omega) (by rw [if_neg (by omega), if_neg (by omega), k]; exact g) (by omega) (by omega) (by omega) hs
    match m, m1, m2, m3, hm, hf with
    | 0, _, _, _, _, hf =>
      rw [if_pos rfl] at hf
      show ps_expr c n (ps_t c n false f 1) (ps_t c n false f 2) (ps_t c n false f 3) (ps_t c n false f 4) (gl, sc, ow, ne) (p, th, la, ins, lt, si, nd) ≠ none
      unfold ps_expr
      dsimp only
      have j : ∀ m, 1 ≤ m → m ≤ 4 → (m = 1 → ps_tk c n (ps_sk c n p) = 92) → (m = 2 → ps_tk c n (ps_sk c n p) = 26982) → (m = 3 → ps_tk c n (ps_sk c n p) = 7103860) → ps_t c n false f m (gl, sc, ow, ne) (p, th, la, ins, lt, si, nd) ≠ none := fun m a b h1 h2 h3 => ih m _ _ (by omega) he (by rw [if_neg (by omega)]; dsimp only; split <;> omega) h1 h2 h3 hs
      split
      · rename_i k; exact j 1 (by decide) (by decide) (fun _ => k) (by omega) (by omega)
      · split
        · rename_i k; exact j 2 (by decide) (by decide) (by omega) (fun _ => k) (by omega)
        · split
          · rename_i k; exact j 3 (by decide) (by decide) (by omega) (by omega) (fun _ => k)
          · exact j 4 (by decide) (by decide) (by omega) (by omega) (by omega)
    | 1, m1, _, _, _, hf =>
      rw [if_neg (by decide), if_pos (by decide)] at hf
      show ps_lam c n false (ps_t c n false f 0) (gl, sc, ow, ne) (p, th, la, ins, lt, si, nd) ≠ none
      dsimp only [ps_lam, ps_nm, ps_ex]
      by_cases cc : la = 18 ∨ th = 100 ∨ ne = 20 ∧ (false = false)
      · rw [if_pos cc]; exact ps_er_ne
      rw [if_neg cc]
      split
      · rename_i g1
        split
        · rename_i g2
          exact ps_bd_ne (up (fun q => cc (Or.inr (Or.inr ⟨q, rfl⟩))) (by omega) _ _ (ps_lam_si hx hs (m1 rfl) (fun q => cc (Or.inl q)) (fun q => cc (Or.inr (Or.inl q))) g1 g2) rfl) (fun _ _ _ => ps_nd_ne)
        · exact ps_er_ne
      · exact ps_er_ne
    | 2, _, m2, _, _, hf =>
      rw [if_neg (by decide), if_pos (by decide)] at hf
      show ps_cho c n false (ps_t c n false f 0) (gl, sc, ow, ne) (p, th, la, ins, lt, si, nd) ≠ none
      dsimp only [ps_cho, ps_ex]
      by_cases cc : th = 100 ∨ ne = 20 ∧ (false = false)
      · rw [if_pos cc]; exact ps_er_ne
      rw [if_neg cc]
      have u := up (fun q => cc (Or.inr ⟨q, rfl⟩)) (by omega)
      have i1 : ps_SI n (gl, sc, ow, ne + 1) (ps_te c n (ps_sk c n p), th + 1, la, ins, lt, si, nd) := ps_word_si hx (d := 1) hs (m2 rfl) (by decide) (Or.inr (fun q => cc (Or.inl q))) (Nat.le_refl 1)
      refine ps_bd_ne (u _ _ i1 rfl) (fun a s1 h1 => ?_)
      have j1 := ps_PO_SI i1 (hp 0 (by omega) _ _ _ _ i1 h1)
      obtain ⟨p1, th1, la1, ins1, lt1, si1, nd1⟩ := s1
      dsimp only
      split
      · rename_i q1
        have i2 : ps_SI n (gl, sc, ow, ne + 1) (ps_te c n (ps_sk c n p1), th1, la1, ins1, lt1, si1, nd1) := ps_word_si hx (d := 0) j1 q1 (by decide) (Or.inl rfl) (by decide)
        refine ps_bd_ne (u _ _ i2 rfl) (fun b s2 h2 => ?_)
        have j2 := ps_PO_SI i2 (hp 0 (by omega) _ _ _ _ i2 h2)
        obtain ⟨p2, th2, la2, ins2, lt2, si2, nd2⟩ := s2
        dsimp only
        split
        · rename_i u1
          have i3 : ps_SI n (gl, sc, ow, ne + 1) (ps_te c n (ps_sk c n p2), th2, la2, ins2, lt2, si2, nd2) := ps_word_si hx (d := 0) j2 u1 (by decide) (Or.inl rfl) (by decide)
          exact ps_bd_ne (u _ _ i3 rfl) (fun _ _ _ => ps_nd_ne)
        · exact ps_er_ne
      · exact ps_er_ne
    | 3, _, _, m3, _, hf =>
      rw [if_neg (by decide), if_pos (by decide)] at hf
      show ps_let c n false (ps_t c n false f 0) (gl, sc, ow, ne) (p, th, la, ins, lt, si, nd) ≠ none
      dsimp only [ps_let, ps_nm, ps_ex]
      by_cases cc : th = 100 ∨ ne = 20 ∧ (false = false)
      · rw [if_pos cc]; exact ps_er_ne
      rw [if_neg cc]
      have u := up (fun q => cc (Or.inr ⟨q, rfl⟩)) (by omega)
      split
      · rename_i g1
        split
        · rename_i g2
          obtain ⟨i1, nm, p6⟩ := ps_let_si hx hs (m3 rfl) (fun q => cc (Or.inl q)) g1 g2
          have zp := (ps_sk_p hx p hs.1).1
          refine ps_bd_ne (u _ _ i1 rfl) (fun a s1 h1 => ?_)
          have o1 := hp 0 (by omega) _ _ _ _ i1 h1
          obtain ⟨p1, th1, la1, ins1, lt1, si1, nd1⟩ := s1
          dsimp only
          split
          · rename_i g3
            have i2 := (ps_let_sj hx hs (Nat.le_trans (Nat.add_le_add_right zp 6) p6) i1 o1 nm g3).1
            exact ps_bd_ne (u _ _ i2 rfl) (fun _ _ _ => ps_nd_ne)
          · exact ps_er_ne
        · exact ps_er_ne
      · exact ps_er_ne
    | 4, _, _, _, _, hf =>
      rw [if_neg (by decide), if_neg (by decide)] at hf
      show ps_tst c n (ps_t c n false f 5) (gl, sc, ow, ne) (p, th, la, ins, lt, si, nd) ≠ none
      unfold ps_tst
      have g := go 5 (by decide) (by decide) (by omega)
      refine ps_bd_ne (g _ _ hs rfl) (fun a s1 h1 => ?_)
      have j1 := ps_PO_SI hs (hp 5 (by omega) _ _ _ _ hs h1)
      obtain ⟨p1, th1, la1, ins1, lt1, si1, nd1⟩ := s1
      dsimp only
      split
      · rename_i k1
        split
        · exact ps_er_ne
        · rename_i c2
          have z := ps_sk_p hx p1 j1.1
          have zz := ps_sign hx j1.1 (by decide) (by decide) k1
          have i2 : ps_SI n (gl, sc, ow, ne) (ps_sk c n p1 + 1, th1 + 1, la1, ins1, lt1, si1, nd1) := ps_SI_op (d := 0) j1 (q := ps_sk c n p1 + 1) (Nat.le_trans z.1 (Nat.le_succ _)) (Nat.succ_le_of_lt zz.2.1) c2 (by decide)
          exact ps_bd_ne (g _ _ i2 rfl) (fun _ _ _ => ps_nd_ne)
      · intro q; cases q
    | 5, _, _, _, _, hf =>
      rw [if_neg (by decide), if_neg (by decide)] at hf
      have g := go 6 (by decide) (by decide) (by omega)
      exact ps_bd_ne (g _ _ hs rfl) (fun a s1 h1 => ps_lp_ne hx (hp 6 (by omega)) g (Or.inl ⟨rfl, rfl⟩) rfl 200 a s1 (ps_PO_SI hs (hp 6 (by omega) _ _ _ _ hs h1)) (by omega))
    | 6, _, _, _, _, hf =>
      rw [if_neg (by decide), if_neg (by decide)] at hf
      have g := go 7 (by decide) (by decide) (by omega)
      exact ps_bd_ne (g _ _ hs rfl) (fun a s1 h1 => ps_lp_ne hx (hp 7 (by omega)) g (Or.inr ⟨rfl, rfl⟩) rfl 200 a s1 (ps_PO_SI hs (hp 7 (by omega) _ _ _ _ hs h1)) (by omega))
    | 7, _, _, _, _, hf =>
      rw [if_neg (by decide), if_neg (by decide)] at hf
      have g := go 8 (by decide) (by decide) (by omega)
      exact ps_bd_ne (g _ _ hs rfl) (fun a s1 h1 => ps_ch_ne (hp 8 (by omega)) g rfl 200 a s1 (ps_PO_SI hs (hp 8 (by omega) _ _ _ _ hs h1)) (by omega))
    | 8, _, _, _, _, hf =>
      rw [if_neg (by decide), if_neg (by decide)] at hf
      show ps_atom c n false (ps_t c n false f 0) (gl, sc, ow, ne) (p, th, la, ins, lt, si, nd) ≠ none
      have lf : ∀ t, ps_leaf c n t (p, th, la, ins, lt, si, nd) ≠ none := by
        intro t
        dsimp only [ps_leaf]
        split
        · exact ps_er_ne
        · intro q; cases q
      dsimp only [ps_atom, ps_ex]
      split
      · rename_i k1
        split
        · exact ps_er_ne
        · rename_i cc
          have zz := ps_sign hx hs.1 (by decide) (by decide) k1
          have i2 : ps_SI n (gl, sc, ow, ne + 1) (ps_sk c n p + 1, th, la, ins, lt, si, nd) := by
            obtain ⟨a1, a2, a3, a4, a5, a6, a7, a8, a9, a10, a11, a12, a13, a14, a15, a16, a17⟩ := hs
            exact ⟨by omega, a2, a3, a4, a5, a6, a7, by omega, by omega, by omega, a11, a12, a13, a14, a15, a16, by omega⟩
          refine ps_bd_ne (up (fun q => cc ⟨q, rfl⟩) (by omega) _ _ i2 rfl) (fun a s1 h1 => ?_)
          split
          · intro q; cases q
          · exact ps_er_ne
      · split
        · exact lf _
        · split
          · exact lf _
          · split
            · unfold ps_word
              split
              · exact lf _
              · split
                · exact lf _
                · exact ps_er_ne
            · exact ps_er_ne
