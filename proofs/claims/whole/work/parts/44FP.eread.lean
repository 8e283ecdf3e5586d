/-! copying what was read -/
theorem pa_GW {G la si : Nat} (hG : G ≤ 6) (h18 : la ≤ 18) : ∀ (gs : ps_G) (gl : List Nat) (k k' : pk_K), gl.length + gs.length = G → pk_GW gs gl k k' → k'.1 ≤ la → k'.2.2.1 ≤ si → pn_GW 6 gs gl k k' ∧ pc_okG (pa_M G la) pa_1 (pa_S si) pa_1 gs gl.length ∧ pc_G (pa_M G la) pa_1 (pc_ρ (pa_M G la) pa_1) (pc_rk (pa_S si)) gs gl.length k.2.2.2 = pk_rnG G gs ∧ pc_N (pa_M G la) pa_1 gs gl.length k.2.2.2 = k'.2.2.2 := by
  intro gs
  induction gs with
  | nil => intro gl k k' _ h _ _; cases h; exact ⟨rfl, trivial, rfl, rfl⟩
  | cons e r ih =>
    intro gl k k' hl h hla hsi
    obtain ⟨x, v, t⟩ := e
    obtain ⟨h1, h2, h3, h4, h5, k1, h6, h7⟩ := h
    rw [List.length_cons] at hl
    have m := pk_GW_mono r _ _ _ h7
    have h6' : pn_can 6 t k k1 := h6
    have m6 := pn_mono t h4 _ _ h6'
    have el : (gl ++ [x]).length = gl.length + 1 := by simp
    obtain ⟨i1, i2, i3, i4⟩ := ih (gl ++ [x]) k1 k' (by rw [el]; omega) h7 hla hsi
    rw [el] at i2 i3 i4
    obtain ⟨j1, j2⟩ := pa_tree (si := si) hG h18 t h4 (gl ++ [x]) [(gl.length, v)] k k1 h6' h5 (by rw [el]; omega) (by have := m.1; omega) (by have := m.2.2.1; omega) (fun b hb => by
      rw [List.mem_singleton] at hb
      rw [hb]; exact Or.inl (by dsimp only; omega))
    have mg : pa_M G la gl.length = true := decide_eq_true (Or.inl (by omega))
    have sz := pa_sz t h4
    refine ⟨⟨h1, h2, h3, h4, h5, k1, h6', i1⟩, ⟨fun _ => mg, j1, i2⟩, ?_, ?_⟩
    · show (if pa_M G la gl.length = true then (x, v, if pa_1 gl.length = true then pc_t pa_1 (pc_ρ (pa_M G la) pa_1) (pc_rk (pa_S si)) t k.2.2.2 else pt_dead k.2.2.2) :: pc_G (pa_M G la) pa_1 (pc_ρ (pa_M G la) pa_1) (pc_rk (pa_S si)) r (gl.length + 1) (k.2.2.2 + if pa_1 gl.length = true then pc_sz pa_1 t else 1) else pc_G (pa_M G la) pa_1 (pc_ρ (pa_M G la) pa_1) (pc_rk (pa_S si)) r (gl.length + 1) k.2.2.2) = (x, v, pk_rn G t) :: pk_rnG G r
      rw [if_pos mg, if_pos (show pa_1 gl.length = true from rfl), if_pos (show pa_1 gl.length = true from rfl), j2, sz, ← m6.2.2.2, i3]
    · show (if pa_M G la gl.length = true then pc_N (pa_M G la) pa_1 r (gl.length + 1) (k.2.2.2 + if pa_1 gl.length = true then pc_sz pa_1 t else 1) else pc_N (pa_M G la) pa_1 r (gl.length + 1) k.2.2.2) = k'.2.2.2
      rw [if_pos mg, if_pos (show pa_1 gl.length = true from rfl), sz, ← m6.2.2.2, i4]
theorem pa_gl : ∀ (l : List Nat) (g : Nat), pc_gl pa_1 l g = l := by
  intro l
  induction l with
  | nil => intro g; rfl
  | cons x r ih =>
    intro g
    show (if pa_1 g = true then x :: pc_gl pa_1 r (g + 1) else pc_gl pa_1 r (g + 1)) = x :: r
    rw [if_pos (show pa_1 g = true from rfl), ih]
theorem pa_told {G la : Nat} (hG : G ≤ 6) (h18 : la ≤ 18) : pe_kp (pa_M G la) (fa_ior ((fa_ishl 1 (G : Int)) - 1) (fa_ishl ((fa_ishl 1 (la : Int)) - 1) 6)) := by
  have p1 : 2 ^ G ≤ 2 ^ 6 := Nat.pow_le_pow_right (by decide) hG
  have p2 : 2 ^ la ≤ 2 ^ 18 := Nat.pow_le_pow_right (by decide) h18
  have q1 : 0 < 2 ^ G := Nat.two_pow_pos G
  have q2 : 0 < 2 ^ la := Nat.two_pow_pos la
  have c6 : (2 : Nat) ^ 6 = 64 := by decide
  have c18 : (2 : Nat) ^ 18 = 262144 := by decide
  rw [c6] at p1
  rw [c18] at p2
  have sh : (2 ^ la - 1) <<< 6 < 16777216 := by rw [Nat.shiftLeft_eq, c6]; omega
  have e : fa_ior ((fa_ishl 1 (G : Int)) - 1) (fa_ishl ((fa_ishl 1 (la : Int)) - 1) 6) = (((2 ^ G - 1) ||| ((2 ^ la - 1) <<< 6) : Nat) : Int) := by
    rw [pf_shl1 (by omega), pf_shl1 (by omega), show ((2 ^ G : Nat) : Int) - 1 = ((2 ^ G - 1 : Nat) : Int) by omega, show ((2 ^ la : Nat) : Int) - 1 = ((2 ^ la - 1 : Nat) : Int) by omega, show (6 : Int) = ((6 : Nat) : Int) from rfl, pb_shl (by omega) (by omega) (by decide), pb_or (by omega) (by omega)]
  intro f w hf
  have c24 : (2 : Nat) ^ 24 = 16777216 := by decide
  have lt : (2 ^ G - 1) ||| ((2 ^ la - 1) <<< 6) < 2 ^ 24 := Nat.or_lt_two_pow (by omega) (by omega)
  rw [e, pf_hb (pf_lt24 lt) hf, Nat.testBit_or, Nat.testBit_two_pow_sub_one, Nat.testBit_shiftLeft, Nat.testBit_two_pow_sub_one]
  unfold pa_M
  by_cases a : f < G <;> by_cases b : 6 ≤ f <;> by_cases d : f < 6 + la <;> simp [a, b, d] <;> omega
theorem pa_GL {o : Nat} {ins : List Nat} {gs0 : ps_G} {t : pt_T} {w : fa_W} : ∀ (gs : ps_G) (gl : List Nat) (g : Nat) (k k1 : pk_K), pk_GW gs gl k k1 → px_GH o ins gs g k.2.2.2 w → (∀ j, j < gs.length → pn_tr gs0 t (g + j) = pn_tr gs t j) → g + gs.length = gs0.length → px_L o ins gs0 t (List.range' g gs.length) k.2.2.2 w ∧ k.2.2.2 + pn_os gs0 t (List.range' g gs.length) = k1.2.2.2 := by
  intro gs
  induction gs with
  | nil => intro gl g k k1 h _ _ _; cases h; exact ⟨trivial, rfl⟩
  | cons e r ih =>
    intro gl g k k1 h H ht hl
    obtain ⟨x, v, t'⟩ := e
    obtain ⟨_, _, _, h4, _, k3, h6, h7⟩ := h
    obtain ⟨H1, H2, H3, H4, H5⟩ := H
    have m6 := pn_mono (B := 6) t' h4 _ _ h6
    rw [List.length_cons] at hl
    have e0 : pn_tr gs0 t g = t' := ht 0 (by rw [List.length_cons]; omega)
    rw [← m6.2.2.2] at H5
    obtain ⟨i1, i2⟩ := ih _ (g + 1) k3 k1 h7 H5 (fun j hj => by
      have := ht (j + 1) (by rw [List.length_cons]; omega)
      rw [show g + 1 + j = g + (j + 1) by omega, this]
      rfl) (by omega)
    show px_L o ins gs0 t (g :: List.range' (g + 1) r.length) k.2.2.2 w ∧ k.2.2.2 + (pt_sz (pn_tr gs0 t g) + pn_os gs0 t (List.range' (g + 1) r.length)) = k1.2.2.2
    refine ⟨⟨?_, ?_, ?_⟩, ?_⟩
    · rw [e0, show pn_ow gs0.length g = (g : Int) from if_pos (by omega)]
      exact px_P_of t' h4 _ _ H4
    · rw [if_pos (by omega), e0]; exact H3
    · rw [e0, ← m6.2.2.2]; exact i1
    · rw [e0, ← i2, m6.2.2.2, Nat.add_assoc]
theorem pa_nam {o : Nat} {ins : List Nat} {w : fa_W} : ∀ (gs : ps_G) (g a : Nat), px_GH o ins gs g a w → ∀ (i x v : Nat) (t' : pt_T), gs[i]? = some (x, v, t') → w (o + 18) (g + i) = (x : Int) ∧ w (o + 14) (g + i) = (v : Int) := by
  intro gs
  induction gs with
  | nil => intro g a _ i x v t' h; cases h
  | cons e r ih =>
    intro g a H i x v t' h
    obtain ⟨x0, v0, t0⟩ := e
    obtain ⟨H1, H2, H3, H4, H5⟩ := H
    cases i with
    | zero =>
      rw [List.getElem?_cons_zero] at h
      injection h with h
      injection h with a1 a2
      injection a2 with a2 a3
      rw [← a1, ← a2]
      exact ⟨H1, H2⟩
    | succ i =>
      rw [List.getElem?_cons_succ] at h
      have := ih (g + 1) _ H5 i x v t' h
      rw [show g + 1 + i = g + (i + 1) by omega] at this
      exact this
