/-! a kept program as the source of a copy -/
theorem px_gn_nam {o : Nat} {w : fa_W} : ∀ (gs : ps_G) (g : Nat), px_gn o gs g w → ∀ (i x v : Nat) (t' : pt_T), gs[i]? = some (x, v, t') → w (o + 18) (g + i) = (x : Int) ∧ w (o + 14) (g + i) = (v : Int) := by
  intro gs
  induction gs with
  | nil => intro g _ i x v t' h; cases h
  | cons e r ih =>
    intro g H i x v t' h
    obtain ⟨x0, v0, t0⟩ := e
    obtain ⟨H1, H2, H3, H4⟩ := H
    cases i with
    | zero =>
      rw [List.getElem?_cons_zero] at h
      injection h with h
      injection h with a1 a2
      injection a2 with a2 a3
      rw [← a1, ← a2]
      exact ⟨H1, H2⟩
    | succ i =>
      rw [List.getElem?_cons_succ] at h
      have := ih (g + 1) H4 i x v t' h
      rw [show g + 1 + i = g + (i + 1) by omega] at this
      exact this
theorem px_Sr_V {o : Nat} {gs : ps_G} {t : pt_T} {la li si nd : Nat} {ins os : List Nat} {w : fa_W} (hnd : nd ≤ 100) (h : px_V o gs t la li si nd ins os w) : px_Sr o gs t si nd ins os w := by
  obtain ⟨⟨z1, z2, z3, z4, z5, z6, z7, z8, z9, z10⟩, ⟨c1, c2, c3⟩, gn, n1, n2, n3, n4, n5, n6, n7⟩ := h
  refine ⟨⟨z1, z2, z3, z4, z5, hnd⟩, ⟨z6, z7, z9, z10⟩, ⟨c1, c3⟩, fun i x v t' e => ?_, n1, n2, n3, n4, n5, n6⟩
  have := px_gn_nam gs 0 gn i x v t' e
  rw [Nat.zero_add] at this
  exact this
/-- BACK by the class: the copy of what is made, with the EXPRS of what is called -/
theorem px_makeBack {gs : ps_G} {t : pt_T} {la li si nd mk : Nat} {ins os : List Nat} {fb : Nat → pt_T} {sb : pf_sT} {M CL SV LV : Nat → Bool} {w : fa_W} (hV : pn_V gs t la li si nd) (h67 : fa_sc (w 0 6) ≠ fa_sc (w 0 7)) (hSC : px_SC (fa_sc (w 0 6)) gs t la li si nd ins os fb sb mk w) (hkM : pe_kp M (w (fa_sc (w 0 6) + 45) 5)) (hkC : pe_kp CL (w (fa_sc (w 0 6) + 45) 6)) (hG : pc_okG M CL SV LV gs 0) (hM : pc_ok M CL SV LV t true) (hSV : ∀ s, SV s = true → s < si) (hMb : pc_rk M 24 = pc_rk M (gs.length + la)) : ∃ w' os', fm_Face_makeBack w = some w' ∧ (∀ x y, (x < fa_sc (w 0 7) + 1 ∨ fa_sc (w 0 7) + 27 < x) → w' x y = w x y) ∧ px_V (fa_sc (w 0 7) + 1) (pc_G M CL (pc_ρ M LV) (pc_rk SV) gs 0 0) (pc_t CL (pc_ρ M LV) (pc_rk SV) t (pc_N M CL gs 0 0)) (pc_rk M (gs.length + la) - pc_rk M gs.length) (pc_rk LV li) (pc_rk SV si) (pc_N M CL gs 0 0 + pc_sz CL t) (pc_gl LV ins 0) os' w' := by
  have s6 := px_sK_sc (w 0 6)
  have s7 := px_sK_sc (w 0 7)
  obtain ⟨sa, hsa⟩ : ∃ x, x = fa_sc (w 0 6) := ⟨_, rfl⟩
  obtain ⟨sb', hsb⟩ : ∃ x, x = fa_sc (w 0 7) := ⟨_, rfl⟩
  rw [← hsa] at s6 h67 hSC hkM hkC
  rw [← hsb] at s7 h67 ⊢
  obtain ⟨p6, _, _, _, _, r60, _, r62, _⟩ := px_sK_all s6
  obtain ⟨p7, _, _, _, e7, r70, _, _, _⟩ := px_sK_all s7
  have hs : pe_sep (sb' + 1) (sa + 1) := by
    refine ⟨e7, p7, p6, ?_⟩
    rcases s6 with a | a <;> rcases s7 with b | b <;> omega
  have nd100 := hV.2.2.1
  obtain ⟨w', os', q1, q2, q3⟩ := pe_copyV hs hkM hkC (Nat.le_refl _) hV.1 hV hG hM hSV hMb rfl hSC.1.2.2.2.2.2.2.2.2.2 (px_Sr_V nd100 hSC.1)
  refine ⟨w', os', ?_, fun x y h => q2 x y (by omega), q3⟩
  unfold fm_Face_makeBack
  rw [← hsa, ← hsb, r60, r62, r70, q1, Option.bind_some]
