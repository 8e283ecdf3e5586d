theorem pn_os_range {B : Nat} {t : pt_T} : ∀ (gs : ps_G) (gl : List Nat) (k k1 : pk_K), pn_GW B gs gl k k1 → ∀ (gs0 : ps_G) (g : Nat), (∀ j, pn_tr gs0 t (g + j) = pn_tr gs t j) → k1.2.2.2 = k.2.2.2 + pn_os gs0 t (List.range' g gs.length) := by
  intro gs
  induction gs with
  | nil => intro gl k k1 h gs0 g _; cases h; rfl
  | cons e r ih =>
    intro gl k k1 h gs0 g ht
    obtain ⟨x, v, t'⟩ := e
    obtain ⟨_, _, _, h4, _, k3, h6, h7⟩ := h
    have m := pn_mono t' h4 _ _ h6
    have e : pn_tr gs0 t g = t' := ht 0
    have i := ih _ _ _ h7 gs0 (g + 1) (fun j => by rw [show g + 1 + j = g + (j + 1) by omega]; exact ht (j + 1))
    rw [List.length_cons, List.range'_succ]
    show _ = k.2.2.2 + (pt_sz (pn_tr gs0 t g) + pn_os gs0 t (List.range' (g + 1) r.length))
    rw [e, i]
    omega
theorem pm_lam_G {B : Nat} {t : pt_T} {w : fa_W} : ∀ (gs : ps_G) (gl : List Nat) (k k' : pk_K) (g a : Nat), pn_GW B gs gl k k' → pm_GH gs g a w → ∀ f, B + k.1 ≤ f → f < B + k'.1 → ∃ b : Nat, b < a + pn_os gs t (List.range gs.length) ∧ w 189 f = (b : Int) := by
  intro gs
  induction gs with
  | nil => intro gl k k' g a h _ f h1 h2; cases h; omega
  | cons e r ih =>
    intro gl k k' g a h H f h1 h2
    obtain ⟨x, v, t'⟩ := e
    obtain ⟨_, _, _, tt, _, k3, h6, h7⟩ := h
    obtain ⟨c1, c2, c3, c4, c5, c6, c7⟩ := H
    have sh : ∀ (l : List Nat), pn_os ((x, v, t') :: r) t (l.map (fun j => j + 1)) = pn_os r t l := by
      intro l
      induction l with
      | nil => rfl
      | cons y q ih2 =>
        show pt_sz (pn_tr ((x, v, t') :: r) t (y + 1)) + pn_os _ t (q.map _) = pt_sz (pn_tr r t y) + pn_os r t q
        rw [ih2]
        rfl
    have eo : pn_os ((x, v, t') :: r) t (List.range ((x, v, t') :: r).length) = pt_sz t' + pn_os r t (List.range r.length) := by
      rw [List.length_cons, List.range_succ_eq_map]
      show pt_sz t' + pn_os _ t ((List.range r.length).map Nat.succ) = _
      rw [← sh (List.range r.length)]
    rw [eo]
    by_cases z : f < B + k3.1
    · obtain ⟨b, q1, q2, _⟩ := pm_lam_bd t' tt _ _ _ a h6 c6 f h1 z
      exact ⟨b, by omega, q2⟩
    · obtain ⟨b, q1, q2⟩ := ih _ _ _ _ _ h7 c7 f (by omega) h2
      exact ⟨b, by omega, q2⟩
/-- where all FUNCTIONS have their EXPRS -/
theorem pm_bds {gs : ps_G} {t : pt_T} {la li si nd : Nat} {w : fa_W} (hV : pn_V gs t la li si nd) (hW : pm_Pw gs t la li si nd w) : ∃ bd : Nat → Nat, ∀ f, f < gs.length + la → w 189 f = (bd f : Int) ∧ bd f < nd := by
  obtain ⟨v1, v2, v3, v4, v5, v6, v7, k1, v8, v9⟩ := hV
  obtain ⟨w1, w2, w3, w4, w5, w6, w7, w8, b, w9, w10⟩ := hW
  have o1 := pn_os_range (t := t) gs _ _ _ v8 gs 0 (fun j => by rw [Nat.zero_add])
  have m := pn_mono t v6 _ _ v9
  dsimp only at o1 m
  rw [Nat.zero_add] at o1
  have er : List.range' 0 gs.length = List.range gs.length := List.range_eq_range'.symm
  rw [er] at o1
  have ex : ∀ f, f < gs.length + la → ∃ b : Nat, w 189 f = (b : Int) ∧ b < nd := by
    intro f hf
    by_cases z : f < gs.length
    · have key : ∀ (gs' : ps_G) (g a : Nat) (gl : List Nat) (k k' : pk_K), pn_GW gs.length gs' gl k k' → pm_GH gs' g a w → ∀ j, j < gs'.length → ∃ b : Nat, w 189 (g + j) = (b : Int) ∧ b < a + pn_os gs' t (List.range gs'.length) := by
        intro gs'
        induction gs' with
        | nil => intro g a gl k k' _ _ j hj; rw [List.length_nil] at hj; omega
        | cons e r ih =>
          intro g a gl k k' h H j hj
          obtain ⟨x, v, t'⟩ := e
          obtain ⟨_, _, _, tt, _, k3, h6, h7⟩ := h
          obtain ⟨c1, c2, c3, c4, c5, c6, c7⟩ := H
          have sh : ∀ (l : List Nat), pn_os ((x, v, t') :: r) t (l.map (fun j => j + 1)) = pn_os r t l := by
            intro l
            induction l with
            | nil => rfl
            | cons y q ih2 =>
              show pt_sz (pn_tr ((x, v, t') :: r) t (y + 1)) + pn_os _ t (q.map _) = pt_sz (pn_tr r t y) + pn_os r t q
              rw [ih2]
              rfl
          have eo : pn_os ((x, v, t') :: r) t (List.range ((x, v, t') :: r).length) = pt_sz t' + pn_os r t (List.range r.length) := by
            rw [List.length_cons, List.range_succ_eq_map]
            show pt_sz t' + pn_os _ t ((List.range r.length).map Nat.succ) = _
            rw [← sh (List.range r.length)]
          rw [eo]
          have pp := pt_sz_pos t'
          cases j with
          | zero => exact ⟨_, c2, by omega⟩
          | succ j =>
            rw [List.length_cons] at hj
            obtain ⟨b, q1, q2⟩ := ih (g + 1) _ _ _ _ h7 c7 j (by omega)
            exact ⟨b, by rw [show g + (j + 1) = g + 1 + j by omega]; exact q1, by omega⟩
      obtain ⟨b, q1, q2⟩ := key gs 0 0 _ _ _ v8 w8 f z
      rw [Nat.zero_add] at q1
      exact ⟨b, q1, by omega⟩
    · by_cases z2 : f < gs.length + k1.1
      · obtain ⟨b, q1, q2⟩ := pm_lam_G (t := t) gs _ _ _ 0 0 v8 w8 f (by dsimp only; omega) z2
        exact ⟨b, q2, by omega⟩
      · obtain ⟨b, q1, q2, _⟩ := pm_lam_bd t v6 _ _ _ _ v9 w10 f (by omega) (by dsimp only; exact hf)
        exact ⟨b, q2, by omega⟩
  exact ⟨fun f => if h : f < gs.length + la then (ex f h).choose else 0, fun f hf => by dsimp only; rw [dif_pos hf]; exact (ex f hf).choose_spec⟩
theorem pm_Pw_L {gs : ps_G} {t : pt_T} {la li si nd : Nat} {w : fa_W} (hV : pn_V gs t la li si nd) (hW : pm_Pw gs t la li si nd w) : pm_L gs t (List.range (gs.length + 1)) 0 w ∧ pn_os gs t (List.range gs.length) + pt_sz t = nd ∧ pn_os gs t (List.range (gs.length + 1)) = nd := by
  obtain ⟨v1, v2, v3, v4, v5, v6, v7, k1, v8, v9⟩ := hV
  obtain ⟨w1, w2, w3, w4, w5, w6, w7, w8, b, w9, w10⟩ := hW
  have o1 := pn_os_range (t := t) gs _ _ _ v8 gs 0 (fun j => by rw [Nat.zero_add])
  have m := pn_mono t v6 _ _ v9
  dsimp only at o1 m
  rw [Nat.zero_add] at o1
  have L := pm_GH_L (t := t) gs 0 0 b (fun j => by rw [Nat.zero_add]) (by omega) w8 (by omega) w10
  rw [← List.range_eq_range'] at L o1
  refine ⟨L, by omega, ?_⟩
  rw [List.range_succ, pn_os_app]
  show _ + (pt_sz (pn_tr gs t gs.length) + 0) = nd
  rw [pn_tr_len]
  omega
