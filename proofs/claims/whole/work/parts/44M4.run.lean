/-! the length of a form -/
theorem pw_sm_S (g : Nat → Nat) (B a b c : Nat) (h1 : a ≤ b) (h2 : b ≤ c) : pw_sm g (c - a) (B + a) = pw_sm g (b - a) (B + a) + pw_sm g (c - b) (B + b) := by
  rw [show c - a = (b - a) + (c - b) by omega, pw_sm_app, show B + a + (b - a) = B + b by omega]
theorem pw_tlen : (pw_tx 12).length = 1 ∧ (pw_tx 14).length = 1 ∧ (pw_tx 15).length = 1 ∧ (pw_tx 10).length = 4 ∧ (pw_tx 16).length = 4 ∧ (pw_tx 17).length = 6 ∧ (pw_tx 18).length = 6 ∧ (pw_tx 19).length = 5 ∧ (pw_tx 2).length = 1 ∧ (pw_tx 20).length = 4 := by decide +kernel
theorem pw_tot {B : Nat} {fb : Nat → pt_T} {D A : Nat → List Nat} {C : Nat → Bool} (hD : ∀ g, g < B → (D g).length ≤ 4) (hA : ∀ s, (A s).length ≤ 3) (t : pt_T) (tt : pt_tw t) : ∀ (k k' : pk_K) (gl : List Nat) (sc : List (Nat × Nat)), pn_can B t k k' → pf_T fb t → pk_wfs t gl sc → gl.length ≤ B → (pw_t true D A C t).length + pw_sm (fun f => (pw_t true D A C (fb f)).length) (k'.1 - k.1) (B + k.1) + 6 + 10 * k.2.2.2 + 10 * k'.1 ≤ 10 * k'.2.2.2 + 10 * k.1 + pw_sm (fun f => (D f).length) (k'.1 - k.1) (B + k.1) := by
  obtain ⟨t12, t14, t15, t10, t16, t17, t18, t19, t2, t20⟩ := pw_tlen
  induction t, tt using pt_indh with
  | num v =>
    intro k k' gl sc h _ _ _
    cases h
    dsimp only
    rw [Nat.sub_self]
    have l := (pw_nu_len v).2
    show (pw_nu v).length + 0 + _ + _ + _ ≤ _ + _ + 0
    omega
  | var v x =>
    intro k k' gl sc h _ _ _
    cases h
    dsimp only
    rw [Nat.sub_self]
    have l := pw_nmr_len 4 x
    show (pw_nmr 4 x).length + 0 + _ + _ + _ ≤ _ + _ + 0
    omega
  | glo g x =>
    intro k k' gl sc h _ hw hg
    cases h
    dsimp only
    rw [Nat.sub_self]
    have g1 := (ps_gx_mem gl x 0 g hw.2.1).2.1
    have l := hD g (by omega)
    show (D g).length + 0 + _ + _ + _ ≤ _ + _ + 0
    omega
  | dead d =>
    intro k k' gl sc h _ _ _
    cases h.2
    dsimp only
    rw [Nat.sub_self]
    show (pw_tx 10).length + 0 + _ + _ + _ ≤ _ + _ + 0
    omega
  | lam f x b tb ih =>
    intro k k' gl sc h hT hw hg
    obtain ⟨ef, k1, h1, rfl⟩ := h
    have m := (pw_canC b tb _ _ h1).1
    have i := ih _ _ gl _ h1 hT.1 hw.2 hg
    dsimp only at m i ⊢
    rw [show k1.1 - k.1 = (k1.1 - (k.1 + 1)) + 1 by omega]
    show (D f).length + ((pw_t true D A C (fb (B + k.1))).length + pw_sm _ (k1.1 - (k.1 + 1)) (B + k.1 + 1)) + _ + _ + _ ≤ _ + _ + ((D (B + k.1)).length + pw_sm _ (k1.1 - (k.1 + 1)) (B + k.1 + 1))
    rw [← ef, hT.2, ef, show B + k.1 + 1 = B + (k.1 + 1) by omega]
    omega
  | ife a b c ta tb tc iha ihb ihc =>
    intro k k' gl sc h hT hw hg
    obtain ⟨k1, k2, k3, h1, h2, h3, rfl⟩ := h
    have m1 := (pw_canC a ta _ _ h1).1
    have m2 := (pw_canC b tb _ _ h2).1
    have m3 := (pw_canC c tc _ _ h3).1
    have i1 := iha _ _ gl sc h1 hT.1 hw.1 hg
    have i2 := ihb _ _ gl sc h2 hT.2.1 hw.2.1 hg
    have i3 := ihc _ _ gl sc h3 hT.2.2 hw.2.2 hg
    have e : (pw_t true D A C (pt_ife a b c)).length = 4 + ((pw_t true D A C a).length + (6 + ((pw_t true D A C b).length + (6 + ((pw_t true D A C c).length + 1))))) := by
      show (pw_tx 16 ++ (pw_t true D A C a ++ (pw_tx 17 ++ (pw_t true D A C b ++ (pw_tx 18 ++ (pw_t true D A C c ++ pw_tx 12)))))).length = _
      simp only [List.length_append, t16, t17, t18, t12]
    rw [e]
    dsimp only
    rw [pw_sm_S _ B k.1 k1.1 k3.1 m1 (by omega), pw_sm_S _ B k1.1 k2.1 k3.1 m2 m3, pw_sm_S (fun f => (D f).length) B k.1 k1.1 k3.1 m1 (by omega), pw_sm_S (fun f => (D f).length) B k1.1 k2.1 k3.1 m2 m3]
    omega
  | lt v x a b ta tb iha ihb =>
    intro k k' gl sc h hT hw hg
    obtain ⟨k1, k2, h1, _, h2, rfl⟩ := h
    have m1 := (pw_canC a ta _ _ h1).1
    have m2 := (pw_canC b tb _ _ h2).1
    have i1 := iha _ _ gl sc h1 hT.1 hw.2.1 hg
    have i2 := ihb _ _ gl _ h2 hT.2 hw.2.2 hg
    have l := pw_nmr_len 4 x
    have e : (pw_t true D A C (pt_let v x a b)).length = 5 + ((pw_nmr 4 x).length + (1 + ((pw_t true D A C a).length + (4 + ((pw_t true D A C b).length + 1))))) := by
      show (pw_tx 19 ++ (pw_nmr 4 x ++ (pw_tx 2 ++ (pw_t true D A C a ++ (pw_tx 20 ++ (pw_t true D A C b ++ pw_tx 12)))))).length = _
      simp only [List.length_append, t19, t2, t20, t12]
    rw [e]
    dsimp only at m2 i2 ⊢
    rw [pw_sm_S _ B k.1 k1.1 k2.1 m1 m2, pw_sm_S (fun f => (D f).length) B k.1 k1.1 k2.1 m1 m2]
    omega
  | op s a b ta tb iha ihb =>
    intro k k' gl sc h hT hw hg
    obtain ⟨k1, k2, h1, h2, rfl⟩ := h
    have m1 := (pw_canC a ta _ _ h1).1
    have m2 := (pw_canC b tb _ _ h2).1
    have i1 := iha _ _ gl sc h1 hT.1 hw.2.1 hg
    have i2 := ihb _ _ gl sc h2 hT.2 hw.2.2 hg
    have e : (pw_t true D A C (pt_op s a b)).length = 1 + ((pw_t true D A C a).length + (1 + ((pw_t true D A C b).length + 1))) := by
      show (pw_tx 14 ++ (pw_t true D A C a ++ ([s] ++ (pw_t true D A C b ++ pw_tx 12)))).length = _
      simp only [List.length_append, t14, t12, List.length_singleton]
    rw [e]
    dsimp only
    rw [pw_sm_S _ B k.1 k1.1 k2.1 m1 m2, pw_sm_S (fun f => (D f).length) B k.1 k1.1 k2.1 m1 m2]
    omega
  | site s a b ta tb iha ihb =>
    intro k k' gl sc h hT hw hg
    obtain ⟨k1, k2, h1, _, h2, rfl⟩ := h
    have m1 := (pw_canC a ta _ _ h1).1
    have m2 := (pw_canC b tb _ _ h2).1
    have i1 := iha _ _ gl sc h1 hT.1 hw.1 hg
    have i2 := ihb _ _ gl sc h2 hT.2 hw.2 hg
    have l := hA s
    have e : (pw_t true D A C (pt_site s a b)).length = (A s).length + 1 + ((pw_t true D A C a).length + (1 + ((pw_t true D A C b).length + 1))) := by
      show ((A s ++ pw_tx 14) ++ (pw_t true D A C a ++ (pw_tx 15 ++ (pw_t true D A C b ++ pw_tx 12)))).length = _
      simp only [List.length_append, t14, t12, t15]
    rw [e]
    dsimp only at m2 i2 ⊢
    rw [pw_sm_S _ B k.1 k1.1 k2.1 m1 m2, pw_sm_S (fun f => (D f).length) B k.1 k1.1 k2.1 m1 m2]
    omega
theorem pw_totG {B : Nat} {fb : Nat → pt_T} {D A : Nat → List Nat} {C : Nat → Bool} (hD : ∀ g, g < B → (D g).length ≤ 4) (hA : ∀ s, (A s).length ≤ 3) : ∀ (gs : ps_G) (gl : List Nat) (k k1 : pk_K), pn_GW B gs gl k k1 → (∀ e ∈ gs, pf_T fb e.2.2) → gl.length + gs.length ≤ B → (∀ i e, gs[i]? = some e → fb (gl.length + i) = e.2.2) → pw_sm (fun f => (pw_t true D A C (fb f)).length) gs.length gl.length + pw_sm (fun f => (pw_t true D A C (fb f)).length) (k1.1 - k.1) (B + k.1) + 10 * k.2.2.2 + 10 * k1.1 ≤ 10 * k1.2.2.2 + 10 * k.1 + pw_sm (fun f => (D f).length) (k1.1 - k.1) (B + k.1) := by
  intro gs
  induction gs with
  | nil =>
    intro gl k k1 h _ _ _
    cases h
    rw [Nat.sub_self]
    show 0 + 0 + _ + _ ≤ _ + _ + 0
    omega
  | cons e r ih =>
    intro gl k k1 h hT hB hE
    obtain ⟨x, v, t⟩ := e
    obtain ⟨_, _, _, tt, hw, k2, h1, h2⟩ := h
    rw [List.length_cons] at hB ⊢
    have lg : (gl ++ [x]).length = gl.length + 1 := by rw [List.length_append, List.length_singleton]
    have m1 := (pw_canC t tt _ _ h1).1
    have m2 := (pw_gwC r _ _ _ h2).1
    have a := pw_tot (C := C) hD hA t tt _ _ _ _ h1 (hT _ (List.mem_cons_self ..)) hw (by rw [lg]; omega)
    have i := ih _ _ _ h2 (fun e he => hT e (List.mem_cons_of_mem _ he)) (by rw [lg]; omega) (fun i e he => by
      rw [lg, show gl.length + 1 + i = gl.length + (i + 1) by omega]
      exact hE (i + 1) e (by rw [List.getElem?_cons_succ]; exact he))
    rw [lg] at i
    have e0 := hE 0 (x, v, t) rfl
    rw [pw_sm_S _ B k.1 k2.1 k1.1 m1 m2, pw_sm_S (fun f => (D f).length) B k.1 k2.1 k1.1 m1 m2]
    show ((pw_t true D A C (fb gl.length)).length + pw_sm _ r.length (gl.length + 1)) + _ + _ + _ ≤ _
    rw [Nat.add_zero] at e0
    rw [e0]
    dsimp only
    omega
theorem pw_jn_len (b : Bool) : ∀ (l : List Nat) (b : Bool), (pw_jn b l).length ≤ 5 * l.length := by
  obtain ⟨t4, _, _, _, _, _, t15, _⟩ := pw_txm
  intro l
  induction l with
  | nil => intro b; cases b <;> exact Nat.zero_le _
  | cons v r ih =>
    intro b
    have i := ih false
    have l1 := pw_nmr_len 4 v
    rw [pw_jn_c, List.length_cons, List.length_append, List.length_append]
    have l2 : (pw_nm v).length ≤ 4 := l1
    cases b
    · rw [if_neg (by decide)]; omega
    · rw [if_pos rfl]; omega
theorem pw_fd_len {yv : Nat → Nat} {f : Nat} {l : List Nat} (hf : f < 100) : (pw_fd yv f l).length ≤ 5 + 5 * l.length := by
  obtain ⟨_, _, _, _, _, t13, _⟩ := pw_txm
  obtain ⟨t12, t14, _⟩ := pw_tlen
  have a := pw_nu_2 hf
  have b := pw_jn_len true (l.map yv) true
  rw [List.length_map] at b
  unfold pw_fd
  simp only [List.length_append]
  omega
theorem pw_noF {gs : ps_G} {t : pt_T} {la li si nd : Nat} {fb : Nat → pt_T} {sb : pf_sT} (hV : pn_V gs t la li si nd) (hG : pf_G gs t la li si fb sb) {g : Nat} (hg : g < gs.length) : pd_fl g (fb g) = [] := by
  obtain ⟨v1, v2, v3, v4, v5, v6, v7, k1, v8, v9⟩ := id hV
  obtain ⟨K, K', it, _⟩ := pn_items gs [] _ _ _ v8 v6 v7 v9
  obtain ⟨b1, _, _, _, gl', sc', b5, _, _, b8⟩ := it g (by omega)
  rw [← hG.1 g hg] at b1 b5
  refine List.eq_nil_iff_forall_not_mem.mpr fun v hv => ?_
  have n1 := pd_fl_not hv
  unfold pd_in at n1
  rw [decide_eq_false_iff_not] at n1
  rcases pd_oc_bd _ b1 gl' sc' b5 v (pd_fl_oc hv) with q | ⟨b, c1, c2⟩
  · exact n1 (Or.inr q)
  · have := (b8 b c1).1
    rw [List.length_nil, Nat.zero_add] at this
    exact n1 (Or.inl (by omega))
def pw_g0 (la i : Nat) : Nat := 5 + 5 * ((205 + 4 * i - 2 * la) / 7)
theorem pw_g0_le : ∀ la : Fin 19, pw_sm (pw_g0 la.val) la.val 0 ≤ 2700 := by decide +kernel
theorem pw_sm_sh (g : Nat → Nat) (B : Nat) : ∀ d k, pw_sm (fun f => g (f - B)) d (B + k) = pw_sm g d k := by
  intro d
  induction d with
  | zero => intro k; rfl
  | succ d ih =>
    intro k
    show g (B + k - B) + pw_sm _ d (B + k + 1) = g k + pw_sm g d (k + 1)
    rw [show B + k - B = k by omega, show B + k + 1 = B + (k + 1) by omega, ih]
theorem pw_sm_c (g : Nat → Nat) (c : Nat) : ∀ d k, (∀ f, k ≤ f → f < k + d → g f ≤ c) → pw_sm g d k ≤ c * d := by
  intro d
  induction d with
  | zero => intro k _; exact Nat.zero_le _
  | succ d ih =>
    intro k h
    have a := h k (Nat.le_refl _) (by omega)
    have b := ih (k + 1) (fun f p q => h f (by omega) (by omega))
    show g k + pw_sm g d (k + 1) ≤ c * (d + 1)
    rw [Nat.mul_add, Nat.mul_one]
    omega
/-- no form is longer than the class's row -/
theorem pw_fo_len {gs : ps_G} {t : pt_T} {la li si nd CL : Nat} {fb : Nat → pt_T} {sb : pf_sT} {yv Y : Nat → Nat} {A : Nat → List Nat} {C : Nat → Bool} {ls : List Nat} (hV : pn_V gs t la li si nd) (hG : pf_G gs t la li si fb sb) (hA : ∀ s, (A s).length ≤ 3) (hC : CL < 2 ^ (gs.length + la)) (hd : pg_dj ls) (hl : ls.length ≤ gs.length + la) : (pw_fo (fun f => pw_fd yv f (pd_fl f (fb f))) (fun f => pw_t true (fun f => pw_fd yv f (pd_fl f (fb f))) A C (fb f)) Y (gs.length + la) CL ls (pw_t true (fun f => pw_fd yv f (pd_fl f (fb f))) A C t)).length ≤ 6990 := by
  obtain ⟨v1, v2, v3, v4, v5, v6, v7, k1, v8, v9⟩ := id hV
  obtain ⟨D, hDe⟩ : ∃ D : Nat → List Nat, D = fun f => pw_fd yv f (pd_fl f (fb f)) := ⟨_, rfl⟩
  have hD4 : ∀ g, g < gs.length → (D g).length ≤ 4 := fun g hg => by
    rw [hDe]
    show (pw_fd yv g (pd_fl g (fb g))).length ≤ 4
    rw [pw_noF hV hG hg]
    obtain ⟨_, _, _, _, _, t13, _⟩ := pw_txm
    obtain ⟨t12, t14, _⟩ := pw_tlen
    have : (pw_nu g).length = 1 := by
      unfold pw_nu
      rw [if_pos (by omega)]
      rfl
    unfold pw_fd
    simp only [List.length_append]
    have e0 : (pw_jn true (([] : List Nat).map yv)).length = 0 := rfl
    omega
  have hDi : ∀ i, i < la → (D (gs.length + i)).length ≤ pw_g0 la i := fun i hi => by
    have a := (pw_fields hV hG hi).1
    have b := pw_fd_len (yv := yv) (f := gs.length + i) (l := pd_fl (gs.length + i) (fb (gs.length + i))) (by omega)
    rw [hDe]
    show (pw_fd yv (gs.length + i) _).length ≤ 5 + 5 * ((205 + 4 * i - 2 * la) / 7)
    omega
  rw [← hDe]
  obtain ⟨E, hEe⟩ : ∃ E : Nat → List Nat, E = fun f => pw_t true D A C (fb f) := ⟨_, rfl⟩
  rw [← hEe]
  have hT : ∀ e ∈ gs, pf_T fb e.2.2 := fun e he => by
    obtain ⟨g, g1, g2⟩ := List.getElem_of_mem he
    have h1 := hG.1 g g1
    have h2 := (hG.2.2.1 g (by omega)).1
    rw [h1] at h2
    unfold pn_tr at h2
    rw [List.getD_eq_getElem?_getD, List.getElem?_map, List.getElem?_eq_getElem g1, g2] at h2
    exact h2
  have a1 := pw_totG (C := C) hD4 hA gs [] _ _ v8 hT (by rw [List.length_nil]; omega) (fun i e he => by
    have hi : i < gs.length := by
      by_cases z : i < gs.length
      · exact z
      · rw [List.getElem?_eq_none (by omega)] at he; cases he
    rw [List.length_nil, Nat.zero_add, hG.1 i hi]
    unfold pn_tr
    rw [List.getD_eq_getElem?_getD, List.getElem?_map, he]
    rfl)
  have a2 := pw_tot (C := C) hD4 hA t v6 _ _ _ _ v9 hG.2.2.2.1.2.1 v7 (by unfold pk_gn; rw [List.length_map]; exact Nat.le_refl _)
  have c1 := (pw_gwC gs _ _ _ v8).1
  have c2 := (pw_canC t v6 _ _ v9).1
  have eE : (fun f => (pw_t true D A C (fb f)).length) = fun f => (E f).length := by rw [hEe]
  rw [eE] at a1 a2
  dsimp only at a1 a2 c1 c2
  have g1 := pw_gl_len (D := D) (E := E) (Y := Y) (nf := gs.length + la) (C := CL) (by omega) hC ls 0 (by omega)
  have g2 : pw_sm (fun f => pw_ct ls f * ((D f).length + (E f).length + 11)) (gs.length + la) 0 ≤ pw_sm (fun f => (D f).length + (E f).length + 11) (gs.length + la) 0 := pw_sm_le _ _ (fun f _ _ => by
    have := pw_ct_1 (f := f) ls hd
    exact Nat.le_trans (Nat.mul_le_mul_right _ this) (by rw [Nat.one_mul]; exact Nat.le_refl _))
  have g3 : pw_sm (fun f => (D f).length + (E f).length + 11) (gs.length + la) 0 = pw_sm (fun f => (D f).length) (gs.length + la) 0 + pw_sm (fun f => (E f).length) (gs.length + la) 0 + pw_sm (fun _ => 11) (gs.length + la) 0 := by
    rw [pw_sm_add (fun f => (D f).length + (E f).length), pw_sm_add]
  have g4 : pw_sm (fun _ => 11) (gs.length + la) 0 ≤ 11 * (gs.length + la) := pw_sm_c _ 11 _ _ (fun _ _ _ => Nat.le_refl _)
  have g5 := pw_sm_app (fun f => (D f).length) la gs.length 0
  have g6 := pw_sm_app (fun f => (E f).length) la gs.length 0
  rw [Nat.zero_add] at g5 g6
  have g7 : pw_sm (fun f => (D f).length) gs.length 0 ≤ 4 * gs.length := pw_sm_c _ 4 _ _ (fun f _ q => hD4 f (by omega))
  have g8 : pw_sm (fun f => (D f).length) la gs.length ≤ 2700 := by
    have s1 : pw_sm (fun f => (D f).length) la gs.length ≤ pw_sm (fun f => pw_g0 la (f - gs.length)) la gs.length := pw_sm_le _ _ (fun f p q => by
      have := hDi (f - gs.length) (by omega)
      rw [show gs.length + (f - gs.length) = f by omega] at this
      exact this)
    have s2 := pw_sm_sh (pw_g0 la) gs.length la 0
    rw [Nat.add_zero] at s2
    have s3 := pw_g0_le ⟨la, by omega⟩
    dsimp only at s3
    omega
  have s4 := pw_sm_S (fun f => (E f).length) gs.length 0 k1.1 la (by omega) c2
  have s5 := pw_sm_S (fun f => (D f).length) gs.length 0 k1.1 la (by omega) c2
  rw [Nat.sub_zero, Nat.sub_zero, Nat.add_zero] at s4 s5
  simp only [List.length_nil, Nat.sub_zero, Nat.add_zero] at a1
  unfold pw_fo
  rw [List.length_append]
  omega
