/-! how many FIELDS a LAMBDA can have -/
theorem pb_nodup_sub : ∀ (m l : List Nat), l.Nodup → (∀ v ∈ l, v ∈ m) → l.length ≤ m.length := by
  intro m
  induction m with
  | nil =>
    intro l _ h
    cases l with
    | nil => exact Nat.le_refl _
    | cons a r => exact absurd (h a (List.mem_cons_self ..)) (by simp)
  | cons a r ih =>
    intro l hn h
    have := ih (l.erase a) (hn.erase a) (fun v hv => by
      have h1 := (List.Nodup.mem_erase_iff hn).mp hv
      rcases List.mem_cons.mp (h v h1.2) with q | q
      · exact absurd q h1.1
      · exact q)
    have e := List.length_erase (a := a) (l := l)
    rw [List.length_cons]
    by_cases z : a ∈ l
    · rw [if_pos z] at e; omega
    · rw [if_neg z] at e; omega
theorem pw_canC {B : Nat} (t : pt_T) (tt : pt_tw t) : ∀ (k k' : pk_K), pn_can B t k k' → k.1 ≤ k'.1 ∧ k'.1 + k.2.2.2 + 1 ≤ k'.2.2.2 + k.1 ∧ 3 * (pd_oc t).length + 2 * k'.1 + 2 * k.2.2.2 ≤ 2 * k'.2.2.2 + 2 * k.1 + 1 := by
  induction t, tt using pt_indh with
  | num v => intro k k' h; cases h; rw [show (pd_oc _).length = 0 from rfl]; dsimp only; omega
  | var v x => intro k k' h; cases h; rw [show (pd_oc _).length = 1 from rfl]; dsimp only; omega
  | glo g x => intro k k' h; cases h; rw [show (pd_oc _).length = 0 from rfl]; dsimp only; omega
  | dead d => intro k k' h; cases h.2; rw [show (pd_oc _).length = 0 from rfl]; dsimp only; omega
  | lam f x b tb ih =>
    intro k k' h
    obtain ⟨_, k1, h1, rfl⟩ := h
    have := ih _ _ h1
    show _ ∧ _ ∧ 3 * (pd_oc b).length + _ + _ ≤ _
    dsimp only at this ⊢
    omega
  | ife a b c ta tb tc iha ihb ihc =>
    intro k k' h
    obtain ⟨k1, k2, k3, h1, h2, h3, rfl⟩ := h
    have a1 := iha _ _ h1
    have a2 := ihb _ _ h2
    have a3 := ihc _ _ h3
    have e : (pd_oc (pt_ife a b c)).length = (pd_oc a).length + ((pd_oc b).length + (pd_oc c).length) := by
      show (pd_oc a ++ (pd_oc b ++ pd_oc c)).length = _
      rw [List.length_append, List.length_append]
    rw [e]
    dsimp only
    omega
  | lt v x a b ta tb iha ihb =>
    intro k k' h
    obtain ⟨k1, k2, h1, _, h2, rfl⟩ := h
    have a1 := iha _ _ h1
    have a2 := ihb _ _ h2
    have e : (pd_oc (pt_let v x a b)).length = (pd_oc a).length + (pd_oc b).length := by
      show (pd_oc a ++ pd_oc b).length = _
      rw [List.length_append]
    rw [e]
    dsimp only at a2 ⊢
    omega
  | op s a b ta tb iha ihb =>
    intro k k' h
    obtain ⟨k1, k2, h1, h2, rfl⟩ := h
    have a1 := iha _ _ h1
    have a2 := ihb _ _ h2
    have e : (pd_oc (pt_op s a b)).length = (pd_oc a).length + (pd_oc b).length := by
      show (pd_oc a ++ pd_oc b).length = _
      rw [List.length_append]
    rw [e]
    dsimp only
    omega
  | site s a b ta tb iha ihb =>
    intro k k' h
    obtain ⟨k1, k2, h1, _, h2, rfl⟩ := h
    have a1 := iha _ _ h1
    have a2 := ihb _ _ h2
    have e : (pd_oc (pt_site s a b)).length = (pd_oc a).length + (pd_oc b).length := by
      show (pd_oc a ++ pd_oc b).length = _
      rw [List.length_append]
    rw [e]
    dsimp only at a2 ⊢
    omega
/-- LAMBDA f lies well scoped in t, with few binders outside of it -/
def pw_in (fb : Nat → pt_T) (gl s0 : Nat) (B f : Nat) (k k' : pk_K) : Prop := ∃ (n x : Nat) (gl' : List Nat) (sc : List (Nat × Nat)), pk_wfs (fb f) gl' ((f, x) :: sc) ∧ gl'.length ≤ gl ∧ sc.length ≤ s0 + n + (f - (B + k.1)) ∧ 3 * (pd_oc (fb f)).length + 4 * n + 2 * k'.1 + 2 * k.2.2.2 ≤ 2 * k'.2.2.2 + 2 * k.1 + 1
theorem pw_inM {fb : Nat → pt_T} {gl gl1 s0 s1 B f d : Nat} {k k' j j' : pk_K} (h : pw_in fb gl s0 B f k k') (hg : gl ≤ gl1) (hs : s0 ≤ s1) (hj : j.1 ≤ k.1) (hf : B + k.1 ≤ f) (e : 2 * k'.2.2.2 + 2 * k.1 + (2 * j'.1 + 2 * j.2.2.2) ≤ 2 * j'.2.2.2 + 2 * j.1 + (2 * k'.1 + 2 * k.2.2.2)) : pw_in fb gl1 s1 B f j j' := by
  obtain ⟨n, x, gl', sc, h1, h2, h3, h4⟩ := h
  exact ⟨n, x, gl', sc, h1, by omega, by omega, by omega⟩
theorem pw_path {B : Nat} {fb : Nat → pt_T} (t : pt_T) (tt : pt_tw t) : ∀ (k k' : pk_K) (gl : List Nat) (sc : List (Nat × Nat)), pn_can B t k k' → pf_T fb t → pk_wfs t gl sc → ∀ f, B + k.1 ≤ f → f < B + k'.1 → pw_in fb gl.length sc.length B f k k' := by
  induction t, tt using pt_indh with
  | num v => intro k k' gl sc h _ _ f a b; cases h; dsimp only at b; omega
  | var v x => intro k k' gl sc h _ _ f a b; cases h; dsimp only at b; omega
  | glo g x => intro k k' gl sc h _ _ f a b; cases h; dsimp only at b; omega
  | dead d => intro k k' gl sc h _ _ f a b; cases h.2; dsimp only at b; omega
  | lam f0 x b tb ih =>
    intro k k' gl sc h hT hw f p q
    obtain ⟨ef, k1, h1, rfl⟩ := h
    have C := pw_canC b tb _ _ h1
    by_cases z : f = f0
    · refine ⟨0, x, gl, sc, ?_, Nat.le_refl _, by omega, ?_⟩
      · rw [z, hT.2]; exact hw.2
      · rw [z, hT.2]; dsimp only at C ⊢; omega
    · obtain ⟨n, y, gl', sc', i1, i2, i3, i4⟩ := ih _ _ gl ((f0, x) :: sc) h1 hT.1 hw.2 f (by dsimp only; omega) q
      refine ⟨n, y, gl', sc', i1, i2, ?_, ?_⟩
      · rw [List.length_cons] at i3; dsimp only at i3 ⊢; omega
      · dsimp only at i4 ⊢; omega
  | ife a b c ta tb tc iha ihb ihc =>
    intro k k' gl sc h hT hw f p q
    obtain ⟨k1, k2, k3, h1, h2, h3, rfl⟩ := h
    have c1 := pw_canC a ta _ _ h1
    have c2 := pw_canC b tb _ _ h2
    have c3 := pw_canC c tc _ _ h3
    by_cases z : f < B + k1.1
    · exact pw_inM (d := 0) (iha _ _ gl sc h1 hT.1 hw.1 f p z) (Nat.le_refl _) (Nat.le_refl _) (Nat.le_refl _) p (by dsimp only; omega)
    · by_cases z2 : f < B + k2.1
      · exact pw_inM (d := 0) (ihb _ _ gl sc h2 hT.2.1 hw.2.1 f (by omega) z2) (Nat.le_refl _) (Nat.le_refl _) (by omega) (by omega) (by dsimp only; omega)
      · exact pw_inM (d := 0) (ihc _ _ gl sc h3 hT.2.2 hw.2.2 f (by omega) q) (Nat.le_refl _) (Nat.le_refl _) (by omega) (by omega) (by dsimp only; omega)
  | lt v x a b ta tb iha ihb =>
    intro k k' gl sc h hT hw f p q
    obtain ⟨k1, k2, h1, _, h2, rfl⟩ := h
    have c1 := pw_canC a ta _ _ h1
    have c2 := pw_canC b tb _ _ h2
    by_cases z : f < B + k1.1
    · exact pw_inM (d := 0) (iha _ _ gl sc h1 hT.1 hw.2.1 f p z) (Nat.le_refl _) (Nat.le_refl _) (Nat.le_refl _) p (by dsimp only at c2 ⊢; omega)
    · obtain ⟨n, y, gl', sc', i1, i2, i3, i4⟩ := ihb _ _ gl ((v, x) :: sc) h2 hT.2 hw.2.2 f (by dsimp only; omega) q
      refine ⟨n + 1, y, gl', sc', i1, i2, ?_, ?_⟩
      · rw [List.length_cons] at i3; dsimp only at i3 ⊢; omega
      · dsimp only at i4 c2 ⊢; omega
  | op s a b ta tb iha ihb =>
    intro k k' gl sc h hT hw f p q
    obtain ⟨k1, k2, h1, h2, rfl⟩ := h
    have c1 := pw_canC a ta _ _ h1
    have c2 := pw_canC b tb _ _ h2
    by_cases z : f < B + k1.1
    · exact pw_inM (d := 0) (iha _ _ gl sc h1 hT.1 hw.2.1 f p z) (Nat.le_refl _) (Nat.le_refl _) (Nat.le_refl _) p (by dsimp only; omega)
    · exact pw_inM (d := 0) (ihb _ _ gl sc h2 hT.2 hw.2.2 f (by omega) q) (Nat.le_refl _) (Nat.le_refl _) (by omega) (by omega) (by dsimp only; omega)
  | site s a b ta tb iha ihb =>
    intro k k' gl sc h hT hw f p q
    obtain ⟨k1, k2, h1, _, h2, rfl⟩ := h
    have c1 := pw_canC a ta _ _ h1
    have c2 := pw_canC b tb _ _ h2
    by_cases z : f < B + k1.1
    · exact pw_inM (d := 0) (iha _ _ gl sc h1 hT.1 hw.1 f p z) (Nat.le_refl _) (Nat.le_refl _) (Nat.le_refl _) p (by dsimp only at c2 ⊢; omega)
    · exact pw_inM (d := 0) (ihb _ _ gl sc h2 hT.2 hw.2 f (by dsimp only; omega) q) (Nat.le_refl _) (Nat.le_refl _) (by dsimp only; omega) (by dsimp only; omega) (by dsimp only at c2 ⊢; omega)
theorem pw_gwC {B : Nat} : ∀ (gs : ps_G) (gl : List Nat) (k k1 : pk_K), pn_GW B gs gl k k1 → k.1 ≤ k1.1 ∧ k1.1 + k.2.2.2 + gs.length ≤ k1.2.2.2 + k.1 := by
  intro gs
  induction gs with
  | nil => intro gl k k1 h; cases h; exact ⟨Nat.le_refl _, by rw [List.length_nil]; omega⟩
  | cons e r ih =>
    intro gl k k1 h
    obtain ⟨x, v, t⟩ := e
    obtain ⟨_, _, _, tt, _, k2, h1, h2⟩ := h
    have c1 := pw_canC t tt _ _ h1
    have c2 := ih _ _ _ h2
    rw [List.length_cons]
    omega
theorem pw_gwP {B : Nat} {fb : Nat → pt_T} : ∀ (gs : ps_G) (gl : List Nat) (k k1 : pk_K), pn_GW B gs gl k k1 → (∀ e ∈ gs, pf_T fb e.2.2) → ∀ f, B + k.1 ≤ f → f < B + k1.1 → pw_in fb (gl.length + gs.length) 1 B f k k1 := by
  intro gs
  induction gs with
  | nil => intro gl k k1 h _ f p q; cases h; omega
  | cons e r ih =>
    intro gl k k1 h hT f p q
    obtain ⟨x, v, t⟩ := e
    obtain ⟨_, _, _, tt, hw, k2, h1, h2⟩ := h
    have c1 := pw_canC t tt _ _ h1
    have c2 := pw_gwC r _ _ _ h2
    rw [List.length_cons]
    by_cases z : f < B + k2.1
    · have := pw_path t tt _ _ _ _ h1 (hT _ (List.mem_cons_self ..)) hw f p z
      exact pw_inM (d := 0) this (by rw [List.length_append, List.length_singleton]; omega) (Nat.le_refl _) (Nat.le_refl _) p (by omega)
    · have := ih _ _ _ h2 (fun e he => hT e (List.mem_cons_of_mem _ he)) f (by omega) q
      rw [List.length_append, List.length_singleton] at this
      exact pw_inM (d := 0) this (by omega) (Nat.le_refl _) (by omega) (by omega) (by omega)
theorem pd_fold_len (p : Nat → Bool) : ∀ (l acc : List Nat), (l.foldl (pd_ad p) acc).length ≤ acc.length + l.length := by
  intro l
  induction l with
  | nil => intro acc; exact Nat.le_refl _
  | cons a r ih =>
    intro acc
    rw [List.foldl_cons, List.length_cons]
    refine Nat.le_trans (ih _) ?_
    unfold pd_ad
    by_cases z : p a = true ∨ a ∈ acc
    · rw [if_pos z]; omega
    · rw [if_neg z, List.length_append, List.length_singleton]; omega
theorem pd_fl_not {f : Nat} {t : pt_T} {v : Nat} (h : v ∈ pd_fl f t) : pd_in f t v = false := by
  unfold pd_fl at h
  have key : ∀ (l acc : List Nat), (∀ v ∈ acc, pd_in f t v = false) → ∀ v ∈ l.foldl (pd_ad (pd_in f t)) acc, pd_in f t v = false := by
    intro l
    induction l with
    | nil => intro acc h; exact h
    | cons a r ih =>
      intro acc h
      rw [List.foldl_cons]
      refine ih _ ?_
      unfold pd_ad
      by_cases z : pd_in f t a = true ∨ a ∈ acc
      · rw [if_pos z]; exact h
      · rw [if_neg z]
        intro v hv
        rcases List.mem_append.mp hv with q | q
        · exact h v q
        · have : v = a := by simpa using q
          rw [this]
          cases e : pd_in f t a with
          | false => rfl
          | true => exact absurd (Or.inl e) z
  exact key _ [] (fun v hv => by cases hv) v h
/-- FIELDS of LAMBDA G + i are few -/
theorem pw_fields {gs : ps_G} {t : pt_T} {la li si nd : Nat} {fb : Nat → pt_T} {sb : pf_sT} (hV : pn_V gs t la li si nd) (hG : pf_G gs t la li si fb sb) {i : Nat} (hi : i < la) : 7 * (pd_fl (gs.length + i) (fb (gs.length + i))).length + 2 * la ≤ 205 + 4 * i ∧ ∃ (gl : List Nat) (sc : List (Nat × Nat)), pk_wfs (fb (gs.length + i)) gl sc ∧ gl.length ≤ gs.length := by
  obtain ⟨v1, v2, v3, v4, v5, v6, v7, k1, v8, v9⟩ := id hV
  have hT : ∀ e ∈ gs, pf_T fb e.2.2 := fun e he => by
    obtain ⟨g, g1, g2⟩ := List.getElem_of_mem he
    have h1 := hG.1 g g1
    have h2 := (hG.2.2.1 g (by omega)).1
    rw [h1] at h2
    unfold pn_tr at h2
    rw [List.getD_eq_getElem?_getD, List.getElem?_map, List.getElem?_eq_getElem g1, g2] at h2
    exact h2
  have c1 := pw_gwC gs _ _ _ v8
  have c2 := pw_canC t v6 _ _ v9
  dsimp only at c1 c2
  have H : pw_in fb gs.length 1 gs.length (gs.length + i) (0, 0, 0, 0) (la, li, si, nd) := by
    by_cases z : i < k1.1
    · have := pw_gwP gs [] _ _ v8 hT (gs.length + i) (by dsimp only; omega) (by omega)
      rw [List.length_nil, Nat.zero_add] at this
      exact pw_inM (d := 0) this (Nat.le_refl _) (Nat.le_refl _) (Nat.le_refl _) (by dsimp only; omega) (by dsimp only; omega)
    · have := pw_path t v6 _ _ _ _ v9 hG.2.2.2.1.2.1 v7 (gs.length + i) (by omega) (by dsimp only; omega)
      exact pw_inM (d := 0) this (by unfold pk_gn; rw [List.length_map]; exact Nat.le_refl _) (by rw [List.length_nil]; omega) (by dsimp only; omega) (by omega) (by dsimp only; omega)
  obtain ⟨n, x, gl', sc, h1, h2, h3, h4⟩ := H
  refine ⟨?_, gl', _, h1, h2⟩
  have tf := hG.2.1 (gs.length + i)
  have l1 : (pd_fl (gs.length + i) (fb (gs.length + i))).length ≤ (pd_oc (fb (gs.length + i))).length := by
    have := pd_fold_len (pd_in (gs.length + i) (fb (gs.length + i))) (pd_oc (fb (gs.length + i))) []
    rw [List.length_nil, Nat.zero_add] at this
    exact this
  have l2 : (pd_fl (gs.length + i) (fb (gs.length + i))).length ≤ sc.length := by
    have := pb_nodup_sub (sc.map (fun b => b.1)) _ (pd_fl_nodup (gs.length + i) (fb (gs.length + i))) (fun v hv => by
      have n1 := pd_fl_not hv
      unfold pd_in at n1
      rw [decide_eq_false_iff_not] at n1
      rcases pd_oc_bd _ tf gl' _ h1 v (pd_fl_oc hv) with q | ⟨b, b1, b2⟩
      · exact absurd (Or.inr q) n1
      · rcases List.mem_cons.mp b1 with q | q
        · rw [q] at b2
          exact absurd (Or.inl b2.symm) n1
        · exact List.mem_map.mpr ⟨b, q, b2⟩)
    rw [List.length_map] at this
    exact this
  dsimp only at h3 h4
  omega
