def px_ht (o V lt : Nat) (k k' : pk_K) (w w' : fa_W) : Prop := (∀ i j, i = o + 2 ∨ i = o + 4 ∨ i = o + 6 ∨ i = o + 8 → k.2.2.2 ≤ j → j < k'.2.2.2 → w' i j = w i j) ∧ (∀ j, 3 * k.2.2.2 ≤ j → j < 3 * k'.2.2.2 → w' (o + 10) j = w (o + 10) j) ∧ (∀ j, k.2.2.1 ≤ j → j < k'.2.2.1 → w' (o + 12) j = w (o + 12) j) ∧ (∀ i j, i = o + 14 ∨ i = o + 16 → pk_lb j k'.1 lt → (i = o + 16 → j ≠ V) → w' i j = w i j) ∧ (∀ j, 6 + k.1 ≤ j → j < 6 + k'.1 → w' (o + 20) j = w (o + 20) j) ∧ ∀ j, w' (o + 18) j = w (o + 18) j
theorem px_ht_mono {o V lt : Nat} {k k' j j' : pk_K} {w w' : fa_W} (h : px_ht o V lt k k' w w') (a1 : k.1 ≤ j.1) (a2 : j'.1 ≤ k'.1) (a4 : k.2.2.1 ≤ j.2.2.1) (a5 : j'.2.2.1 ≤ k'.2.2.1) (a6 : k.2.2.2 ≤ j.2.2.2) (a7 : j'.2.2.2 ≤ k'.2.2.2) : px_ht o V lt j j' w w' := ⟨fun i x q r s => h.1 i x q (by omega) (by omega), fun x r s => h.2.1 x (by omega) (by omega), fun x r s => h.2.2.1 x (by omega) (by omega), fun i x q r z => h.2.2.2.1 i x q (pk_lb_mono r a2 (Nat.le_refl _)) z, fun x r s => h.2.2.2.2.1 x (by omega) (by omega), h.2.2.2.2.2⟩
theorem px_N_tr {o V lt : Nat} {k k' : pk_K} {w w' : fa_W} (h : px_ht o V lt k k' w w') {t K v st : Nat} {hh a b c : Int} (h1 : k.2.2.2 ≤ t) (h2 : t < k'.2.2.2) (N : px_N o w t K v hh st a b c) : px_N o w' t K v hh st a b c := by
  obtain ⟨n1, n2, n3, n4, n5, n6, n7⟩ := N
  exact ⟨by rw [h.1 _ _ (by omega) h1 h2]; exact n1, by rw [h.1 _ _ (by omega) h1 h2]; exact n2, by rw [h.1 _ _ (by omega) h1 h2]; exact n3, by rw [h.1 _ _ (by omega) h1 h2]; exact n4, by rw [h.2.1 _ (by omega) (by omega)]; exact n5, by rw [h.2.1 _ (by omega) (by omega)]; exact n6, by rw [h.2.1 _ (by omega) (by omega)]; exact n7⟩
theorem px_xi_app {ins l : List Nat} {v : Nat} (h : v < 24 + ins.length) : px_xi (ins ++ l) v = px_xi ins v := by
  unfold px_xi
  split
  · rfl
  · rw [List.getD_eq_getElem?_getD, List.getD_eq_getElem?_getD, List.getElem?_append_left (by omega)]
theorem px_xi_lb {ins : List Nat} {v la lt : Nat} (hla : la ≤ 18) (hi : ∀ x ∈ ins, 24 ≤ x ∧ x < 24 + lt) (h : pk_lb v la ins.length) : pk_lb (px_xi ins v) la lt := by
  unfold px_xi pk_lb at *
  split
  · omega
  · have e : ins.getD (v - 24) 0 ∈ ins := by
      rw [List.getD_eq_getElem?_getD, List.getElem?_eq_getElem (by omega)]
      exact List.getElem_mem _
    have := hi _ e
    omega
theorem px_H_tr (t : pt_T) (ht : pt_tw t) : ∀ (gl : List Nat) (sc : List (Nat × Nat)) (h : Int) (k k' : pk_K) (o lt : Nat) (ins l : List Nat) (w w' : fa_W) (V : Nat), (∀ j, 6 + k.1 ≤ j → j < 6 + k'.1 → j ≠ V) → (∀ j, k.2.1 ≤ j → j < k'.2.1 → ins.getD j 0 ≠ V) → pk_can t k k' → pk_wfs t gl sc → (∀ b ∈ sc, pk_lb b.1 k.1 k.2.1) → k'.1 ≤ 18 ∧ k'.2.1 ≤ ins.length → (∀ x ∈ ins, 24 ≤ x ∧ x < 24 + lt) → px_ht o V lt k k' w w' → px_H o ins t h k.2.2.2 w → px_H o (ins ++ l) t h k.2.2.2 w' := by
  induction t, ht using pt_indh with
  | num v =>
    intro gl sc h k k' o lt ins l w w' V hV1 hV2 hc hw hs hi hx hf H
    cases hc
    exact px_N_tr hf (Nat.le_refl _) (Nat.lt_succ_self _) H
  | var v x =>
    intro gl sc h k k' o lt ins l w w' V hV1 hV2 hc hw hs hi hx hf H
    cases hc
    have lb := hs _ (ps_lk_mem sc x v hw.1)
    obtain ⟨h18, hi⟩ := hi
    dsimp only at hi lb h18
    have e : px_xi (ins ++ l) v = px_xi ins v := px_xi_app (by unfold pk_lb at lb; omega)
    have lb2 : pk_lb (px_xi ins v) k.1 lt := px_xi_lb h18 hx (pk_lb_mono lb (Nat.le_refl _) hi)
    show px_N o w' k.2.2.2 2 (px_xi (ins ++ l) v) h k.2.2.2 (-1) (-1) (-1) ∧ w' (o + 14) (px_xi (ins ++ l) v) = (x : Int)
    rw [e]
    exact ⟨px_N_tr hf (Nat.le_refl _) (Nat.lt_succ_self _) H.1, by rw [hf.2.2.2.1 _ _ (Or.inl rfl) lb2 (by omega)]; exact H.2⟩
  | glo g x =>
    intro gl sc h k k' o lt ins l w w' V hV1 hV2 hc hw hs hi hx hf H
    cases hc
    exact ⟨px_N_tr hf (Nat.le_refl _) (Nat.lt_succ_self _) H.1, by rw [hf.2.2.2.2.2 g]; exact H.2⟩
  | dead d =>
    intro gl sc h k k' o lt ins l w w' V hV1 hV2 hc hw hs hi hx hf H
    cases hc.2
    exact ⟨px_N_tr hf (Nat.le_refl _) (Nat.lt_succ_self _) H.1, H.2⟩
  | lam f x b tb ih =>
    intro gl sc h k k' o lt ins l w w' V hV1 hV2 hc hw hs hi hx hf H
    obtain ⟨ef, k1, h1, rfl⟩ := hc
    have m := pk_can_mono b tb _ _ h1
    obtain ⟨H1, H2, H3, H4, H5⟩ := H
    dsimp only at m hi
    have h18 := hi.1
    have lf : pk_lb f k1.1 lt := Or.inl (by omega)
    have i := ih gl ((f, x) :: sc) _ (k.1 + 1, k.2) k1 o lt ins l _ _ V (fun j a b => hV1 j (by dsimp only at a; omega) (by dsimp only; omega)) (fun j a b => hV2 j a (by dsimp only; omega)) h1 hw.2 (fun b hb => by
      rcases List.mem_cons.mp hb with rfl | hb
      · exact Or.inl (by dsimp only; omega)
      · exact pk_lb_mono (hs b hb) (by dsimp only; omega) (Nat.le_refl _)) hi hx (px_ht_mono hf (by dsimp only; omega) (Nat.le_refl _) (Nat.le_refl _) (Nat.le_refl _) (Nat.le_refl _) (by dsimp only; omega)) H1
    refine ⟨i, px_N_tr hf (by omega) (by dsimp only; omega) H2, ?_, ?_, ?_⟩
    · rw [hf.2.2.2.1 _ f (Or.inl rfl) lf (by omega)]; exact H3
    · rw [hf.2.2.2.1 _ f (Or.inr rfl) lf (fun _ => hV1 f (by omega) (by dsimp only; omega))]; exact H4
    · rw [hf.2.2.2.2.1 f (by omega) (by dsimp only; omega)]; exact H5
  | ife a b c ta tb tc iha ihb ihc =>
    intro gl sc h k k' o lt ins l w w' V hV1 hV2 hc hw hs hi hx hf H
    obtain ⟨k1, k2, k3, h1, h2, h3, rfl⟩ := hc
    have m1 := pk_can_mono a ta _ _ h1
    have m2 := pk_can_mono b tb _ _ h2
    have m3 := pk_can_mono c tc _ _ h3
    obtain ⟨H1, H2, H3, H4⟩ := H
    dsimp only at hi
    have h18 := hi.1
    have e1 : k.2.2.2 + pt_sz a = k1.2.2.2 := by omega
    have e2 : k1.2.2.2 + pt_sz b = k2.2.2.2 := by omega
    rw [e1] at H2
    rw [e1, e2] at H3
    refine ⟨iha gl sc _ k k1 o lt ins l _ _ V (fun j a b => hV1 j (by omega) (by dsimp only; omega)) (fun j a b => hV2 j (by omega) (by dsimp only; omega)) h1 hw.1 hs (by omega) hx (px_ht_mono hf (Nat.le_refl _) (by dsimp only; omega) (Nat.le_refl _) (by dsimp only; omega) (Nat.le_refl _) (by dsimp only; omega)) H1, ?_, ?_, px_N_tr hf (by omega) (by dsimp only; omega) H4⟩
    · rw [e1]; exact ihb gl sc _ k1 k2 o lt ins l _ _ V (fun j a b => hV1 j (by omega) (by dsimp only; omega)) (fun j a b => hV2 j (by omega) (by dsimp only; omega)) h2 hw.2.1 (fun b hb => pk_lb_mono (hs b hb) (by omega) (by omega)) (by omega) hx (px_ht_mono hf (by omega) (by dsimp only; omega) (by omega) (by dsimp only; omega) (by omega) (by dsimp only; omega)) H2
    · rw [e1, e2]; exact ihc gl sc _ k2 k3 o lt ins l _ _ V (fun j a b => hV1 j (by omega) (by dsimp only; omega)) (fun j a b => hV2 j (by omega) (by dsimp only; omega)) h3 hw.2.2 (fun b hb => pk_lb_mono (hs b hb) (by omega) (by omega)) (by omega) hx (px_ht_mono hf (by omega) (by dsimp only; omega) (by omega) (by dsimp only; omega) (by omega) (by dsimp only; omega)) H3
  | lt v x a b ta tb iha ihb =>
    intro gl sc h k k' o lt ins l w w' V hV1 hV2 hc hw hs hi hx hf H
    obtain ⟨k1, k2, h1, ev, h2, rfl⟩ := hc
    have m1 := pk_can_mono a ta _ _ h1
    have m2 := pk_can_mono b tb _ _ h2
    obtain ⟨H1, H2, H3, H4, H5⟩ := H
    dsimp only at hi m2
    have h18 := hi.1
    have e1 : k.2.2.2 + pt_sz a = k1.2.2.2 := by omega
    have lv : pk_lb v k2.1 ins.length := Or.inr (by omega)
    have e : px_xi (ins ++ l) v = px_xi ins v := px_xi_app (by omega)
    have lb2 : pk_lb (px_xi ins v) k2.1 lt := px_xi_lb (by omega) hx lv
    rw [e1] at H2
    have i2 := ihb gl ((v, x) :: sc) h (k1.1, k1.2.1 + 1, k1.2.2) k2 o lt ins l w w' V (fun j a b => hV1 j (by dsimp only at a; omega) (by dsimp only; omega)) (fun j a b => hV2 j (by dsimp only at a; omega) (by dsimp only; omega)) h2 hw.2.2 (fun b hb => by
      rcases List.mem_cons.mp hb with rfl | hb
      · exact Or.inr (by dsimp only; omega)
      · exact pk_lb_mono (hs b hb) (by dsimp only; omega) (by dsimp only; omega)) (by omega) hx (px_ht_mono hf (by dsimp only; omega) (by dsimp only; omega) (by dsimp only; omega) (by dsimp only; omega) (by dsimp only; omega) (by dsimp only; omega)) H2
    show px_H o (ins ++ l) a h k.2.2.2 w' ∧ px_H o (ins ++ l) b h (k.2.2.2 + pt_sz a) w' ∧ px_N o w' (k.2.2.2 + pt_sz a + pt_sz b) 7 (px_xi (ins ++ l) v) h k.2.2.2 _ _ (-1) ∧ w' (o + 14) (px_xi (ins ++ l) v) = (x : Int) ∧ w' (o + 16) (px_xi (ins ++ l) v) = _
    rw [e, e1]
    rw [e1] at H3 H5
    refine ⟨iha gl sc _ k k1 o lt ins l _ _ V (fun j a b => hV1 j (by omega) (by dsimp only; omega)) (fun j a b => hV2 j (by omega) (by dsimp only; omega)) h1 hw.2.1 hs (by omega) hx (px_ht_mono hf (Nat.le_refl _) (by dsimp only; omega) (Nat.le_refl _) (by dsimp only; omega) (Nat.le_refl _) (by dsimp only; omega)) H1, i2, px_N_tr hf (by omega) (by dsimp only; omega) H3, ?_, ?_⟩
    · rw [hf.2.2.2.1 _ _ (Or.inl rfl) lb2 (by omega)]; exact H4
    · rw [hf.2.2.2.1 _ _ (Or.inr rfl) lb2 (fun _ => by
        have := hV2 k1.2.1 (by omega) (by dsimp only; omega)
        unfold px_xi
        rw [if_neg (by omega), show v - 24 = k1.2.1 by omega]
        exact this)]; exact H5
  | op s a b ta tb iha ihb =>
    intro gl sc h k k' o lt ins l w w' V hV1 hV2 hc hw hs hi hx hf H
    obtain ⟨k1, k2, h1, h2, rfl⟩ := hc
    have m1 := pk_can_mono a ta _ _ h1
    have m2 := pk_can_mono b tb _ _ h2
    obtain ⟨H1, H2, H3⟩ := H
    dsimp only at hi
    have h18 := hi.1
    have e1 : k.2.2.2 + pt_sz a = k1.2.2.2 := by omega
    rw [e1] at H2
    refine ⟨iha gl sc _ k k1 o lt ins l _ _ V (fun j a b => hV1 j (by omega) (by dsimp only; omega)) (fun j a b => hV2 j (by omega) (by dsimp only; omega)) h1 hw.2.1 hs (by omega) hx (px_ht_mono hf (Nat.le_refl _) (by dsimp only; omega) (Nat.le_refl _) (by dsimp only; omega) (Nat.le_refl _) (by dsimp only; omega)) H1, ?_, px_N_tr hf (by omega) (by dsimp only; omega) H3⟩
    rw [e1]; exact ihb gl sc _ k1 k2 o lt ins l _ _ V (fun j a b => hV1 j (by omega) (by dsimp only; omega)) (fun j a b => hV2 j (by omega) (by dsimp only; omega)) h2 hw.2.2 (fun b hb => pk_lb_mono (hs b hb) (by omega) (by omega)) (by omega) hx (px_ht_mono hf (by omega) (by dsimp only; omega) (by omega) (by dsimp only; omega) (by omega) (by dsimp only; omega)) H2
  | site s a b ta tb iha ihb =>
    intro gl sc h k k' o lt ins l w w' V hV1 hV2 hc hw hs hi hx hf H
    obtain ⟨k1, k2, h1, es, h2, rfl⟩ := hc
    have m1 := pk_can_mono a ta _ _ h1
    have m2 := pk_can_mono b tb _ _ h2
    obtain ⟨H1, H2, H3, H4⟩ := H
    dsimp only at hi m2
    have h18 := hi.1
    have e1 : k.2.2.2 + pt_sz a = k1.2.2.2 := by omega
    rw [e1] at H2
    refine ⟨iha gl sc _ k k1 o lt ins l _ _ V (fun j a b => hV1 j (by omega) (by dsimp only; omega)) (fun j a b => hV2 j (by omega) (by dsimp only; omega)) h1 hw.1 hs (by omega) hx (px_ht_mono hf (Nat.le_refl _) (by dsimp only; omega) (Nat.le_refl _) (by dsimp only; omega) (Nat.le_refl _) (by dsimp only; omega)) H1, ?_, px_N_tr hf (by omega) (by dsimp only; omega) H3, ?_⟩
    · rw [e1]; exact ihb gl sc _ (k1.1, k1.2.1, k1.2.2.1 + 1, k1.2.2.2) k2 o lt ins l _ _ V (fun j a b => hV1 j (by dsimp only at a; omega) (by dsimp only; omega)) (fun j a b => hV2 j (by dsimp only at a; omega) (by dsimp only; omega)) h2 hw.2 (fun b hb => pk_lb_mono (hs b hb) (by dsimp only; omega) (by dsimp only; omega)) (by omega) hx (px_ht_mono hf (by dsimp only; omega) (by dsimp only; omega) (by dsimp only; omega) (by dsimp only; omega) (by dsimp only; omega) (by dsimp only; omega)) H2
    · rw [hf.2.2.1 s (by omega) (by dsimp only; omega)]; exact H4
/-- where a tree begins -/
theorem px_H_root {o : Nat} {ins : List Nat} {t : pt_T} (ht : pt_tw t) {h : Int} {z : Nat} {w : fa_W} (H : px_H o ins t h z w) : w (o + 8) (z + pt_sz t - 1) = (z : Int) := by
  revert H
  induction t, ht using pt_indh with
  | num v => intro H; exact H.2.2.2.1
  | var v x => intro H; exact H.1.2.2.2.1
  | glo g x => intro H; exact H.1.2.2.2.1
  | dead d => intro H; exact H.1.2.2.2.1
  | lam f x b tb ih => intro H; exact H.2.1.2.2.2.1
  | ife a b c ta tb tc ia ib ic =>
    intro H
    have e : z + pt_sz (pt_ife a b c) - 1 = z + pt_sz a + pt_sz b + pt_sz c := by
      show z + (pt_sz a + pt_sz b + pt_sz c + 1) - 1 = _
      omega
    rw [e]
    exact H.2.2.2.2.2.2.1
  | lt v x a b ta tb ia ib =>
    intro H
    have e : z + pt_sz (pt_let v x a b) - 1 = z + pt_sz a + pt_sz b := by
      show z + (pt_sz a + pt_sz b + 1) - 1 = _
      omega
    rw [e]
    exact H.2.2.1.2.2.2.1
  | op s a b ta tb ia ib =>
    intro H
    have e : z + pt_sz (pt_op s a b) - 1 = z + pt_sz a + pt_sz b := by
      show z + (pt_sz a + pt_sz b + 1) - 1 = _
      omega
    rw [e]
    exact H.2.2.2.2.2.1
  | site s a b ta tb ia ib =>
    intro H
    have e : z + pt_sz (pt_site s a b) - 1 = z + pt_sz a + pt_sz b := by
      show z + (pt_sz a + pt_sz b + 1) - 1 = _
      omega
    rw [e]
    exact H.2.2.1.2.2.2.1
