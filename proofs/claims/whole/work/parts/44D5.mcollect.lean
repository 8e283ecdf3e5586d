/-! FIELDS by the reference -/
def pm_FL (f : Nat) (l : List Nat) (w : fa_W) : Prop := w 214 f = (l.length : Int) ∧ ∀ (i x : Nat), l[i]? = some x → w 213 (124 * f + i) = (x : Int)
def pm_ff (f : Nat) (w w' : fa_W) : Prop := ∀ i j, ¬ (i = 214 ∧ j = f) → ¬ (i = 213 ∧ 124 * f ≤ j ∧ j < 124 * f + 124) → w' i j = w i j
theorem pm_ff_refl (f : Nat) (w : fa_W) : pm_ff f w w := fun _ _ _ _ => rfl
theorem pm_ff_tr {f : Nat} {a b c : fa_W} (h : pm_ff f a b) (k : pm_ff f b c) : pm_ff f a c := fun i j p q => (k i j p q).trans (h i j p q)
theorem pm_adds_l {f v : Nat} (hf : f < 24) (hv : v < 124) {l : List Nat} {w : fa_W} (hl : ∀ x ∈ l, x < 124) (hL : l.length < 124 ∨ v ∈ l) (h : pm_FL f l w) (h124 : l.length ≤ 124) : ∀ (d k F : Nat), l.length = k + d → d < F → (∀ x ∈ l.take k, x ≠ v) → ∃ w', fm_Mod_addsField_l2 (f : Int) (v : Int) F (k : Int) w = some w' ∧ pm_FL f (if v ∈ l then l else l ++ [v]) w' ∧ pm_ff f w w' := by
  have jf : fa_ix (f : Int) 24 = some f := pb_ix (by omega) (by omega)
  intro d
  induction d with
  | zero =>
    intro k F hk hF hn
    obtain ⟨F, rfl⟩ : ∃ G, F = G + 1 := ⟨F - 1, by omega⟩
    have no : v ∉ l := fun q => by
      rw [List.take_of_length_le (by omega)] at hn
      exact hn v q rfl
    have ll : l.length < 124 := hL.resolve_right no
    refine ⟨fa_st (fa_st w 213 (124 * f + l.length) (v : Int)) 214 f ((l.length + 1 : Nat) : Int), ?_, ?_, fun i j p q => ?_⟩
    · unfold fm_Mod_addsField_l2
      rw [jf, Option.bind_some, h.1, pb_wr (by omega), pb_wr (by omega), if_pos (by omega), Option.bind_some, h.1, show (124 : Int) * (f : Int) + (l.length : Int) = ((124 * f + l.length : Nat) : Int) by omega, pb_ix (by omega) (by omega), Option.bind_some, pf_let_eq, Option.bind_some, Option.bind_some, fa_st_ne (by omega), h.1, pf_let_eq]
      rfl
    · rw [if_neg no]
      refine ⟨?_, fun i x q => ?_⟩
      · rw [fa_st_eq, List.length_append, List.length_singleton]
      · rw [fa_st_ne (by omega)]
        by_cases e : i = l.length
        · rw [e, List.getElem?_append_right (Nat.le_refl _), Nat.sub_self] at q
          have : v = x := Option.some.inj q
          rw [e, fa_st_eq, this]
        · by_cases e2 : i < l.length
          · rw [List.getElem?_append_left e2] at q
            rw [fa_st_ne (by omega)]
            exact h.2 i x q
          · rw [List.getElem?_eq_none (by rw [List.length_append]; show l.length + 1 ≤ i; omega)] at q
            cases q
    · rw [fa_st_ne (by omega), fa_st_ne (by omega)]
  | succ d ih =>
    intro k F hk hF hn
    obtain ⟨F, rfl⟩ : ∃ G, F = G + 1 := ⟨F - 1, by omega⟩
    have kl : k < l.length := by omega
    have q := h.2 k l[k] (List.getElem?_eq_getElem kl)
    have xl := hl l[k] (List.getElem_mem kl)
    unfold fm_Mod_addsField_l2
    rw [jf, Option.bind_some, h.1, pb_wr (by omega), pb_wr (by omega), if_neg (by omega), show (124 : Int) * (f : Int) + (k : Int) = ((124 * f + k : Nat) : Int) by omega, pb_ix (by omega) (by omega), Option.bind_some, q, pb_wr (by omega), pb_wr (n := v) (by omega)]
    by_cases e : l[k] = v
    · have em : v ∈ l := e ▸ List.getElem_mem kl
      rw [if_pos (by omega)]
      refine ⟨w, rfl, ?_, pm_ff_refl f w⟩
      rw [if_pos em]; exact h
    · rw [if_neg (by omega), pf_let_eq]
      refine ih (k + 1) F (by omega) (by omega) (fun x hx => ?_)
      rw [List.take_succ, List.getElem?_eq_getElem kl] at hx
      rcases List.mem_append.mp hx with hx | hx
      · exact hn x hx
      · have : x = l[k] := by simpa using hx
        rw [this]; exact e
theorem pm_adds {f v : Nat} (hf : f < 24) (hv : v < 124) {l : List Nat} {w : fa_W} (hn : l.Nodup) (hl : ∀ x ∈ l, x < 124) (h : pm_FL f l w) : ∃ w', fm_Mod_addsField (f : Int) (v : Int) w = some w' ∧ pm_FL f (if v ∈ l then l else l ++ [v]) w' ∧ pm_ff f w w' := by
  obtain ⟨FU, hFU⟩ : ∃ F, F = fa_FU := ⟨_, rfl⟩
  have hF2 : 1000 < FU := by rw [hFU]; unfold fa_FU; omega
  have len := pb_nodup_le 124 l hn hl
  have hL : l.length < 124 ∨ v ∈ l := by
    by_cases c : v ∈ l
    · exact Or.inr c
    · have := pb_nodup_le 124 (l ++ [v]) (by
        rw [List.nodup_append]
        refine ⟨hn, pb_nodup1 v, fun a ha b hb e => ?_⟩
        rw [List.mem_singleton] at hb
        exact c (by rw [← hb, ← e]; exact ha)) (fun x hx => by
        rcases List.mem_append.mp hx with q | q
        · exact hl x q
        · rw [List.mem_singleton] at q; omega)
      rw [List.length_append] at this
      change l.length + 1 ≤ 124 at this
      exact Or.inl (by omega)
  unfold fm_Mod_addsField
  rw [← hFU]
  exact pm_adds_l hf hv hl hL h len l.length 0 FU (by omega) (by omega) (fun x hx => by cases hx)
theorem pm_collects {f nf nv ns : Nat} (h24 : nf ≤ 24) {p : Nat → Bool} {w0 : fa_W} (hf : f < 24) (t : pt_T) (tt : pt_tw t) : ∀ (h : Int) (a n : Nat) (acc : List Nat) (w : fa_W), pf_W nf nv ns t → pm_H t h a w0 → a + pt_sz t ≤ 101 → pt_sz t ≤ n → (∀ v ∈ pd_oc t, v < 124 ∧ ∀ w', pm_ff f w0 w' → fm_Mod_isWithin (w' 193 v) (f : Int) w' = some (p v)) → pm_ff f w0 w → acc.Nodup → (∀ v ∈ acc, v < 124) → pm_FL f acc w → ∃ w', fm_Mod_collects n (f : Int) ((a + pt_sz t - 1 : Nat) : Int) w = some w' ∧ pm_ff f w0 w' ∧ pm_FL f ((pd_oc t).foldl (pd_ad p) acc) w' := by
  induction t, tt using pt_indh with
  | num v =>
    intro h a n acc w W H hs hn hp hw hN hA hF
    have s : pt_sz (pt_num v) = 1 := rfl
    obtain ⟨n, rfl⟩ : ∃ m, n = m + 1 := ⟨n - 1, by omega⟩
    refine ⟨w, ?_, hw, hF⟩
    unfold fm_Mod_collects fm_Mod_collects_b
    rw [s, show a + 1 - 1 = a by omega, pb_ix (by omega) (by omega), Option.bind_some, hw _ _ (by omega) (by omega), H.1]
    rfl
  | var v x =>
    intro h a n acc w W H hs hn hp hw hN hA hF
    have s : pt_sz (pt_var v x) = 1 := rfl
    obtain ⟨n, rfl⟩ : ∃ m, n = m + 1 := ⟨n - 1, by omega⟩
    obtain ⟨p1, p2⟩ := hp v (List.mem_singleton.mpr rfl)
    have e1 : pd_oc (pt_var v x) = [v] := rfl
    have jv : fa_ix (v : Int) 124 = some v := pb_ix (by omega) (by omega)
    rw [e1]
    unfold fm_Mod_collects fm_Mod_collects_b
    rw [s, show a + 1 - 1 = a by omega, pb_ix (by omega) (by omega), Option.bind_some, hw 184 _ (by omega) (by omega), H.1, if_pos (by decide), Option.bind_some, hw 185 _ (by omega) (by omega), H.2.1, jv, Option.bind_some, p2 w hw, Option.bind_some]
    show ∃ w', _ ∧ _ ∧ pm_FL f (pd_ad p acc v) w'
    unfold pd_ad
    cases e : p v with
    | true =>
      rw [if_pos rfl, if_pos (Or.inl rfl)]
      exact ⟨w, rfl, hw, hF⟩
    | false =>
      obtain ⟨w', q1, q2, q3⟩ := pm_adds hf p1 hN hA hF
      rw [if_neg (by decide), Option.bind_some, hw 185 _ (by omega) (by omega), H.2.1, q1, Option.bind_some]
      refine ⟨w', rfl, pm_ff_tr hw q3, ?_⟩
      by_cases em : v ∈ acc
      · rw [if_pos (Or.inr em)]; rw [if_pos em] at q2; exact q2
      · rw [if_neg (fun q => q.elim (fun z => by cases z) em)]; rw [if_neg em] at q2; exact q2
  | glo g x =>
    intro h a n acc w W H hs hn hp hw hN hA hF
    have s : pt_sz (pt_glo g x) = 1 := rfl
    obtain ⟨n, rfl⟩ : ∃ m, n = m + 1 := ⟨n - 1, by omega⟩
    refine ⟨w, ?_, hw, hF⟩
    unfold fm_Mod_collects fm_Mod_collects_b
    rw [s, show a + 1 - 1 = a by omega, pb_ix (by omega) (by omega), Option.bind_some, hw _ _ (by omega) (by omega), H.1]
    rfl
  | dead d =>
    intro h a n acc w W H hs hn hp hw hN hA hF
    have s : pt_sz (pt_dead d) = 1 := rfl
    obtain ⟨n, rfl⟩ : ∃ m, n = m + 1 := ⟨n - 1, by omega⟩
    refine ⟨w, ?_, hw, hF⟩
    unfold fm_Mod_collects fm_Mod_collects_b
    rw [s, show a + 1 - 1 = a by omega, pb_ix (by omega) (by omega), Option.bind_some, hw _ _ (by omega) (by omega), H.1]
    rfl
  | lam f0 x b wb ih =>
    intro h a n acc w W H hs hn hp hw hN hA hF
    have s : pt_sz (pt_lam f0 x b) = pt_sz b + 1 := rfl
    obtain ⟨n, rfl⟩ : ∃ m, n = m + 1 := ⟨n - 1, by omega⟩
    obtain ⟨H1, H2, H3, H4, H5, H6, H7⟩ := H
    have jf0 : fa_ix (f0 : Int) 24 = some f0 := pb_ix (by have := W.1; omega) (by omega)
    obtain ⟨w', q1, q2, q3⟩ := ih _ a n acc w W.2 H1 (by omega) (by omega) hp hw hN hA hF
    refine ⟨w', ?_, q2, q3⟩
    unfold fm_Mod_collects fm_Mod_collects_b
    rw [s, show a + (pt_sz b + 1) - 1 = a + pt_sz b by omega, pb_ix (by omega) (by omega), Option.bind_some, hw 184 _ (by omega) (by omega), H2, if_neg (by decide), if_pos (by decide), Option.bind_some, hw 185 _ (by omega) (by omega), H3, jf0, Option.bind_some, hw 189 _ (by omega) (by omega), H4, q1]
    rfl
  | ife ta t2 tc wa wb wc iha ihb ihc =>
    intro h a n acc w W H hs hn hp hw hN hA hF
    have s : pt_sz (pt_ife ta t2 tc) = pt_sz ta + pt_sz t2 + pt_sz tc + 1 := rfl
    obtain ⟨n, rfl⟩ : ∃ m, n = m + 1 := ⟨n - 1, by omega⟩
    obtain ⟨H1, H2, H3, H4, H5, H6, H7⟩ := H
    have eo : pd_oc (pt_ife ta t2 tc) = pd_oc ta ++ (pd_oc t2 ++ pd_oc tc) := rfl
    rw [eo] at hp ⊢
    rw [List.foldl_append, List.foldl_append]
    obtain ⟨w1, a1, a2, a3⟩ := iha _ a n acc w W.1 H1 (by omega) (by omega) (fun v hv => hp v (List.mem_append_left _ hv)) hw hN hA hF
    have N1 := pd_fold_nodup p (pd_oc ta) acc hN
    have B1 := pd_fold_mem p (fun v => v < 124) (pd_oc ta) acc hA (fun v hv => (hp v (List.mem_append_left _ hv)).1)
    obtain ⟨w2, b1, b2, b3⟩ := ihb _ _ n _ w1 W.2.1 H2 (by omega) (by omega) (fun v hv => hp v (List.mem_append_right _ (List.mem_append_left _ hv))) a2 N1 B1 a3
    have N2 := pd_fold_nodup p (pd_oc t2) _ N1
    have B2 := pd_fold_mem p (fun v => v < 124) (pd_oc t2) _ B1 (fun v hv => (hp v (List.mem_append_right _ (List.mem_append_left _ hv))).1)
    obtain ⟨w3, c1, c2, c3⟩ := ihc _ _ n _ w2 W.2.2 H3 (by omega) (by omega) (fun v hv => hp v (List.mem_append_right _ (List.mem_append_right _ hv))) b2 N2 B2 b3
    refine ⟨w3, ?_, c2, c3⟩
    unfold fm_Mod_collects fm_Mod_collects_b
    rw [s, show a + (pt_sz ta + pt_sz t2 + pt_sz tc + 1) - 1 = a + pt_sz ta + pt_sz t2 + pt_sz tc by omega, pb_ix (by omega) (by omega), Option.bind_some, hw 184 _ (by omega) (by omega), H4, if_neg (by decide), if_neg (by decide), if_pos (by decide), Option.bind_some, hw 185 _ (by omega) (by omega), H5, a1, Option.bind_some, Option.bind_some, a2 186 _ (by omega) (by omega), H6, b1, Option.bind_some, Option.bind_some, b2 187 _ (by omega) (by omega), H7, c1]
    rfl
  | lt v x ta t2 wa wb iha ihb =>
    intro h a n acc w W H hs hn hp hw hN hA hF
    have s : pt_sz (pt_let v x ta t2) = pt_sz ta + pt_sz t2 + 1 := rfl
    obtain ⟨n, rfl⟩ : ∃ m, n = m + 1 := ⟨n - 1, by omega⟩
    obtain ⟨H1, H2, H3, H4, H5, _⟩ := H
    have eo : pd_oc (pt_let v x ta t2) = pd_oc ta ++ pd_oc t2 := rfl
    rw [eo] at hp ⊢
    rw [List.foldl_append]
    obtain ⟨w1, a1, a2, a3⟩ := iha _ a n acc w W.2.1 H1 (by omega) (by omega) (fun v hv => hp v (List.mem_append_left _ hv)) hw hN hA hF
    have N1 := pd_fold_nodup p (pd_oc ta) acc hN
    have B1 := pd_fold_mem p (fun v => v < 124) (pd_oc ta) acc hA (fun v hv => (hp v (List.mem_append_left _ hv)).1)
    obtain ⟨w2, b1, b2, b3⟩ := ihb _ _ n _ w1 W.2.2 H2 (by omega) (by omega) (fun v hv => hp v (List.mem_append_right _ hv)) a2 N1 B1 a3
    refine ⟨w2, ?_, b2, b3⟩
    unfold fm_Mod_collects fm_Mod_collects_b
    rw [s, show a + (pt_sz ta + pt_sz t2 + 1) - 1 = a + pt_sz ta + pt_sz t2 by omega, pb_ix (by omega) (by omega), Option.bind_some, hw 184 _ (by omega) (by omega), H3, if_neg (by decide), if_neg (by decide), if_neg (by decide), if_pos (by decide), Option.bind_some, hw 185 _ (by omega) (by omega), H4, a1, Option.bind_some, Option.bind_some, a2 186 _ (by omega) (by omega), H5, b1]
    rfl
  | op r ta t2 wa wb iha ihb =>
    intro h a n acc w W H hs hn hp hw hN hA hF
    have s : pt_sz (pt_op r ta t2) = pt_sz ta + pt_sz t2 + 1 := rfl
    obtain ⟨n, rfl⟩ : ∃ m, n = m + 1 := ⟨n - 1, by omega⟩
    obtain ⟨H1, H2, H3, H4, H5, _⟩ := H
    have eo : pd_oc (pt_op r ta t2) = pd_oc ta ++ pd_oc t2 := rfl
    rw [eo] at hp ⊢
    rw [List.foldl_append]
    obtain ⟨w1, a1, a2, a3⟩ := iha _ a n acc w W.1 H1 (by omega) (by omega) (fun v hv => hp v (List.mem_append_left _ hv)) hw hN hA hF
    have N1 := pd_fold_nodup p (pd_oc ta) acc hN
    have B1 := pd_fold_mem p (fun v => v < 124) (pd_oc ta) acc hA (fun v hv => (hp v (List.mem_append_left _ hv)).1)
    obtain ⟨w2, b1, b2, b3⟩ := ihb _ _ n _ w1 W.2 H2 (by omega) (by omega) (fun v hv => hp v (List.mem_append_right _ hv)) a2 N1 B1 a3
    refine ⟨w2, ?_, b2, b3⟩
    unfold fm_Mod_collects fm_Mod_collects_b
    rw [s, show a + (pt_sz ta + pt_sz t2 + 1) - 1 = a + pt_sz ta + pt_sz t2 by omega, pb_ix (by omega) (by omega), Option.bind_some, hw 184 _ (by omega) (by omega), H3, if_neg (by decide), if_neg (by decide), if_neg (by decide), if_neg (by decide), if_pos (by decide), Option.bind_some, hw 185 _ (by omega) (by omega), H4, a1, Option.bind_some, Option.bind_some, a2 186 _ (by omega) (by omega), H5, b1]
    rfl
  | site r ta t2 wa wb iha ihb =>
    intro h a n acc w W H hs hn hp hw hN hA hF
    have s : pt_sz (pt_site r ta t2) = pt_sz ta + pt_sz t2 + 1 := rfl
    obtain ⟨n, rfl⟩ : ∃ m, n = m + 1 := ⟨n - 1, by omega⟩
    obtain ⟨H1, H2, H3, H4, H5, _⟩ := H
    have eo : pd_oc (pt_site r ta t2) = pd_oc ta ++ pd_oc t2 := rfl
    rw [eo] at hp ⊢
    rw [List.foldl_append]
    obtain ⟨w1, a1, a2, a3⟩ := iha _ a n acc w W.2.1 H1 (by omega) (by omega) (fun v hv => hp v (List.mem_append_left _ hv)) hw hN hA hF
    have N1 := pd_fold_nodup p (pd_oc ta) acc hN
    have B1 := pd_fold_mem p (fun v => v < 124) (pd_oc ta) acc hA (fun v hv => (hp v (List.mem_append_left _ hv)).1)
    obtain ⟨w2, b1, b2, b3⟩ := ihb _ _ n _ w1 W.2.2 H2 (by omega) (by omega) (fun v hv => hp v (List.mem_append_right _ hv)) a2 N1 B1 a3
    refine ⟨w2, ?_, b2, b3⟩
    unfold fm_Mod_collects fm_Mod_collects_b
    rw [s, show a + (pt_sz ta + pt_sz t2 + 1) - 1 = a + pt_sz ta + pt_sz t2 by omega, pb_ix (by omega) (by omega), Option.bind_some, hw 184 _ (by omega) (by omega), H3, if_neg (by decide), if_neg (by decide), if_neg (by decide), if_neg (by decide), if_neg (by decide), if_pos (by decide), Option.bind_some, hw 185 _ (by omega) (by omega), H4, a1, Option.bind_some, Option.bind_some, a2 186 _ (by omega) (by omega), H5, b1]
    rfl
