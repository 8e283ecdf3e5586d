theorem pn_nv {ins : List Nat} (hn : ins.Nodup) (hi : ∀ x ∈ ins, 24 ≤ x ∧ x < 74) : 24 + ins.length ≤ 74 := by
  have := pb_nodup_le 74 (List.range 24 ++ ins) (by
    rw [List.nodup_append]
    exact ⟨List.nodup_range, hn, fun a ha b hb e => by have := List.mem_range.mp ha; have := (hi b hb).1; omega⟩) (fun v hv => by
    rcases List.mem_append.mp hv with h | h
    · have := List.mem_range.mp h; omega
    · exact (hi v h).2)
  rw [List.length_append, List.length_range] at this
  exact this
theorem px_root_kind {o : Nat} {ins : List Nat} {w : fa_W} (t : pt_T) (tt : pt_tw t) (h : Int) (a : Nat) (H : px_P o ins t h a w) : ∃ (K v : Nat) (x y z : Int), px_N o w (a + pt_sz t - 1) K v h a x y z ∧ K < 10 ∧ ((∃ u, pd_rv t = some u ∧ K = 2 ∧ v = px_xi ins u) ∨ (pd_rv t = none ∧ K ≠ 2)) := by
  cases t, tt using pt_indh with
  | num v => exact ⟨1, v, _, _, _, H, by decide, Or.inr ⟨rfl, by decide⟩⟩
  | var v x => exact ⟨2, px_xi ins v, _, _, _, H.1, by decide, Or.inl ⟨v, rfl, rfl, rfl⟩⟩
  | glo g x => exact ⟨3, g, _, _, _, H.1, by decide, Or.inr ⟨rfl, by decide⟩⟩
  | dead d => exact ⟨4, 0, _, _, _, H, by decide, Or.inr ⟨rfl, by decide⟩⟩
  | lam f x b wb ih => exact ⟨5, f, _, _, _, H.2.1, by decide, Or.inr ⟨rfl, by decide⟩⟩
  | ife ta t2 tc wa wb wc iha ihb ihc =>
    have e : a + pt_sz (pt_ife ta t2 tc) - 1 = a + pt_sz ta + pt_sz t2 + pt_sz tc := by
      show a + (pt_sz ta + pt_sz t2 + pt_sz tc + 1) - 1 = _; omega
    rw [e]
    exact ⟨6, 0, _, _, _, H.2.2.2, by decide, Or.inr ⟨rfl, by decide⟩⟩
  | lt v x ta t2 wa wb iha ihb =>
    have e : a + pt_sz (pt_let v x ta t2) - 1 = a + pt_sz ta + pt_sz t2 := by
      show a + (pt_sz ta + pt_sz t2 + 1) - 1 = _; omega
    rw [e]
    exact ⟨7, _, _, _, _, H.2.2.1, by decide, Or.inr ⟨rfl, by decide⟩⟩
  | op s ta t2 wa wb iha ihb =>
    have e : a + pt_sz (pt_op s ta t2) - 1 = a + pt_sz ta + pt_sz t2 := by
      show a + (pt_sz ta + pt_sz t2 + 1) - 1 = _; omega
    rw [e]
    exact ⟨8, s, _, _, _, H.2.2, by decide, Or.inr ⟨rfl, by decide⟩⟩
  | site s ta t2 wa wb iha ihb =>
    have e : a + pt_sz (pt_site s ta t2) - 1 = a + pt_sz ta + pt_sz t2 := by
      show a + (pt_sz ta + pt_sz t2 + 1) - 1 = _; omega
    rw [e]
    exact ⟨9, s, _, _, _, H.2.2.1, by decide, Or.inr ⟨rfl, by decide⟩⟩
/-- the walk: r holds the FIELDS so far; bv: where the class keeps binders -/
theorem px_lf_l {o r nd nf nv ns f body start : Nat} {fb : Nat → pt_T} {sb : pf_sT} {t : pt_T} {ins : List Nat} {tb : pf_TB} {w0 : fa_W} {p : Nat → Bool} (hp : px_po o) (hr : fa_rf r 0 = r + 1) (hc : fa_cp r = 74) (hro : r + 1 < o) (h24 : nf ≤ 24) (hfl : f < nf) (hnf : nf ≤ nv) (hnv : nv = 24 + ins.length) (hn : ins.Nodup) (hi : ∀ x ∈ ins, 24 ≤ x ∧ x < 74) (hb : body < nd) (hst : start ≤ body) (hT : pf_XT o nd nf nv ns fb sb t ins tb w0) (hz : px_pz o nd w0) (h15 : w0 (o + 15) 1 = ((74 : Nat) : Int)) : ∀ (d j F : Nat) (acc : List Nat) (w : fa_W), body + 1 = j + d → d < F → (∀ i j, i ≠ r → i ≠ r + 1 → w i j = w0 i j) → px_RL r (acc.map (px_xi ins)) w → acc.Nodup → (∀ v ∈ acc, v < nv) → (∀ v ∈ pd_oi tb j d, v < nv ∧ (v ≠ f → ∃ bv : Int, -1 ≤ bv ∧ bv < 100 ∧ w0 (o + 16) (px_xi ins v) = bv ∧ ((bv < (start : Int) ∨ (body : Int) < bv) ↔ p v = false)) ∧ (v = f → p v = true)) → ∃ w', fm_Program_listFields_l37 o (f : Int) r F (body : Int) (start : Int) (j : Int) w = some w' ∧ (∀ i j, i ≠ r → i ≠ r + 1 → w' i j = w0 i j) ∧ px_RL r (((pd_oi tb j d).foldl (pd_ad p) acc).map (px_xi ins)) w' := by
  have n74 := pn_nv hn hi
  have x74 := px_xi_lt hi
  intro d
  induction d with
  | zero =>
    intro j F acc w hj hF hf hR hA hv ho
    obtain ⟨F, rfl⟩ : ∃ G, F = G + 1 := ⟨F - 1, by omega⟩
    have h100 := hz.2.2.2.2.2
    refine ⟨w, ?_, hf, hR⟩
    unfold fm_Program_listFields_l37
    rw [pb_wr (by omega), pb_wr (by omega), if_pos (by omega)]
  | succ d ih =>
    intro j F acc w hj hF hf hR hA hv ho
    obtain ⟨F, rfl⟩ : ∃ G, F = G + 1 := ⟨F - 1, by omega⟩
    have h100 := hz.2.2.2.2.2
    have hvo : px_vo o w0 w := fun i j p q => hf i j (by omega) (by omega)
    have hT' := pf_XT_ob hvo hT
    have hz' := px_pz_ob hz hvo
    have jl : j < nd := by omega
    obtain ⟨tw, sz, hN, qP, _⟩ := hT'.1 j jl
    obtain ⟨K, vv, x, y, z, N, hK, hcase⟩ := px_root_kind _ tw _ _ qP
    rw [show (tb j).2.2 + pt_sz (tb j).2.1 - 1 = j by omega] at N
    obtain ⟨p1, p2, _⟩ := px_rd hp hz' N jl
    have e1 : fr_at (fa_rf o 0) (j : Int) w = (K : Int) := p1
    have e2 : fr_at (fa_rf o 1) (j : Int) w = (vv : Int) := p2
    have nx : ((j : Nat) : Int) + 1 = ((j + 1 : Nat) : Int) := by omega
    have split : pd_oi tb j (d + 1) = pd_hd tb j ++ pd_oi tb (j + 1) d := rfl
    unfold fm_Program_listFields_l37
    rw [pb_wr (n := body) (by omega), pb_wr (n := j) (by omega), if_neg (by omega), if_neg (by omega), pf_let_eq, e1, e2, pb_wr (n := K) (by omega)]
    rcases hcase with ⟨u, c1, c2, c3⟩ | ⟨c1, c2⟩
    · have hd : pd_hd tb j = [u] := by unfold pd_hd; rw [c1]
      rw [hd] at split
      rw [split] at ho ⊢
      obtain ⟨u1, u2, u3⟩ := ho u (List.mem_append_left _ (List.mem_singleton.mpr rfl))
      have ho' := fun v hv => ho v (List.mem_append_right _ hv)
      have xu := x74 u
      have hmem : px_xi ins u ∈ acc.map (px_xi ins) ↔ u ∈ acc := by
        rw [List.mem_map]
        constructor
        · rintro ⟨v, v1, v2⟩
          rw [← px_xi_inj hn hi (by have := hv v v1; omega) (by omega) v2]; exact v1
        · intro h; exact ⟨u, h, rfl⟩
      have len : acc.length ≤ 74 := Nat.le_trans (pb_nodup_le nv acc hA hv) (by omega)
      have go : ∀ acc', pd_ad p acc u = acc' → ([u] ++ pd_oi tb (j + 1) d).foldl (pd_ad p) acc = (pd_oi tb (j + 1) d).foldl (pd_ad p) acc' := fun acc' e => by rw [← e]; rfl
      rw [c2, c3, if_pos (by decide), pb_wr (n := px_xi ins u) (by omega), pb_wr (n := f) (by omega)]
      by_cases ef : u = f
      · have xf : px_xi ins u = f := by rw [ef]; unfold px_xi; exact if_pos (by omega)
        rw [xf, if_pos rfl, pf_let_eq, nx, go acc (by unfold pd_ad; rw [if_pos (Or.inl (u3 ef))])]
        exact ih (j + 1) F acc w (by omega) (by omega) hf hR hA hv ho'
      · have nf' : ¬ ((px_xi ins u : Nat) : Int) = (f : Int) := fun q => by
          have ff : px_xi ins f = f := by unfold px_xi; exact if_pos (by omega)
          exact ef (px_xi_inj hn hi (by omega) (by omega) (by rw [ff]; omega))
        rw [if_neg nf', px_place hr hR (by rw [List.length_map, hc]; exact len) (fun y hy => by
          obtain ⟨v, _, v2⟩ := List.mem_map.mp hy
          have := x74 v
          omega) (by omega)]
        by_cases em : u ∈ acc
        · have ln := pv_ix_len (acc.map (px_xi ins)) (px_xi ins u)
          rw [List.length_map] at ln
          rw [if_pos (hmem.mpr em), pb_wr (by omega), if_neg (by omega), pf_let_eq, nx, go acc (by unfold pd_ad; rw [if_pos (Or.inr em)])]
          exact ih (j + 1) F acc w (by omega) (by omega) hf hR hA hv ho'
        · obtain ⟨bv, b1, b2, b3, b4⟩ := u2 ef
          have r7 : fr_at (fa_rf o 7) ((px_xi ins u : Nat) : Int) w = bv := by
            rw [(px_po_r7 hp).1, pb_at ((hf _ _ (by omega) (by omega)).trans h15) xu (by rw [(px_po_r7 hp).2.2]; exact Nat.le_refl _), (px_po_r7 hp).2.1, show o + 15 + 1 = o + 16 by omega, hf _ _ (by omega) (by omega)]
            exact b3
          rw [if_neg (fun q => em (hmem.mp q)), pb_wr1, if_pos rfl, r7, pf_let_eq, fa_wr_id (x := bv) (by omega) (by omega), pb_wr (n := start) (by omega)]
          have stay : p u = true → (∃ w', fm_Program_listFields_l37 o (f : Int) r F (body : Int) (start : Int) ((j + 1 : Nat) : Int) w = some w' ∧ (∀ i j, i ≠ r → i ≠ r + 1 → w' i j = w0 i j) ∧ px_RL r ((([u] ++ pd_oi tb (j + 1) d).foldl (pd_ad p) acc).map (px_xi ins)) w') := fun hp1 => by
            rw [go acc (by unfold pd_ad; rw [if_pos (Or.inl hp1)])]
            exact ih (j + 1) F acc w (by omega) (by omega) hf hR hA hv ho'
          have more : p u = false → (∃ w', fm_Program_listFields_j114 o (f : Int) r (fun x3 x4 x5 w9 => fm_Program_listFields_l37 o (f : Int) r F x3 x4 x5 w9) (body : Int) (start : Int) (j : Int) ((px_xi ins u : Nat) : Int) w = some w' ∧ (∀ i j, i ≠ r → i ≠ r + 1 → w' i j = w0 i j) ∧ px_RL r ((([u] ++ pd_oi tb (j + 1) d).foldl (pd_ad p) acc).map (px_xi ins)) w') := fun hp1 => by
            have e3 : pd_ad p acc u = acc ++ [u] := by
              unfold pd_ad
              rw [if_neg (fun q => by
                rcases q with q | q
                · rw [hp1] at q; cases q
                · exact em q)]
            have nd2 : (acc ++ [u]).Nodup := by rw [← e3]; exact pd_ad_nodup p hA u
            have vl : ∀ v ∈ acc ++ [u], v < nv := fun v hv' => by
              rcases List.mem_append.mp hv' with q | q
              · exact hv v q
              · rw [List.mem_singleton] at q; omega
            have len2 := pb_nodup_le nv (acc ++ [u]) nd2 vl
            rw [List.length_append] at len2
            change acc.length + 1 ≤ nv at len2
            obtain ⟨a1, a2⟩ := px_RL_add hr hR (by rw [List.length_map, hc]; omega) (px_xi ins u)
            unfold fm_Program_listFields_j114
            rw [pf_let_eq, pf_let_eq, nx, go (acc ++ [u]) e3]
            refine ih (j + 1) F (acc ++ [u]) _ (by omega) (by omega) (fun i j p q => (a2 i j p q).trans (hf i j p q)) ?_ nd2 vl ho'
            rw [List.map_append]
            exact a1
          by_cases l1 : bv < (start : Int)
          · rw [if_pos l1]; exact more (b4.mp (Or.inl l1))
          · rw [if_neg l1]
            by_cases l2 : bv ≤ (body : Int)
            · rw [if_pos l2, pf_let_eq, nx]
              refine stay ?_
              cases hpu : p u with
              | true => rfl
              | false => have := b4.mpr hpu; omega
            · rw [if_neg l2]; exact more (b4.mp (Or.inr (by omega)))
    · have hd : pd_hd tb j = [] := by unfold pd_hd; rw [c1]
      rw [hd, List.nil_append] at split
      rw [split] at ho ⊢
      rw [if_neg (by omega), pf_let_eq, nx]
      exact ih (j + 1) F acc w (by omega) (by omega) hf hR hA hv ho
