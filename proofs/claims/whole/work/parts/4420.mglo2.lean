def pm_kg (g la li si nd : Nat) (w w' : fa_W) : Prop := (∀ o j, 184 ≤ o → o ≤ 188 → j < nd → w' o j = w o j) ∧ (∀ o j, o = 194 ∨ o = 195 → j < si → w' o j = w o j) ∧ (∀ o j, o = 189 ∨ o = 191 → j < 6 + la → j ≠ g → w' o j = w o j) ∧ (∀ o j, o = 192 ∨ o = 193 → pk_lb j la li → j ≠ g → w' o j = w o j) ∧ ∀ j, j ≠ g → w' 190 j = w 190 j
theorem pm_kg_refl (g la li si nd : Nat) (w : fa_W) : pm_kg g la li si nd w w := ⟨fun _ _ _ _ _ => rfl, fun _ _ _ _ => rfl, fun _ _ _ _ _ => rfl, fun _ _ _ _ _ => rfl, fun _ _ => rfl⟩
theorem pm_kg_tr {g la li si nd : Nat} {w w1 w2 : fa_W} (h1 : pm_kg g la li si nd w w1) (h2 : pm_kg g la li si nd w1 w2) : pm_kg g la li si nd w w2 := ⟨fun o j p q r => (h2.1 o j p q r).trans (h1.1 o j p q r), fun o j p q => (h2.2.1 o j p q).trans (h1.2.1 o j p q), fun o j p q r => (h2.2.2.1 o j p q r).trans (h1.2.2.1 o j p q r), fun o j p q r => (h2.2.2.2.1 o j p q r).trans (h1.2.2.2.1 o j p q r), fun j p => (h2.2.2.2.2 j p).trans (h1.2.2.2.2 j p)⟩
theorem pm_fr_kg {g la li si nd sl : Nat} {w w' : fa_W} (h : pm_fr la li si nd sl w w') : pm_kg g la li si nd w w' := ⟨h.2.1, h.2.2.1, fun o j p q _ => h.2.2.2.1 o j p q, fun o j p q _ => h.2.2.2.2.1 o j p q, fun j _ => h.1.1 190 j (by omega)⟩
theorem pm_kg_st {g la li si nd : Nat} {w w1 : fa_W} {o k : Nat} {v : Int} (h : pm_kg g la li si nd w w1) (hk : o = 181 ∨ o = 198 ∨ (189 ≤ o ∧ o ≤ 193 ∧ k = g)) : pm_kg g la li si nd w (fa_st w1 o k v) := ⟨fun i j a b q => (fa_st_ne (by omega)).trans (h.1 i j a b q), fun i j a q => (fa_st_ne (by omega)).trans (h.2.1 i j a q), fun i j a q r => (fa_st_ne (by omega)).trans (h.2.2.1 i j a q r), fun i j a q r => (fa_st_ne (by omega)).trans (h.2.2.2.1 i j a q r), fun j q => (fa_st_ne (by omega)).trans (h.2.2.2.2 j q)⟩
theorem pm_lx_kg {g la li si nd p : Nat} {w w1 w2 : fa_W} (h : pm_kg g la li si nd w w1) (l : pm_lx w1 w2 p) : pm_kg g la li si nd w w2 := pm_kg_tr h (pm_fr_kg (sl := 0) (pm_lx_fr l))
theorem pm_GH_kg {gs : ps_G} {k : pk_K} {w w' : fa_W} (hl : gs.length ≤ 6) (h : pk_GW gs [] (0, 0, 0, 0) k) (hk : pm_kg gs.length k.1 k.2.1 k.2.2.1 k.2.2.2 w w') (hg : gs.length < 6) (H : pm_GH gs 0 0 w) : pm_GH gs 0 0 w' := by
  refine pm_GH_fr gs [] (0, 0, 0, 0) k w w' gs.length (by simpa using hl) (by simp) h ⟨fun o j p q _ s => hk.1 o j p q s, fun o j p _ s => hk.2.1 o j p s, fun o j p r s => hk.2.2.1 o j p s (by omega), fun o v p r s => hk.2.2.2.1 o v p r (s hg), fun j s => hk.2.2.2.2 j (s hg)⟩ (fun o j p q => ?_) H
  rw [List.length_nil, Nat.zero_add] at q
  by_cases e : o = 190
  · subst e; exact hk.2.2.2.2 j (by omega)
  · by_cases e2 : o = 189 ∨ o = 191
    · exact hk.2.2.1 o j e2 (by omega) (by omega)
    · exact hk.2.2.2.1 o j (by omega) (Or.inl (by omega)) (by omega)
def pm_T (c : Nat → Int) (n : Nat) (fr : Bool) (gs : ps_G) (s : ps_S) (w : fa_W) : Prop := pm_S c n fr (pk_gn gs, [], -1, 0) s w ∧ pm_GH gs 0 0 w ∧ pk_GW gs [] (0, 0, 0, 0) (ps_Kof s)
theorem ps_SI_p {n : Nat} {e : ps_E} {p q : Nat} {r : Nat × Nat × List Nat × Nat × Nat × Nat} (h : ps_SI n e (p, r)) (h1 : p ≤ q) (h2 : q ≤ n) : ps_SI n e (q, r) := by
  obtain ⟨gl, sc, ow, ne⟩ := e
  obtain ⟨th, la, ins, lt, si, nd⟩ := r
  obtain ⟨a1, a2, a3, a4, a5, a6, a7, a8, a9, a10, a11, a12, a13, a14, a15, a16, a17⟩ := h
  exact ⟨h2, a2, a3, a4, a5, a6, a7, a8, by omega, a10, a11, a12, a13, a14, a15, a16, by omega⟩
theorem pm_gmain {c : Nat → Int} {n : Nat} {fr : Bool} (hx : ps_TX c n) (hn : n ≤ 40000) {gs : ps_G} {P x : Nat} {r : Nat × Nat × List Nat × Nat × Nat × Nat} {w : fa_W} (hxn : pk_nm x) (hnx : x ∉ pk_gn gs) (hg6 : gs.length < 6) (hs : ps_SI n (pk_gn gs, [], -1, 0) (P, r)) (hth : r.1 = r.2.2.2.2.2) (hT : pm_T c n fr gs (P, r) w) (hpt : w 181 26 = (P : Int)) (f : Nat) (R : fa_W → Prop) (k : ps_G → ps_S → ps_Q) (hE : ∀ z w', z ≤ n → w' 181 28 = ((z : Nat) : Int) → pm_fw w w' → pm_po n w' → ps_glo c n fr x P gs (P, r) k = some (.error z) → R w') (hK : ∀ gs' s' w', gs'.length ≤ 6 → ps_SI n (pk_gn gs', [], -1, 0) s' → s'.2.1 = s'.2.2.2.2.2.2 → pm_T c n fr gs' s' w' → pm_fw w w' → ps_glo c n fr x P gs (P, r) k = k gs' s' → R w') (hne : ps_glo c n fr x P gs (P, r) k ≠ none) : pb_ok (fm_Mod_global_l41 1 ((pm_cv x : Nat) : Int) ((pk_gn gs).length : Int) w) R := by
  obtain ⟨th, la, ins, lt, si, nd⟩ := r
  obtain ⟨hS, hGH, hGW⟩ := hT
  have gl := pk_gn_len gs
  obtain ⟨h1, h2, h3, h4, h5, h6, h7, h8, h9, h10, h11, h12, h13, h14, h15⟩ := id hS
  unfold fm_Mod_global_l41
  rw [h12, if_pos (Int.le_refl _)]
  dsimp only [fa_let]
  rw [gl, pb_ix (show gs.length < 6 by omega) (by decide), pb_ix (show gs.length < 24 by omega) (by decide)]
  dsimp only [Option.bind_some]
  have e17 : fa_st w 190 gs.length ((pm_cv x : Nat) : Int) 181 17 + 1 = ((gs.length + 1 : Nat) : Int) := by
    rw [fa_st_ne (by omega), h12, gl]; rfl
  rw [e17]
  have kg2 : pm_kg gs.length la ins.length si nd w (fa_st (fa_st w 190 gs.length ((pm_cv x : Nat) : Int)) 181 17 ((gs.length + 1 : Nat) : Int)) := pm_kg_st (pm_kg_st (pm_kg_refl _ _ _ _ _ _) (Or.inr (Or.inr ⟨by decide, by decide, rfl⟩))) (Or.inl rfl)
  have fw2 : pm_fw w (fa_st (fa_st w 190 gs.length ((pm_cv x : Nat) : Int)) 181 17 ((gs.length + 1 : Nat) : Int)) := pm_fw_st (pm_fw_st (pm_fw_refl w) (Or.inr (Or.inl ⟨by decide, by decide⟩))) (Or.inl ⟨rfl, by decide⟩)
  have nn2 : ∀ o k, o ≠ 190 → ¬ (o = 181 ∧ k = 17) → fa_st (fa_st w 190 gs.length ((pm_cv x : Nat) : Int)) 181 17 ((gs.length + 1 : Nat) : Int) o k = w o k := by
    intro o k q1 q2
    rw [fa_st_ne (by omega), fa_st_ne (by omega)]
  have n190 : fa_st (fa_st w 190 gs.length ((pm_cv x : Nat) : Int)) 181 17 ((gs.length + 1 : Nat) : Int) 190 gs.length = ((pm_cv x : Nat) : Int) := by
    rw [fa_st_ne (by omega), fa_st_eq]
  have S2 : pm_S c n fr (pk_gn gs ++ [x], [], -1, 0) (P, th, la, ins, lt, si, nd) (fa_st (fa_st w 190 gs.length ((pm_cv x : Nat) : Int)) 181 17 ((gs.length + 1 : Nat) : Int)) := by
    refine ⟨pm_tx_of h1 (nn2 181 25 (by decide) (by decide)) (fun k => nn2 196 k (by decide) (by omega)), ?_, ?_, ?_, ?_, ?_, ?_, ?_, ?_, ?_, ?_, ?_, ?_, ?_, trivial⟩
    · rw [nn2 181 26 (by decide) (by decide)]; exact h2
    · rw [nn2 181 28 (by decide) (by decide)]; exact h3
    · rw [nn2 181 16 (by decide) (by decide)]; exact h4
    · rw [nn2 181 35 (by decide) (by decide)]; exact h5
    · rw [nn2 181 18 (by decide) (by decide)]; exact h6
    · rw [nn2 181 19 (by decide) (by decide)]; exact h7
    · rw [nn2 181 20 (by decide) (by decide)]; exact h8
    · rw [nn2 181 29 (by decide) (by decide)]; exact h9
    · rw [nn2 181 30 (by decide) (by decide)]; exact h10
    · rw [nn2 181 31 (by decide) (by decide)]; exact h11
    · rw [fa_st_eq, List.length_append, gl]; rfl
    · intro j y q
      by_cases hj : j = gs.length
      · subst hj
        rw [n190]
        rw [List.getElem?_append_right (by omega), gl, Nat.sub_self] at q
        cases q
        rfl
      · have hj2 : j < (pk_gn gs).length := by
          have := (List.getElem?_eq_some_iff.mp q).1
          rw [List.length_append, List.length_singleton] at this
          omega
        rw [List.getElem?_append_left hj2] at q
        rw [fa_st_ne (by omega), fa_st_ne (by omega)]
        exact h13 j y q
    · rw [nn2 181 33 (by decide) (by decide)]; exact h14
  have pt2 : fa_st (fa_st w 190 gs.length ((pm_cv x : Nat) : Int)) 181 17 ((gs.length + 1 : Nat) : Int) 181 26 = (P : Int) := by rw [nn2 181 26 (by decide) (by decide)]; exact hpt
  generalize fa_st (fa_st w 190 gs.length ((pm_cv x : Nat) : Int)) 181 17 ((gs.length + 1 : Nat) : Int) = w2 at S2 kg2 fw2 n190 pt2 ⊢
  clear nn2 e17 h1 h2 h3 h4 h5 h6 h7 h8 h9 h10 h11 h12 h13 h14 h15 hS
  have hP := hs.1
  unfold ps_glo at hE hK hne
  refine pb_bdm (pm_gives S2.1 pt2 hP S2.2.2.1) (fun v15 w3 g => ?_)
  dsimp only at g
  have zz := (ps_sk_p hx P hP).2.1
  rcases g with ⟨g1, g2, g3, _⟩ | ⟨g1, g2⟩
  rotate_left
  · rw [pm_asks_f g2.1 (Nat.le_trans zz hn)]
    dsimp only [Option.bind_some]
    rw [pm_hft g2.1 (Nat.le_trans zz hn), if_pos rfl]
    exact pb_some (hE _ _ zz g2.1 (pm_fw_tr fw2 (pm_fo_fw (pm_fl_fo g2))) (pm_po_fl g2 zz) (if_pos g1))
  rw [if_neg (by intro q; exact q g1)] at hE hne
  have nm := ps_name hx g1
  have S3 := pm_S_lx (p' := ps_te c n (ps_sk c n P)) S2 g3 nm.2.2.2 rfl
  have kg3 := pm_lx_kg kg2 g3
  have fw3 := pm_fw_tr fw2 (pm_fo_fw (pm_lx_fo g3))
  have n190 : w3 190 gs.length = ((pm_cv x : Nat) : Int) := by rw [g3.2 190 _ (by omega)]; exact n190
  refine pb_bindm (pm_asks (k := 61) S3.1 g3.1 nm.2.2.2 S3.2.2.1 (by decide)) (fun w4 q => ?_)
  have zz2 := (ps_sk_p hx _ nm.2.2.2).2.1
  rcases q with ⟨k1, k2⟩ | ⟨k1, k2⟩
  rotate_left
  · rw [pm_hft k2.1 (Nat.le_trans zz2 hn), if_pos rfl]
    exact pb_some (hE _ _ zz2 k2.1 (pm_fw_tr fw3 (pm_fo_fw (pm_fl_fo k2))) (pm_po_fl k2 zz2) (if_pos k1))
  rw [if_neg (by intro q; exact q k1)] at hE hne
  have sg := ps_sign hx nm.2.2.2 (by decide) (by decide) k1
  have S4 := pm_S_lx (p' := ps_te c n (ps_sk c n (ps_te c n (ps_sk c n P)))) S3 k2 (Nat.succ_le_of_lt sg.2.1) (by rw [sg.2.2])
  have kg4 := pm_lx_kg kg3 k2
  have fw4 := pm_fw_tr fw3 (pm_fo_fw (pm_lx_fo k2))
  have n190 : w4 190 gs.length = ((pm_cv x : Nat) : Int) := by rw [k2.2 190 _ (by omega)]; exact n190
  rw [pm_hf S4.2.2.1, if_neg (by decide)]
  have kg5 : pm_kg gs.length la ins.length si nd w (fa_st (fa_st w4 191 gs.length (-1)) 181 30 (gs.length : Int)) := pm_kg_st (pm_kg_st kg4 (Or.inr (Or.inr ⟨by decide, by decide, rfl⟩))) (Or.inl rfl)
  have fw5 : pm_fw w (fa_st (fa_st w4 191 gs.length (-1)) 181 30 (gs.length : Int)) := pm_fw_st (pm_fw_st fw4 (Or.inr (Or.inl ⟨by decide, by decide⟩))) (Or.inl ⟨rfl, by decide⟩)
  have S5 : pm_S c n fr (pk_gn gs ++ [x], [], (gs.length : Int), 0) (ps_te c n (ps_sk c n (ps_te c n (ps_sk c n P))), th, la, ins, lt, si, nd) (fa_st (fa_st w4 191 gs.length (-1)) 181 30 (gs.length : Int)) := by
    obtain ⟨h1, h2, h3, h4, h5, h6, h7, h8, h9, h10, h11, h12, h13, h14, h15⟩ := id S4
    have nn : ∀ o k, o ≠ 191 → ¬ (o = 181 ∧ k = 30) → fa_st (fa_st w4 191 gs.length (-1)) 181 30 (gs.length : Int) o k = w4 o k := by
      intro o k r1 r2
      rw [fa_st_ne (by omega), fa_st_ne (by omega)]
    refine pm_S_up S4 (fun k => nn 196 k (by decide) (by omega)) (fun k => nn 190 k (by decide) (by omega)) (fun k _ => nn 198 k (by decide) (by omega)) (fun b _ => nn 192 _ (by decide) (by omega)) (nn 181 _ (by decide) (by decide)) (nn 181 _ (by decide) (by decide)) (nn 181 _ (by decide) (by decide)) (nn 181 _ (by decide) (by decide)) ?_ ?_ ?_ ?_ ?_ ?_ ?_ ?_ ?_
    · rw [nn 181 _ (by decide) (by decide)]; exact h2
    · rw [nn 181 _ (by decide) (by decide)]; exact h3
    · rw [nn 181 _ (by decide) (by decide)]; exact h4
    · rw [nn 181 _ (by decide) (by decide)]; exact h5
    · rw [nn 181 _ (by decide) (by decide)]; exact h6
    · rw [nn 181 _ (by decide) (by decide)]; exact h7
    · rw [nn 181 _ (by decide) (by decide)]; exact h8
    · rw [nn 181 _ (by decide) (by decide)]; exact h9
    · rw [fa_st_eq]
  have n191 : fa_st (fa_st w4 191 gs.length (-1)) 181 30 (gs.length : Int) 191 gs.length = -1 := by rw [fa_st_ne (by omega), fa_st_eq]
  have n190 : fa_st (fa_st w4 191 gs.length (-1)) 181 30 (gs.length : Int) 190 gs.length = ((pm_cv x : Nat) : Int) := by rw [fa_st_ne (by omega), fa_st_ne (by omega)]; exact n190
  generalize fa_st (fa_st w4 191 gs.length (-1)) 181 30 (gs.length : Int) = w5 at S5 kg5 fw5 n190 n191 ⊢
  obtain ⟨w6, e6, S6, n6, m6, k6⟩ := pm_S_push (v := gs.length) (x := ps_tv c n (ps_sk c n P)) (hm := (gs.length : Int)) S5 (by omega) (by decide) (fun b hb => by cases hb)
  rw [g2, e6, pb_bds]
  have kg6 : pm_kg gs.length la ins.length si nd w w6 := pm_kg_tr kg5 ⟨fun o j a b q => k6 o j (by omega) (by omega) (by omega), fun o j a q => k6 o j (by omega) (by omega) (by omega), fun o j a q r => k6 o j (by omega) (by omega) (by omega), fun o j a q r => k6 o j (by omega) (by omega) (by omega), fun j q => k6 190 j (by omega) (by omega) (by omega)⟩
  have fw6 : pm_fw w w6 := pm_fw_tr fw5 ⟨fun o k q => k6 o k (by omega) (by omega) (by omega), fun k q => k6 181 k (by omega) (by omega) (by omega)⟩
  have n191 : w6 191 gs.length = -1 := by rw [k6 191 _ (by omega) (by omega) (by omega)]; exact n191
  have n190 : w6 190 gs.length = ((pm_cv x : Nat) : Int) := by rw [k6 190 _ (by omega) (by omega) (by omega)]; exact n190
  have i6 : ps_SI n (pk_gn gs ++ [x], [(gs.length, ps_tv c n (ps_sk c n P))], (gs.length : Int), 0) (ps_te c n (ps_sk c n (ps_te c n (ps_sk c n P))), th, la, ins, lt, si, nd) := by
    have := ps_glo_si hx hs (by omega) (ps_te c n (ps_sk c n (ps_te c n (ps_sk c n P)))) (by have := (ps_sk_p hx P hP).1; omega) (by omega) hxn nm.1
    rw [gl] at this
    exact this
  have n1 : ps_t c n fr 899 0 (pk_gn gs ++ [x], [(gs.length, ps_tv c n (ps_sk c n P))], (gs.length : Int), 0) (ps_te c n (ps_sk c n (ps_te c n (ps_sk c n P))), th, la, ins, lt, si, nd) ≠ none := by
    intro q
    apply hne
    show ps_qb (ps_t c n fr 899 0 (pk_gn gs ++ [x], [(gs.length, ps_tv c n (ps_sk c n P))], (gs.length : Int), 0) (ps_te c n (ps_sk c n (ps_te c n (ps_sk c n P))), th, la, ins, lt, si, nd)) _ = none
    rw [q]
    rfl
  have rr := pm_t_R hx hn 899 900 0 _ _ w6 (by decide) (by omega) (by omega) (by omega) i6 S6 n1
  refine pb_bdm (show pb_ok (fm_Mod_expression 900 w6) _ from rr) (fun v28 w7 g => ?_)
  cases hq : ps_t c n fr 899 0 (pk_gn gs ++ [x], [(gs.length, ps_tv c n (ps_sk c n P))], (gs.length : Int), 0) (ps_te c n (ps_sk c n (ps_te c n (ps_sk c n P))), th, la, ins, lt, si, nd) with
  | none => exact absurd hq n1
  | some rs =>
  have hE2 := hE
  have hK2 := hK
  unfold pk_gn at hq
  rw [hq] at hE hK hne
  unfold pk_gn at g
  rw [hq] at g
  cases rs with
  | error z =>
    obtain ⟨y1, y2, y3, y4e⟩ := g
    dsimp only at y2 y3 y4e
    have f28 : fa_st (fa_st (fa_st w7 189 gs.length v28) 181 33 (fa_st w7 189 gs.length v28 181 33 - 1)) 181 30 (-1) 181 28 = (z : Int) := by rw [fa_st_ne (by decide), fa_st_ne (by decide), fa_st_ne (by omega)]; exact y2
    rw [pm_asks_f f28 (Nat.le_trans y1 hn)]
    refine pb_some (hE z _ y1 f28 ?_ (pm_po_s (pm_po_s (pm_po_s y4e (Or.inl (by decide))) (Or.inr (by decide))) (Or.inr (by decide))) rfl)
    exact pm_fw_st (pm_fw_st (pm_fw_st (pm_fw_tr fw6 (pm_fo_fw y3)) (Or.inr (Or.inl ⟨by decide, by decide⟩))) (Or.inl ⟨rfl, by decide⟩)) (Or.inl ⟨rfl, by decide⟩)
  | ok y =>
    obtain ⟨t, S7⟩ := y
    have o1 := ps_t_po hx 899 0 _ _ _ _ (by omega) (by omega) (by omega) i6 hq
    have j1 := ps_PO_SI i6 o1
    obtain ⟨p1, th1, la1, ins1, lt1, si1, nd1⟩ := S7
    obtain ⟨b1, b2, b3, b4, b5, b6⟩ := ps_PO_x o1
    have hth1 : th1 = nd1 := by
      obtain ⟨c1, c2, c3, _⟩ := o1
      dsimp only at hth
      omega
    obtain ⟨y1, y2, y3, y4⟩ := g
    dsimp only at y1 y2 y3 y4
    have y2 : pm_S c n fr (pk_gn gs ++ [x], [(gs.length, ps_tv c n (ps_sk c n P))], (gs.length : Int), 0) (p1, th1, la1, ins1, lt1, si1, nd1) w7 := y2
    have kg7 : pm_kg gs.length la ins.length si nd w w7 := pm_kg_tr kg6 (pm_fr_kg y4)
    have S8 : pm_S c n fr (pk_gn gs ++ [x], [(gs.length, ps_tv c n (ps_sk c n P))], (gs.length : Int), 0) (p1, th1, la1, ins1, lt1, si1, nd1) (fa_st w7 189 gs.length v28) := by
      obtain ⟨h1, h2, h3, h4, h5, h6, h7, h8, h9, h10, h11, h12, h13, h14, h15⟩ := id y2
      have nn : ∀ o k, o ≠ 189 → fa_st w7 189 gs.length v28 o k = w7 o k := fun o k r1 => fa_st_ne (fun z => r1 z.1)
      refine pm_S_up y2 (fun k => nn 196 k (by decide)) (fun k => nn 190 k (by decide)) (fun k _ => nn 198 k (by decide)) (fun b _ => nn 192 _ (by decide)) (nn 181 _ (by decide)) (nn 181 _ (by decide)) (nn 181 _ (by decide)) (nn 181 _ (by decide)) ?_ ?_ ?_ ?_ ?_ ?_ ?_ ?_ ?_ <;> rw [nn 181 _ (by decide)] <;> assumption
    obtain ⟨po1, po2⟩ := pm_S_pop S8
    rw [show ([] : List (Nat × Nat)).length = 0 from rfl] at po1 po2
    rw [po1]
    have S9 : pm_S c n fr (pk_gn gs ++ [x], [], -1, 0) (p1, th1, la1, ins1, lt1, si1, nd1) (fa_st (fa_st (fa_st w7 189 gs.length v28) 181 33 ((0 : Nat) : Int)) 181 30 (-1)) := by
      obtain ⟨h1, h2, h3, h4, h5, h6, h7, h8, h9, h10, h11, h12, h13, h14, h15⟩ := id po2
      have nn : ∀ o k, ¬ (o = 181 ∧ k = 30) → fa_st (fa_st (fa_st w7 189 gs.length v28) 181 33 ((0 : Nat) : Int)) 181 30 (-1) o k = fa_st (fa_st w7 189 gs.length v28) 181 33 ((0 : Nat) : Int) o k := fun o k r1 => fa_st_ne r1
      refine pm_S_up po2 (fun k => nn 196 k (by omega)) (fun k => nn 190 k (by omega)) (fun k _ => nn 198 k (by omega)) (fun b _ => nn 192 _ (by omega)) (nn 181 _ (by decide)) (nn 181 _ (by decide)) (nn 181 _ (by decide)) (nn 181 _ (by decide)) ?_ ?_ ?_ ?_ ?_ ?_ ?_ ?_ ?_
      · rw [nn 181 _ (by decide)]; exact h2
      · rw [nn 181 _ (by decide)]; exact h3
      · rw [nn 181 _ (by decide)]; exact h4
      · rw [nn 181 _ (by decide)]; exact h5
      · rw [nn 181 _ (by decide)]; exact h6
      · rw [nn 181 _ (by decide)]; exact h7
      · rw [nn 181 _ (by decide)]; exact h8
      · rw [nn 181 _ (by decide)]; exact h9
      · rw [fa_st_eq]
    have kg9 : pm_kg gs.length la ins.length si nd w (fa_st (fa_st (fa_st w7 189 gs.length v28) 181 33 ((0 : Nat) : Int)) 181 30 (-1)) := pm_kg_st (pm_kg_st (pm_kg_st kg7 (Or.inr (Or.inr ⟨by decide, by decide, rfl⟩))) (Or.inl rfl)) (Or.inl rfl)
    have fw9 : pm_fw w (fa_st (fa_st (fa_st w7 189 gs.length v28) 181 33 ((0 : Nat) : Int)) 181 30 (-1)) := pm_fw_st (pm_fw_st (pm_fw_st (pm_fw_tr fw6 (pm_fo_fw y4.1)) (Or.inr (Or.inl ⟨by decide, by decide⟩))) (Or.inl ⟨rfl, by decide⟩)) (Or.inl ⟨rfl, by decide⟩)
    have lbg : pk_lb gs.length la ins.length := Or.inl (by omega)
    have ng : pm_GH [(x, ps_tv c n (ps_sk c n P), t)] (0 + gs.length) nd (fa_st (fa_st (fa_st w7 189 gs.length v28) 181 33 ((0 : Nat) : Int)) 181 30 (-1)) := by
      have nn : ∀ o k, o ≠ 189 → o ≠ 181 → fa_st (fa_st (fa_st w7 189 gs.length v28) 181 33 ((0 : Nat) : Int)) 181 30 (-1) o k = w7 o k := by
        intro o k r1 r2
        rw [fa_st_ne (by omega), fa_st_ne (by omega), fa_st_ne (by omega)]
      rw [Nat.zero_add]
      refine ⟨?_, ?_, ?_, ?_, ?_, ?_, trivial⟩
      · rw [nn 190 _ (by decide) (by decide), y4.1.1 190 _ (by omega)]; exact n190
      · rw [fa_st_ne (by omega), fa_st_ne (by omega), fa_st_eq, y1, b6]
      · rw [nn 191 _ (by decide) (by decide), y4.2.2.2.1 191 _ (Or.inr rfl) (by omega)]; exact n191
      · rw [nn 192 _ (by decide) (by decide), y4.2.2.2.2.1 192 _ (Or.inl rfl) lbg]; exact n6
      · rw [nn 193 _ (by decide) (by decide), y4.2.2.2.2.1 193 _ (Or.inr rfl) lbg]; exact m6
      · refine pm_H_tr t b2 _ _ _ (la, ins.length, si, nd) (la1, ins1.length, si1, nd1) w7 _ 6 (by omega) (by omega) b4 b3 (fun b hb => ?_) ⟨fun o j p q r s => nn o j (by omega) (by omega), fun o j p r s => nn o j (by omega) (by omega), fun o j p r s => ?_, fun o v p r s => nn o v (by omega) (by omega), fun j s => nn 190 j (by decide) (by decide)⟩ y3
        · rw [List.mem_singleton] at hb
          subst hb
          exact lbg
        · dsimp only at r
          rw [fa_st_ne (by omega), fa_st_ne (by omega), fa_st_ne (by omega)]
    have hp1 := b1
    obtain ⟨pt9, e26, l26, s26⟩ := S9.2.1
    refine pb_bindm (pm_asks (k := 59) S9.1 e26 l26 S9.2.2.1 (by decide)) (fun w10 q => ?_)
    rw [s26] at q
    have zs := (ps_sk_p hx p1 b1).2.1
    rcases q with ⟨q1, q2⟩ | ⟨q1, q2⟩
    rotate_left
    · refine pb_some (hE _ _ zs q2.1 (pm_fw_tr fw9 (pm_fo_fw (pm_fl_fo q2))) (pm_po_fl q2 zs) ?_)
      exact if_neg q1
    have z4 := ps_sign hx b1 (by decide) (by decide) q1
    have S10 := pm_S_lx (p' := ps_te c n (ps_sk c n p1)) S9 q2 (Nat.succ_le_of_lt z4.2.1) (by rw [z4.2.2])
    have kg10 := pm_lx_kg kg9 q2
    have i2 := ps_glo_sj hx i6 o1 (q := ps_te c n (ps_sk c n p1)) (by omega) (by omega)
    rw [← pk_gn_snoc gs x (ps_tv c n (ps_sk c n P)) t] at i2 S10
    refine pb_some (hK (gs ++ [(x, ps_tv c n (ps_sk c n P), t)]) (ps_te c n (ps_sk c n p1), th1, la1, ins1, lt1, si1, nd1) w10 (by simp; omega) i2 hth1 ⟨S10, ?_, ?_⟩ (pm_fw_tr fw9 (pm_fo_fw (pm_lx_fo q2))) ?_)
    · have old := pm_GH_kg (by omega) hGW kg10 hg6 hGH
      refine pm_GH_snoc gs [] 0 (0, 0, 0, 0) (la, ins.length, si, nd) x _ t w10 hGW old ?_
      have ht6 := pm_lx_fr (la := 100) (li := 1000) (si := 1000) (nd := 1000) (sl := 0) q2
      obtain ⟨c1, c2, c3, c4, c5, c6, _⟩ := ng
      refine ⟨by rw [q2.2 _ _ (by omega)]; exact c1, by rw [q2.2 _ _ (by omega)]; exact c2, by rw [q2.2 _ _ (by omega)]; exact c3, by rw [q2.2 _ _ (by omega)]; exact c4, by rw [q2.2 _ _ (by omega)]; exact c5, ?_, trivial⟩
      refine pm_H_tr t b2 _ _ _ (la, ins.length, si, nd) (la1, ins1.length, si1, nd1) _ _ 6 (by omega) (by omega) b4 b3 (fun b hb => ?_) ⟨fun o j p q r s => q2.2 o j (by omega), fun o j p r s => q2.2 o j (by omega), fun o j p r s => q2.2 o j (by omega), fun o v p r s => q2.2 o v (by omega), fun j s => q2.2 190 j (by omega)⟩ c6
      rw [List.mem_singleton] at hb
      subst hb
      exact lbg
    · exact pk_GW_snoc gs [] _ _ _ _ _ _ hGW hxn hnx nm.1 b2 (by rw [List.nil_append, gl]; exact b3) b4
    · rw [if_neg (fun q => q g1), if_neg (fun q => q k1)]
      exact if_pos q1
