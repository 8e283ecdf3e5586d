theorem pm_rh_nat {G f : Nat} (h6 : 6 ≤ f) (hf : f < 1000) : pm_rh G (f : Int) = ((pk_rf G f : Nat) : Int) := by
  unfold pm_rh pk_rf
  rw [pb_wr (by omega), if_neg (by omega), if_pos (by omega), if_neg (by omega)]
  omega
theorem pm_rh_g {G f : Nat} (h6 : f < 6) : pm_rh G (f : Int) = (f : Int) := by
  unfold pm_rh
  rw [pb_wr (by omega), if_neg (by omega), if_neg (by omega)]
theorem pm_rh_m {G : Nat} : pm_rh G (-1) = -1 := by
  unfold pm_rh
  rw [pb_wr1, if_pos rfl]
theorem pm_H_rn {G la li si nd : Nat} {w w' : fa_W} (hG : G ≤ 6) (hla : la ≤ 18) (hli : li ≤ 100) (hl : pm_rl G la li si nd w w') (t : pt_T) (ht : pt_tw t) : ∀ (gl : List Nat) (sc : List (Nat × Nat)) (h : Int) (k k' : pk_K), gl.length ≤ G → pk_can t k k' → pk_wfs t gl sc → (∀ b ∈ sc, pk_lb b.1 k.1 k.2.1 ∧ (b.1 < 6 → b.1 < G)) → k'.1 ≤ la → k'.2.1 ≤ li → k'.2.2.1 ≤ si → k'.2.2.2 ≤ nd → pm_H t h k.2.2.2 w → pm_H (pk_rn G t) (pm_rh G h) k.2.2.2 w' := by
  obtain ⟨l1, l2, l3, l4, l5⟩ := hl
  have s184 : ∀ j, w' 184 j = w 184 j := fun j => l5 184 j (by omega) (by omega) (by omega) (by omega)
  have s186 : ∀ j, w' 186 j = w 186 j := fun j => l5 186 j (by omega) (by omega) (by omega) (by omega)
  have s187 : ∀ j, w' 187 j = w 187 j := fun j => l5 187 j (by omega) (by omega) (by omega) (by omega)
  have s188 : ∀ j, w' 188 j = w 188 j := fun j => l5 188 j (by omega) (by omega) (by omega) (by omega)
  have s190 : ∀ j, w' 190 j = w 190 j := fun j => l5 190 j (by omega) (by omega) (by omega) (by omega)
  have s194 : ∀ j, w' 194 j = w 194 j := fun j => l5 194 j (by omega) (by omega) (by omega) (by omega)
  have s185 : ∀ j K, j < nd → w 184 j = (K : Int) → 0 ≤ K ∧ K < 100 → K ≠ 1 → K ≠ 4 → w' 185 j = w 185 j := by
    intro j K hj hK h9 h1 h4
    rw [l4 j hj, hK]
    unfold pm_rk
    rw [fa_wr_id (by omega) (by omega), if_neg (by omega), if_neg (by omega)]
  induction t, ht using pt_indh with
  | num v =>
    intro gl sc h k k' hgl hc hw hs b1 b2 b3 b4 H
    exact ⟨by rw [s184]; exact H.1, by rw [s188]; exact H.2⟩
  | var v x =>
    intro gl sc h k k' hgl hc hw hs b1 b2 b3 b4 H
    cases hc
    dsimp only at b1 b2 b3 b4
    obtain ⟨lb, lg⟩ := hs _ (ps_lk_mem sc x v hw.1)
    dsimp only at lb lg
    unfold pk_lb at lb
    refine ⟨by rw [s184]; exact H.1, ?_, ?_⟩
    · rw [l4 _ (by omega), H.1, H.2.1]
      unfold pm_rk pk_rb pk_rf
      rw [fa_wr_id (x := 1) (by omega) (by omega), if_pos rfl, pb_wr (by omega)]
      by_cases h24 : 24 ≤ v
      · rw [if_pos (show (24 : Int) ≤ (v : Int) by omega), if_neg (show ¬ v < 24 by omega)]
      · rw [if_neg (show ¬ (24 : Int) ≤ (v : Int) by omega), if_pos (show v < 24 by omega)]
        by_cases h6 : 6 ≤ v
        · rw [if_pos (show (6 : Int) ≤ (v : Int) by omega), if_neg (show ¬ v < 6 by omega)]; omega
        · rw [if_neg (show ¬ (6 : Int) ≤ (v : Int) by omega), if_pos (show v < 6 by omega)]
    · rw [← H.2.2]
      unfold pk_rb pk_rf
      by_cases h24 : 24 ≤ v
      · rw [if_neg (by omega)]
        exact l5 192 v (by omega) (by omega) (by omega) (by omega)
      · rw [if_pos (by omega)]
        by_cases h6 : 6 ≤ v
        · rw [if_neg (by omega), (l3 (v - 6) (by omega)).2.2.1, show 6 + (v - 6) = v by omega]
        · rw [if_pos (by omega)]
          exact l5 192 v (by omega) (by omega) (by omega) (by omega)
  | glo g x =>
    intro gl sc h k k' hgl hc hw hs b1 b2 b3 b4 H
    cases hc
    dsimp only at b1 b2 b3 b4
    exact ⟨by rw [s184]; exact H.1, by rw [s185 _ 2 (by omega) H.1 (by decide) (by decide) (by decide)]; exact H.2.1, by rw [s190]; exact H.2.2⟩
  | dead d =>
    intro gl sc h k k' hgl hc hw hs b1 b2 b3 b4 H
    exact ⟨by rw [s184]; exact H.1, H.2⟩
  | lam f x b tb ih =>
    intro gl sc h k k' hgl hc hw hs b1 b2 b3 b4 H
    obtain ⟨ef, k1, h1, rfl⟩ := hc
    have m := pk_can_mono b tb _ _ h1
    dsimp only at m b1 b2 b3 b4
    obtain ⟨H1, H2, H3, H4, H5, H6, H7⟩ := H
    have sz := (pk_rn_tw G b tb).2
    have ff := l3 (f - 6) (by omega)
    rw [show 6 + (f - 6) = f by omega, show G + (f - 6) = pk_rf G f by unfold pk_rf; rw [if_neg (by omega)]] at ff
    have i := ih gl ((f, x) :: sc) (f : Int) (k.1 + 1, k.2) k1 hgl h1 hw.2 (fun b hb => by
      rcases List.mem_cons.mp hb with rfl | hb
      · exact ⟨Or.inl (by dsimp only; omega), by dsimp only; omega⟩
      · exact ⟨pk_lb_mono (hs b hb).1 (by dsimp only; omega) (Nat.le_refl _), (hs b hb).2⟩) b1 b2 b3 (by omega) H1
    rw [pm_rh_nat (by omega) (by omega)] at i
    show pm_H (pt_lam (pk_rf G f) x (pk_rn G b)) (pm_rh G h) k.2.2.2 w'
    refine ⟨i, ?_, ?_, ?_, ?_, ?_, ?_⟩
    · rw [sz, s184]; exact H2
    · rw [sz, l4 _ (by omega), H2, H3]
      unfold pm_rk pk_rf
      rw [fa_wr_id (x := 4) (by omega) (by omega), if_neg (by omega), if_pos rfl, pb_wr (by omega), if_pos (by omega), if_neg (by omega)]
      omega
    · rw [sz, ff.1]; exact H4
    · rw [ff.2.1, H5]
    · rw [ff.2.2.1]; exact H6
    · exact ff.2.2.2
  | ife a b c ta tb tc iha ihb ihc =>
    intro gl sc h k k' hgl hc hw hs b1 b2 b3 b4 H
    obtain ⟨k1, k2, k3, h1, h2, h3, rfl⟩ := hc
    have m1 := pk_can_mono a ta _ _ h1
    have m2 := pk_can_mono b tb _ _ h2
    have m3 := pk_can_mono c tc _ _ h3
    dsimp only at b1 b2 b3 b4
    obtain ⟨H1, H2, H3, H4, H5, H6, H7⟩ := H
    have za := (pk_rn_tw G a ta).2
    have zb := (pk_rn_tw G b tb).2
    have zc := (pk_rn_tw G c tc).2
    have e1 : k.2.2.2 + pt_sz a = k1.2.2.2 := by omega
    have e2 : k1.2.2.2 + pt_sz b = k2.2.2.2 := by omega
    rw [e1] at H2
    rw [e1, e2] at H3
    show pm_H (pt_ife (pk_rn G a) (pk_rn G b) (pk_rn G c)) (pm_rh G h) k.2.2.2 w'
    refine ⟨iha gl sc h k k1 hgl h1 hw.1 hs (by omega) (by omega) (by omega) (by omega) H1, ?_, ?_, ?_, ?_, ?_, ?_⟩
    · rw [za, e1]; exact ihb gl sc h k1 k2 hgl h2 hw.2.1 (fun b hb => ⟨pk_lb_mono (hs b hb).1 (by omega) (by omega), (hs b hb).2⟩) (by omega) (by omega) (by omega) (by omega) H2
    · rw [za, zb, e1, e2]; exact ihc gl sc h k2 k3 hgl h3 hw.2.2 (fun b hb => ⟨pk_lb_mono (hs b hb).1 (by omega) (by omega), (hs b hb).2⟩) (by omega) (by omega) (by omega) (by omega) H3
    · rw [za, zb, zc, s184]; exact H4
    · rw [za, zb, zc, s185 _ 5 (by omega) H4 (by decide) (by decide) (by decide)]; exact H5
    · rw [za, zb, zc, s186]; exact H6
    · rw [za, zb, zc, s187]; exact H7
  | lt v x a b ta tb iha ihb =>
    intro gl sc h k k' hgl hc hw hs b1 b2 b3 b4 H
    obtain ⟨k1, k2, h1, ev, h2, rfl⟩ := hc
    have m1 := pk_can_mono a ta _ _ h1
    have m2 := pk_can_mono b tb _ _ h2
    dsimp only at m2 b1 b2 b3 b4
    obtain ⟨H1, H2, H3, H4, H5, H6, H7, H8⟩ := H
    have za := (pk_rn_tw G a ta).2
    have zb := (pk_rn_tw G b tb).2
    have e1 : k.2.2.2 + pt_sz a = k1.2.2.2 := by omega
    rw [e1] at H2
    show pm_H (pt_let v x (pk_rn G a) (pk_rn G b)) (pm_rh G h) k.2.2.2 w'
    refine ⟨iha gl sc h k k1 hgl h1 hw.2.1 hs (by omega) (by omega) (by omega) (by omega) H1, ?_, ?_, ?_, ?_, ?_, ?_, ?_⟩
    · rw [za, e1]
      refine ihb gl ((v, x) :: sc) h (k1.1, k1.2.1 + 1, k1.2.2) k2 hgl h2 hw.2.2 (fun b hb => ?_) (by omega) (by omega) (by omega) (by omega) H2
      rcases List.mem_cons.mp hb with rfl | hb
      · exact ⟨Or.inr (by dsimp only; omega), by dsimp only; omega⟩
      · exact ⟨pk_lb_mono (hs b hb).1 (by dsimp only; omega) (by dsimp only; omega), (hs b hb).2⟩
    · rw [za, zb, s184]; exact H3
    · rw [za, zb, s185 _ 6 (by omega) H3 (by decide) (by decide) (by decide)]; exact H4
    · rw [za, zb, s186]; exact H5
    · rw [za, zb, s187]; exact H6
    · rw [l5 192 v (by omega) (by omega) (by omega) (by omega)]; exact H7
    · have := l2 k1.2.1 (by omega)
      rw [← ev] at this
      rw [this, H8]
  | op s a b ta tb iha ihb =>
    intro gl sc h k k' hgl hc hw hs b1 b2 b3 b4 H
    obtain ⟨k1, k2, h1, h2, rfl⟩ := hc
    have m1 := pk_can_mono a ta _ _ h1
    have m2 := pk_can_mono b tb _ _ h2
    dsimp only at b1 b2 b3 b4
    obtain ⟨H1, H2, H3, H4, H5, H6⟩ := H
    have za := (pk_rn_tw G a ta).2
    have zb := (pk_rn_tw G b tb).2
    have e1 : k.2.2.2 + pt_sz a = k1.2.2.2 := by omega
    rw [e1] at H2
    show pm_H (pt_op s (pk_rn G a) (pk_rn G b)) (pm_rh G h) k.2.2.2 w'
    refine ⟨iha gl sc h k k1 hgl h1 hw.2.1 hs (by omega) (by omega) (by omega) (by omega) H1, ?_, ?_, ?_, ?_, ?_⟩
    · rw [za, e1]; exact ihb gl sc h k1 k2 hgl h2 hw.2.2 (fun b hb => ⟨pk_lb_mono (hs b hb).1 (by omega) (by omega), (hs b hb).2⟩) (by omega) (by omega) (by omega) (by omega) H2
    · rw [za, zb, s184]; exact H3
    · rw [za, zb, s185 _ 7 (by omega) H3 (by decide) (by decide) (by decide)]; exact H4
    · rw [za, zb, s186]; exact H5
    · rw [za, zb, s188]; exact H6
  | site s a b ta tb iha ihb =>
    intro gl sc h k k' hgl hc hw hs b1 b2 b3 b4 H
    obtain ⟨k1, k2, h1, es, h2, rfl⟩ := hc
    have m1 := pk_can_mono a ta _ _ h1
    have m2 := pk_can_mono b tb _ _ h2
    dsimp only at m2 b1 b2 b3 b4
    obtain ⟨H1, H2, H3, H4, H5, H6, H7, H8⟩ := H
    have za := (pk_rn_tw G a ta).2
    have zb := (pk_rn_tw G b tb).2
    have e1 : k.2.2.2 + pt_sz a = k1.2.2.2 := by omega
    rw [e1] at H2
    show pm_H (pt_site s (pk_rn G a) (pk_rn G b)) (pm_rh G h) k.2.2.2 w'
    refine ⟨iha gl sc h k k1 hgl h1 hw.1 hs (by omega) (by omega) (by omega) (by omega) H1, ?_, ?_, ?_, ?_, ?_, ?_, ?_⟩
    · rw [za, e1]
      exact ihb gl sc h (k1.1, k1.2.1, k1.2.2.1 + 1, k1.2.2.2) k2 hgl h2 hw.2 (fun b hb => ⟨pk_lb_mono (hs b hb).1 (by dsimp only; omega) (by dsimp only; omega), (hs b hb).2⟩) (by omega) (by omega) (by omega) (by omega) H2
    · rw [za, zb, s184]; exact H3
    · rw [za, zb, s185 _ 8 (by omega) H3 (by decide) (by decide) (by decide)]; exact H4
    · rw [za, zb, s186]; exact H5
    · rw [za, zb, s188]; exact H6
    · rw [za, zb, s194]; exact H7
    · rw [l1 s (by omega), H8]
def pk_rnG (G : Nat) (gs : ps_G) : ps_G := gs.map (fun e => (e.1, e.2.1, pk_rn G e.2.2))
theorem pm_GH_rn {G la li si nd : Nat} {w w' : fa_W} (hG : G ≤ 6) (hla : la ≤ 18) (hli : li ≤ 100) (hl : pm_rl G la li si nd w w') : ∀ (gs : ps_G) (gl : List Nat) (k k' : pk_K), gl.length + gs.length = G → pk_GW gs gl k k' → k'.1 ≤ la → k'.2.1 ≤ li → k'.2.2.1 ≤ si → k'.2.2.2 ≤ nd → pm_GH gs gl.length k.2.2.2 w → pm_GH (pk_rnG G gs) gl.length k.2.2.2 w' := by
  intro gs
  induction gs with
  | nil => intro gl k k' _ _ _ _ _ _ _; trivial
  | cons e r ih =>
    intro gl k k' hg h b1 b2 b3 b4 H
    obtain ⟨x, v, t⟩ := e
    obtain ⟨_, _, _, tt, hw, k3, h6, h7⟩ := h
    obtain ⟨c1, c2, c3, c4, c5, c6, c7⟩ := H
    rw [List.length_cons] at hg
    have m := pk_can_mono t tt _ _ h6
    have m2 := pk_GW_mono r _ _ _ h7
    have e1 : (gl ++ [x]).length = gl.length + 1 := by simp
    have sz := (pk_rn_tw G t tt).2
    have i := ih (gl ++ [x]) k3 k' (by omega) h7 b1 b2 b3 b4
    rw [e1, m.2.2.2] at i
    have j := pm_H_rn hG hla hli hl t tt (gl ++ [x]) [(gl.length, v)] (gl.length : Int) k k3 (by omega) h6 hw (fun b hb => by
      rw [List.mem_singleton] at hb
      subst hb
      exact ⟨Or.inl (by dsimp only; omega), by dsimp only; omega⟩) (by have := m2.1; omega) (by have := m2.2.1; omega) (by have := m2.2.2.1; omega) (by have := m2.2.2.2; omega) c6
    rw [pm_rh_g (by omega)] at j
    obtain ⟨l1, l2, l3, l4, l5⟩ := hl
    refine ⟨?_, ?_, ?_, ?_, ?_, j, ?_⟩
    · rw [l5 190 _ (by omega) (by omega) (by omega) (by omega)]; exact c1
    · dsimp only; rw [sz, l5 189 _ (by omega) (by omega) (by omega) (by omega)]; exact c2
    · rw [l5 191 _ (by omega) (by omega) (by omega) (by omega)]; exact c3
    · rw [l5 192 _ (by omega) (by omega) (by omega) (by omega)]; exact c4
    · rw [l5 193 _ (by omega) (by omega) (by omega) (by omega)]; exact c5
    · dsimp only; rw [sz]; exact i c7
def pm_V (gs : ps_G) (t : pt_T) (b la li si nd : Nat) (w : fa_W) : Prop := w 181 16 = (nd : Int) ∧ w 181 17 = (gs.length : Int) ∧ w 181 18 = (la : Int) ∧ w 181 19 = (li : Int) ∧ w 181 20 = (si : Int) ∧ w 181 21 = ((nd - 1 : Nat) : Int) ∧ w 181 35 = (nd : Int) ∧ w 181 28 = -1 ∧ pm_GH gs 0 0 w ∧ pm_H t (-1) b w
