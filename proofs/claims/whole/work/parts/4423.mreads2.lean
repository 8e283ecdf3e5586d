theorem ps_tk_0 {c : Nat → Int} {n s : Nat} (hx : ps_TX c n) : ps_tk c n s = 0 ↔ n ≤ s := by
  constructor
  · intro h
    rcases Nat.lt_or_ge s n with hs | hs
    · exfalso
      have hb := hx.2 s hs
      unfold ps_tk at h
      split at h
      · split at h
        · omega
        · split at h
          · rename_i hw
            have := pk_kw_vw hw
            omega
          · omega
      · split at h
        · split at h <;> omega
        · unfold ps_sg at h
          split at h
          · omega
          · split at h <;> omega
    · exact hs
  · exact ps_tk_end hx
theorem pm_fw_28 {w w1 : fa_W} (h : pm_fw w w1) {v : Int} : pm_fw w (fa_st w1 181 28 v) := pm_fw_st h (Or.inl ⟨rfl, by decide⟩)
theorem pm_fw_bl {w w1 : fa_W} (h : pm_fw w w1) (s : Nat) : pm_fw w (pm_bl w1 s) := pm_fw_tr h (pm_fo_fw (pm_lx_fo (pm_lx_bl w1 s)))
theorem pm_j79_f {c : Nat → Int} {n : Nat} {w : fa_W} (hn : n ≤ 40000) (ht : pm_tx c n w) {z : Nat} (hz : z ≤ n) (hf : w 181 28 = (z : Int)) (po : pm_po n w) : pb_ok (fm_Mod_reads_j79 w) (fun q => q.1 = false ∧ q.2 181 28 = (z : Int) ∧ pm_fw w q.2) := by
  obtain ⟨p0, h1, h2⟩ := po
  unfold fm_Mod_reads_j79
  rw [show fm_Mod_expression 900 w = some (-1, w) from pm_t_f 899 w z hf (by omega), pb_bds]
  dsimp only [fa_let]
  have t1 : pm_tx c n (fa_st w 181 21 (-1)) := pm_tx_st ht (by decide)
  rw [pm_blanks t1 (by rw [fa_st_ne (by decide)]; exact h1) h2]
  dsimp only [Option.bind_some]
  have f1 : pm_bl (fa_st w 181 21 (-1)) (ps_sk c n p0) 181 28 = (z : Int) := by
    rw [pm_bl_ne _ _ (by omega), fa_st_ne (by decide)]
    exact hf
  rw [pm_hft f1 (by omega), if_pos rfl]
  unfold fm_Mod_reads_j121
  rw [pm_hft f1 (by omega), if_pos rfl]
  exact pb_some ⟨rfl, f1, pm_fw_bl (pm_fw_st (pm_fw_refl w) (Or.inl ⟨rfl, by decide⟩)) _⟩
/-- a whole text is read: numbers are as they are told -/
theorem pm_ren_V {c : Nat → Int} {n : Nat} {fr : Bool} {gs : ps_G} {t : pt_T} {k1 : pk_K} {s : ps_S} {w : fa_W} (hg : gs.length ≤ 6) (hs : ps_SI n (pk_gn gs, [], -1, 0) s) (hth : s.2.1 = s.2.2.2.2.2.2) (hS : pm_S c n fr (pk_gn gs, [], -1, 0) s w) (hGH : pm_GH gs 0 0 w) (hGW : pk_GW gs [] (0, 0, 0, 0) k1) (tt : pt_tw t) (hw : pk_wfs t (pk_gn gs) []) (hc : pk_can t k1 (ps_Kof s)) (hH : pm_H t (-1) k1.2.2.2 w) (h21 : w 181 21 = ((s.2.2.2.2.2.2 - 1 : Nat) : Int)) : pb_ok (fm_Mod_renumbers w) (fun w' => pm_V (pk_rnG gs.length gs) (pk_rn gs.length t) k1.2.2.2 s.2.2.1 s.2.2.2.1.length s.2.2.2.2.2.1 s.2.2.2.2.2.2 w' ∧ pm_fw w w') := by
  obtain ⟨p, th, la, ins, lt, si, nd⟩ := s
  obtain ⟨h1, h2, h3, h4, h5, h6, h7, h8, h9, h10, h11, h12, h13, h14, h15⟩ := hS
  obtain ⟨a1, a2, a3, a4, a5, a6, a7, a8, a9, a10, a11, a12, a13, a14, a15, a16, a17⟩ := hs
  dsimp only at hth h21 ⊢
  have gl := pk_gn_len gs
  have m := pk_can_mono t tt _ _ hc
  dsimp only [ps_Kof] at m hc
  unfold fm_Mod_renumbers
  refine pb_mono (pm_ren_nodes (G := gs.length) (la := la) (li := ins.length) (si := si) (nd := nd) hg a5 (by omega) (by omega) (by omega) nd 0 fa_FU w (by omega) (by unfold fa_FU; omega) (by rw [h12, gl]) h8 h7 h6 h4) (fun w' q => ?_)
  have rl : pm_rl gs.length la ins.length si nd w w' := ⟨q.1, q.2.1, q.2.2.1, fun j b => q.2.2.2.1 j (by omega) b, fun o j r1 r2 r3 r4 => q.2.2.2.2 o j r1 r2 r3 (by omega)⟩
  have e181 : ∀ k, w' 181 k = w 181 k := fun k => q.2.2.2.2 181 k (by omega) (by omega) (by omega) (by omega)
  have fw : pm_fw w w' := ⟨fun o k r => q.2.2.2.2 o k (by omega) (by omega) (by omega) (by omega), fun k _ => e181 k⟩
  refine ⟨⟨?_, ?_, ?_, ?_, ?_, ?_, ?_, ?_, ?_, ?_⟩, fw⟩
  · rw [e181]; exact h4
  · rw [e181, h12, gl]; unfold pk_rnG; rw [List.length_map]
  · rw [e181]; exact h6
  · rw [e181]; exact h7
  · rw [e181]; exact h8
  · rw [e181]; exact h21
  · rw [e181, h5, hth]
  · rw [e181]; exact h3
  · have := pm_GH_rn hg a5 (by omega) rl gs [] (0, 0, 0, 0) k1 (by simp) hGW (by omega) (by omega) (by omega) (by omega) hGH
    exact this
  · have := pm_H_rn hg a5 (by omega) rl t tt (pk_gn gs) [] (-1) k1 (la, ins.length, si, nd) (by omega) hc hw (fun b hb => by cases hb) (Nat.le_refl _) (Nat.le_refl _) (Nat.le_refl _) (Nat.le_refl _) hH
    rw [pm_rh_m] at this
    exact this
/-- what reading a whole text answers -/
def pm_RQ (n : Nat) (w : fa_W) : ps_Q → Bool × fa_W → Prop
  | none, _ => False
  | some (.error z), q => q.1 = false ∧ z ≤ n ∧ q.2 181 28 = (z : Int) ∧ pm_fw w q.2
  | some (.ok (gs, t, s)), q => q.1 = true ∧ (∃ k1, pk_GW gs [] (0, 0, 0, 0) k1 ∧ pk_can t k1 (ps_Kof s) ∧ pm_V (pk_rnG gs.length gs) (pk_rn gs.length t) k1.2.2.2 s.2.2.1 s.2.2.2.1.length s.2.2.2.2.2.1 s.2.2.2.2.2.2 q.2) ∧ pm_fw w q.2
theorem pm_RQ_fw {n : Nat} {w w1 : fa_W} {r : ps_Q} {q : Bool × fa_W} (h : pm_fw w w1) (g : pm_RQ n w1 r q) : pm_RQ n w r q := by
  match r, g with
  | none, g => exact g
  | some (.error z), g => exact ⟨g.1, g.2.1, g.2.2.1, pm_fw_tr h g.2.2.2⟩
  | some (.ok (gs, t, s)), g => exact ⟨g.1, g.2.1, pm_fw_tr h g.2.2⟩
theorem pm_j79 {c : Nat → Int} {n : Nat} {fr : Bool} (hx : ps_TX c n) (hn : n ≤ 40000) {gs : ps_G} {s : ps_S} {w : fa_W} (hg : gs.length ≤ 6) (hs : ps_SI n (pk_gn gs, [], -1, 0) s) (hth : s.2.1 = s.2.2.2.2.2.2) (hT : pm_T c n fr gs s w) (hne : ps_qb (ps_t c n fr 899 0 (pk_gn gs, [], -1, 0) s) (fun t s1 => if ps_tk c n (ps_sk c n s1.1) = 0 then some (.ok (gs, t, s1)) else some (.error (ps_sk c n s1.1))) ≠ none) : pb_ok (fm_Mod_reads_j79 w) (pm_RQ n w (ps_qb (ps_t c n fr 899 0 (pk_gn gs, [], -1, 0) s) (fun t s1 => if ps_tk c n (ps_sk c n s1.1) = 0 then some (.ok (gs, t, s1)) else some (.error (ps_sk c n s1.1))))) := by
  obtain ⟨hS, hGH, hGW⟩ := hT
  have n1 : ps_t c n fr 899 0 (pk_gn gs, [], -1, 0) s ≠ none := by
    intro q
    rw [q] at hne
    exact hne rfl
  have rr := pm_t_R hx hn 899 900 0 _ _ w (by decide) (by omega) (by omega) (by omega) hs hS n1
  unfold fm_Mod_reads_j79
  refine pb_bdm (show pb_ok (fm_Mod_expression 900 w) _ from rr) (fun v w1 g => ?_)
  cases hq : ps_t c n fr 899 0 (pk_gn gs, [], -1, 0) s with
  | none => exact absurd hq n1
  | some r =>
  rw [hq] at g
  obtain ⟨p, th, la, ins, lt, si, nd⟩ := s
  cases r with
  | error z =>
    obtain ⟨y1, y2, y3, p0, y4, y5⟩ := g
    dsimp only at y2 y3 y4
    dsimp only [fa_let]
    have t1 : pm_tx c n (fa_st w1 181 21 v) := pm_tx_st (pm_tx_of hS.1 (y3.2 25 (by omega)) (fun k => y3.1 196 k (by omega))) (by decide)
    rw [pm_blanks t1 (by rw [fa_st_ne (by decide)]; exact y4) y5]
    dsimp only [Option.bind_some]
    have f1 : pm_bl (fa_st w1 181 21 v) (ps_sk c n p0) 181 28 = (z : Int) := by
      rw [pm_bl_ne _ _ (by omega), fa_st_ne (by decide)]
      exact y2
    rw [pm_hft f1 (by omega), if_pos rfl]
    unfold fm_Mod_reads_j121
    rw [pm_hft f1 (by omega), if_pos rfl]
    exact pb_some ⟨rfl, y1, f1, pm_fw_bl (pm_fw_st (pm_fo_fw y3) (Or.inl ⟨rfl, by decide⟩)) _⟩
  | ok y =>
    obtain ⟨t, S1⟩ := y
    have o1 := ps_t_po hx 899 0 _ _ _ _ (by omega) (by omega) (by omega) hs hq
    have j1 := ps_PO_SI hs o1
    obtain ⟨p1, th1, la1, ins1, lt1, si1, nd1⟩ := S1
    obtain ⟨b1, b2, b3, b4, b5, b6⟩ := ps_PO_x o1
    have hth1 : th1 = nd1 := by
      obtain ⟨c1, c2, c3, _⟩ := o1
      dsimp only at hth
      omega
    obtain ⟨y1, y2, y3, y4⟩ := g
    dsimp only at y1 y2 y3 y4
    obtain ⟨p0, e26, l26, s26⟩ := y2.2.1
    dsimp only [fa_let]
    have t1 : pm_tx c n (fa_st w1 181 21 v) := pm_tx_st y2.1 (by decide)
    rw [pm_blanks t1 (by rw [fa_st_ne (by decide)]; exact e26) l26, s26]
    dsimp only [Option.bind_some]
    have zs := ps_sk_p hx p1 b1
    have lx : pm_lx (fa_st w1 181 21 v) (pm_bl (fa_st w1 181 21 v) (ps_sk c n p1)) (ps_sk c n p1) := pm_lx_bl _ _
    have nn : ∀ o k, (o ≠ 181 ∨ (k ≠ 21 ∧ k ≠ 26 ∧ k ≠ 27)) → pm_bl (fa_st w1 181 21 v) (ps_sk c n p1) o k = w1 o k := by
      intro o k r
      rw [pm_bl_ne _ _ (by omega), fa_st_ne (by omega)]
    have e21 : pm_bl (fa_st w1 181 21 v) (ps_sk c n p1) 181 21 = v := by rw [pm_bl_ne _ _ (by omega), fa_st_eq]
    have k26 := lx.1
    have fw1 : pm_fw w (pm_bl (fa_st w1 181 21 v) (ps_sk c n p1)) := pm_fw_bl (pm_fw_st (pm_fo_fw y4.1) (Or.inl ⟨rfl, by decide⟩)) _
    generalize pm_bl (fa_st w1 181 21 v) (ps_sk c n p1) = w2 at nn e21 k26 fw1 ⊢
    clear lx
    have e28 : w2 181 28 = -1 := by rw [nn _ _ (by omega)]; exact y2.2.2.1
    have e25 : w2 181 25 = (n : Int) := by rw [nn _ _ (by omega)]; exact y2.1.2.2.1
    rw [pm_hf e28, if_neg (by decide), e25, k26, pb_wr (by omega), pb_wr (by omega)]
    show pb_ok _ (pm_RQ n w (if ps_tk c n (ps_sk c n p1) = 0 then some (.ok (gs, t, (p1, th1, la1, ins1, lt1, si1, nd1))) else some (.error (ps_sk c n p1))))
    by_cases k0 : ps_tk c n (ps_sk c n p1) = 0
    · rw [if_pos k0, if_pos (by have := (ps_tk_0 hx).mp k0; omega)]
      unfold fm_Mod_reads_j121
      rw [pm_hf e28, if_neg (by decide)]
      have S2 : pm_S c n fr (pk_gn gs, [], -1, 0) (p1, th1, la1, ins1, lt1, si1, nd1) w2 := by
        obtain ⟨h1, h2, h3, h4, h5, h6, h7, h8, h9, h10, h11, h12, h13, h14, h15⟩ := id y2
        refine pm_S_up y2 (fun k => nn _ _ (by omega)) (fun k => nn _ _ (by omega)) (fun k _ => nn _ _ (by omega)) (fun b _ => nn _ _ (by omega)) (nn _ _ (by omega)) (nn _ _ (by omega)) (nn _ _ (by omega)) (nn _ _ (by omega)) ⟨ps_sk c n p1, k26, zs.2.1, ps_sk_sk hx b1⟩ e28 ?_ ?_ ?_ ?_ ?_ ?_ ?_ <;> rw [nn _ _ (by omega)] <;> assumption
      have GH2 : pm_GH gs 0 0 w2 := by
        refine pm_GH_fr gs [] (0, 0, 0, 0) (la, ins.length, si, nd) w w2 6 (by simpa using hg) (by omega) hGW ⟨fun o j p q r s => (nn o j (by omega)).trans (y4.2.1 o j p q s), fun o j p r s => (nn o j (by omega)).trans (y4.2.2.1 o j p s), fun o j p r s => (nn o j (by omega)).trans (y4.2.2.2.1 o j p s), fun o v p r s => (nn o v (by omega)).trans (y4.2.2.2.2.1 o v p r), fun j s => (nn 190 j (by omega)).trans (y4.1.1 190 j (by omega))⟩ (fun o j p q => ?_) hGH
        rw [List.length_nil, Nat.zero_add] at q
        rw [nn o j (by omega)]
        by_cases e : o = 190
        · subst e; exact y4.1.1 190 j (by omega)
        · by_cases e2 : o = 189 ∨ o = 191
          · exact y4.2.2.2.1 o j e2 (by omega)
          · exact y4.2.2.2.2.1 o j (by omega) (Or.inl (by omega))
      have H2 : pm_H t (-1) nd w2 := pm_H_tr t b2 _ _ _ (la, ins.length, si, nd) (la1, ins1.length, si1, nd1) w1 w2 6 (by omega) (by omega) b4 b3 (fun b hb => by cases hb) ⟨fun o j p q r s => nn o j (by omega), fun o j p r s => nn o j (by omega), fun o j p r s => nn o j (by omega), fun o v p r s => nn o v (by omega), fun j s => nn 190 j (by omega)⟩ y3
      refine pb_bindm (pm_ren_V hg j1 hth1 S2 GH2 hGW b2 b3 b4 H2 (by rw [e21]; exact y1)) (fun w3 q => pb_some ⟨rfl, ⟨_, hGW, b4, q.1⟩, pm_fw_tr fw1 q.2⟩)
    · rw [if_neg k0, if_neg (fun q => k0 ((ps_tk_0 hx).mpr (by omega))), pm_fails e28]
      dsimp only [fa_l2, fa_let]
      have f1 : fa_st (fa_st w2 181 28 ((ps_sk c n p1 : Nat) : Int)) 181 21 (-1) 181 28 = ((ps_sk c n p1 : Nat) : Int) := by rw [fa_st_ne (by decide), fa_st_eq]
      unfold fm_Mod_reads_j121
      rw [pm_hft f1 (by omega), if_pos rfl]
      exact pb_some ⟨rfl, zs.2.1, f1, pm_fw_st (pm_fw_28 fw1) (Or.inl ⟨rfl, by decide⟩)⟩
