theorem pm_T_lx {c : Nat → Int} {n : Nat} {fr : Bool} {gs : ps_G} {p p' q : Nat} {r : Nat × Nat × List Nat × Nat × Nat × Nat} {w w' : fa_W} (hg : gs.length ≤ 6) (h : pm_T c n fr gs (p, r) w) (l : pm_lx w w' q) (hq : q ≤ n) (hs : ps_sk c n q = ps_sk c n p') : pm_T c n fr gs (p', r) w' := by
  obtain ⟨th, la, ins, lt, si, nd⟩ := r
  obtain ⟨hS, hGH, hGW⟩ := h
  refine ⟨pm_S_lx (p' := p') hS l hq hs, ?_, hGW⟩
  exact pm_GH_fr gs [] (0, 0, 0, 0) _ w w' 6 (by simpa using hg) (by omega) hGW ⟨fun o j p q r s => l.2 o j (by omega), fun o j p r s => l.2 o j (by omega), fun o j p r s => l.2 o j (by omega), fun o v p r s => l.2 o v (by omega), fun j s => l.2 190 j (by omega)⟩ (fun o j p q => l.2 o j (by omega)) hGH
theorem pm_l55_f {c : Nat → Int} {n : Nat} {w : fa_W} (hn : n ≤ 40000) (ht : pm_tx c n w) {z : Nat} (hz : z ≤ n) (hf : w 181 28 = (z : Int)) (po : pm_po n w) (F : Nat) : pb_ok (fm_Mod_reads_l55 (F + 1) w) (fun q => q.1 = false ∧ q.2 181 28 = (z : Int) ∧ pm_fw w q.2) := by
  unfold fm_Mod_reads_l55
  rw [pm_hft hf (Nat.le_trans hz hn), if_pos rfl]
  exact pm_j79_f hn ht hz hf po
theorem pm_fw_tx {c : Nat → Int} {n : Nat} {w w1 : fa_W} (h : pm_fw w w1) (ht : pm_tx c n w) : pm_tx c n w1 := pm_tx_of ht (h.2 25 (by omega)) (fun k => h.1 196 k (by omega))
theorem pm_l55 {c : Nat → Int} {n : Nat} {fr : Bool} (hx : ps_TX c n) (hn : n ≤ 40000) : ∀ (f F : Nat) (gs : ps_G) (s : ps_S) (w : fa_W), f < F → gs.length ≤ 6 → ps_SI n (pk_gn gs, [], -1, 0) s → s.2.1 = s.2.2.2.2.2.2 → pm_T c n fr gs s w → ps_all c n fr f gs s ≠ none → pb_ok (fm_Mod_reads_l55 F w) (pm_RQ n w (ps_all c n fr f gs s)) := by
  intro f
  induction f with
  | zero => intro F gs s w _ _ _ _ _ hne; exact absurd rfl hne
  | succ f ih =>
    intro F gs s w hF hg hs hth hT hne
    obtain ⟨F, rfl⟩ : ∃ z, F = z + 1 := ⟨F - 1, by omega⟩
    have hF : f < F := by omega
    obtain ⟨p, r⟩ := s
    have hp : p ≤ n := by obtain ⟨th, la, ins, lt, si, nd⟩ := r; exact hs.1
    have hT0 := hT
    obtain ⟨hS, hGH, hGW⟩ := hT
    have hS2 : (∃ p0 : Nat, w 181 26 = (p0 : Int) ∧ p0 ≤ n ∧ ps_sk c n p0 = ps_sk c n p) ∧ w 181 28 = -1 ∧ pm_tx c n w := by
      obtain ⟨th, la, ins, lt, si, nd⟩ := r; exact ⟨hS.2.1, hS.2.2.1, hS.1⟩
    obtain ⟨⟨p0, e26, l26, s26⟩, e28, tx⟩ := hS2
    have z := ps_sk_p hx p hp
    have ss := ps_sk_sk hx hp
    unfold fm_Mod_reads_l55
    rw [pm_hf e28, if_neg (by decide), pm_word tx e26 l26, s26, pb_bds]
    have lx : pm_lx w (fa_st (pm_bl w (ps_sk c n p)) 181 34 ((ps_we c n (ps_sk c n p) - ps_sk c n p : Nat) : Int)) (ps_sk c n p) := by
      refine ⟨by rw [fa_st_ne (by decide), pm_bl_26], fun o k r => ?_⟩
      rw [fa_st_ne (by omega), pm_bl_ne _ _ (by omega)]
    have k26 := lx.1
    have T1 := pm_T_lx (p' := p) hg hT0 lx z.2.1 ss
    have fw1 := pm_fo_fw (pm_lx_fo lx)
    generalize fa_st (pm_bl w (ps_sk c n p)) 181 34 ((ps_we c n (ps_sk c n p) - ps_sk c n p : Nat) : Int) = w1 at k26 T1 fw1 ⊢
    clear lx
    have hW := pm_WK (s := ps_sk c n p) (K := 6714734) hx z.2.1 hn rfl
    rw [show pm_cv 6714734 = 4955 from rfl] at hW
    have hb : pm_W c n (ps_sk c n p) ≤ 1088576 := by
      rcases pm_Wk hx z.2.1 hn with ⟨h1, h2, _⟩ | ⟨h1, h2, h3, h4⟩ | ⟨h1, h2, h3, h4, h5⟩
      · omega
      · omega
      · have := pm_cv_lt h2; omega
    rw [pb_wr (by omega)]
    unfold ps_all at hne ⊢
    dsimp only at hne ⊢
    by_cases k1 : ps_tk c n (ps_sk c n p) = 6714734
    · rw [if_pos k1] at hne ⊢
      rw [if_pos (by have := hW.mpr k1; omega)]
      have T1S : w1 181 17 = ((pk_gn gs).length : Int) ∧ w1 181 28 = -1 ∧ pm_tx c n w1 := by
        obtain ⟨th, la, ins, lt, si, nd⟩ := r
        exact ⟨T1.1.2.2.2.2.2.2.2.2.2.2.2.1, T1.1.2.2.1, T1.1.1⟩
      obtain ⟨f17, f28, ftx⟩ := T1S
      have gl := pk_gn_len gs
      unfold fm_Mod_global
      rw [f17, gl, pb_wr (by omega)]
      -- once it has failed the loop ends
      have bad : ∀ (w' : fa_W) (z : Nat), z ≤ n → w' 181 28 = (z : Int) → pm_fw w1 w' → pm_po n w' → pb_ok (fm_Mod_reads_l55 F w') (pm_RQ n w (some (.error z))) := by
        intro w' z hz hf hw hpo
        obtain ⟨F', rfl⟩ : ∃ z, F = z + 1 := ⟨F - 1, by omega⟩
        exact pb_mono (pm_l55_f hn (pm_fw_tx hw ftx) hz hf hpo F') (fun q g => ⟨g.1, hz, g.2.1, pm_fw_tr fw1 (pm_fw_tr hw g.2.2)⟩)
      by_cases g6 : gs.length = 6
      · rw [if_pos g6, if_pos (by omega), pm_fails f28, k26]
        dsimp only [fa_l2]
        exact bad _ _ z.2.1 (fa_st_eq _ _ _ _) (pm_fw_28 (pm_fw_refl _)) ⟨ps_sk c n p, by rw [fa_st_ne (by decide)]; exact k26, z.2.1⟩
      rw [if_neg g6] at hne ⊢
      rw [if_neg (by omega)]
      refine pb_bind (pb_bindm (pm_asksWord (K := 6714734) ftx k26 z.2.1 f28 rfl) (fun w3 q => ?_))
      rw [ss] at q
      rcases q with ⟨_, q2⟩ | ⟨q1, _⟩
      rotate_left
      · exact absurd k1 q1
      have z0 := (ps_word_len hx (s := ps_sk c n p) (by omega)).1
      have z0' := (ps_word_len hx (s := ps_sk c n p) (by omega)).2.1
      have T2 := pm_T_lx (p' := ps_te c n (ps_sk c n p)) hg T1 q2 z0 rfl
      have T2S : w3 181 28 = -1 ∧ pm_tx c n w3 := by
        obtain ⟨th, la, ins, lt, si, nd⟩ := r
        exact ⟨T2.1.2.2.1, T2.1.1⟩
      have fw2 := pm_fo_fw (pm_lx_fo q2)
      refine pb_bdm (pm_gives T2S.2 q2.1 z0 T2S.1) (fun v5 w6 g => ?_)
      dsimp only at g
      have zz := (ps_sk_p hx _ z0).2.1
      rcases g with ⟨g1, g2, g3, g4⟩ | ⟨g1, g2⟩
      rotate_left
      · rw [pm_hft g2.1 (by omega), if_pos rfl, if_pos (Or.inl g1)]
        exact pb_some (bad _ _ zz g2.1 (pm_fw_tr fw2 (pm_fo_fw (pm_fl_fo g2))) (pm_po_fl g2 zz))
      have nm := ps_name hx g1
      have T3 := pm_T_lx (p' := ps_te c n (ps_sk c n (ps_te c n (ps_sk c n p)))) hg T2 g3 nm.2.2.2 rfl
      have fw3 := pm_fw_tr fw2 (pm_fo_fw (pm_lx_fo g3))
      have T3S : w6 181 17 = ((pk_gn gs).length : Int) ∧ w6 181 28 = -1 ∧ (∀ k y, (pk_gn gs)[k]? = some y → w6 190 k = ((pm_cv y : Nat) : Int)) := by
        obtain ⟨th, la, ins, lt, si, nd⟩ := r
        exact ⟨T3.1.2.2.2.2.2.2.2.2.2.2.2.1, T3.1.2.2.1, T3.1.2.2.2.2.2.2.2.2.2.2.2.2.1⟩
      have ign : ∀ y ∈ pk_gn gs, pk_nm y := by
        obtain ⟨th, la, ins, lt, si, nd⟩ := r
        exact hs.2.2.2.2.2.2.2.2.2.2.2.2.2.2.2.1
      obtain ⟨FU, hFU, hF2⟩ : ∃ F, F = fa_FU ∧ 10 < F := ⟨_, rfl, by unfold fa_FU; omega⟩
      rw [pm_hf T3S.2.1, if_neg (by decide), g2, ← hFU]
      have dd := pm_dup nm.1 T3S.1 (by omega) ign T3S.2.2 (pk_gn gs) 0 FU rfl (by omega) (by omega)
      rw [show ((0 : Nat) : Int) = 0 from rfl] at dd
      rw [dd]
      by_cases hd : ps_tv c n (ps_sk c n (ps_te c n (ps_sk c n p))) ∈ pk_gn gs
      · have hd' : ps_tk c n (ps_sk c n (ps_te c n (ps_sk c n p))) ≠ 2 ∨ ps_tv c n (ps_sk c n (ps_te c n (ps_sk c n p))) ∈ gs.map (fun g => g.1) := Or.inr hd
        rw [if_pos hd, if_pos hd', pm_fails T3S.2.1]
        have ez : w6 181 26 - w6 181 34 = ((ps_sk c n (ps_te c n (ps_sk c n p)) : Nat) : Int) := by
          rw [g3.1, g4]
          have := nm.2.2.1
          omega
        rw [ez]
        dsimp only [fa_l2]
        exact pb_some (bad _ _ zz (fa_st_eq _ _ _ _) (pm_fw_28 fw3) ⟨_, by rw [fa_st_ne (by decide)]; exact g3.1, nm.2.2.2⟩)
      · have cc : ¬ (ps_tk c n (ps_sk c n (ps_te c n (ps_sk c n p))) ≠ 2 ∨ ps_tv c n (ps_sk c n (ps_te c n (ps_sk c n p))) ∈ pk_gn gs) := fun q => q.elim (fun a => a g1) hd
        unfold pk_gn at cc
        rw [if_neg cc] at hne ⊢
        rw [if_neg hd]
        have hs3 := ps_SI_p hs (q := ps_te c n (ps_sk c n (ps_te c n (ps_sk c n p)))) (by have := (ps_sk_p hx _ z0).1; have := nm.2.2.1; omega) nm.2.2.2
        have eg : ∀ k, ps_glo c n fr (ps_tv c n (ps_sk c n (ps_te c n (ps_sk c n p)))) (ps_te c n (ps_sk c n (ps_te c n (ps_sk c n p)))) gs (p, r) k = ps_glo c n fr (ps_tv c n (ps_sk c n (ps_te c n (ps_sk c n p)))) (ps_te c n (ps_sk c n (ps_te c n (ps_sk c n p)))) gs (ps_te c n (ps_sk c n (ps_te c n (ps_sk c n p))), r) k := fun k => rfl
        rw [eg] at hne ⊢
        have gm := pm_gmain hx hn nm.1 hd (by omega) hs3 hth T3 g3.1 f (fun w' => pb_ok (fm_Mod_reads_l55 F w') (pm_RQ n w (ps_glo c n fr (ps_tv c n (ps_sk c n (ps_te c n (ps_sk c n p)))) (ps_te c n (ps_sk c n (ps_te c n (ps_sk c n p)))) gs (ps_te c n (ps_sk c n (ps_te c n (ps_sk c n p))), r) (ps_all c n fr f)))) (ps_all c n fr f) (fun z w' hz hf hw hpo e => by rw [e]; exact bad w' z hz hf (pm_fw_tr fw3 hw) hpo) (fun gs' s' w' hg' hs' hth' hT' hw e => by
          rw [e] at hne ⊢
          exact pb_mono (ih F gs' s' w' hF hg' hs' hth' hT' hne) (fun q g => pm_RQ_fw (pm_fw_tr fw1 (pm_fw_tr fw3 hw)) g)) hne
        exact gm
    · rw [if_neg k1] at hne ⊢
      rw [if_neg (fun q => k1 (hW.mp (by omega)))]
      exact pb_mono (pm_j79 hx hn hg hs hth T1 hne) (fun q g => pm_RQ_fw fw1 g)
/-- the beginning of a text -/
def ps_S0 : ps_S := (0, 0, 0, [], 0, 0, 0)
theorem pm_reads_R {c : Nat → Int} {n : Nat} {fr : Bool} {w : fa_W} (ht : pm_tx c n w) (hfr : w 181 31 ≠ 0 ↔ fr = true) (hne : ps_all c n fr 9 [] ps_S0 ≠ none) : pb_ok (fm_Mod_reads w) (pm_RQ n w (ps_all c n fr 9 [] ps_S0)) := by
  have hx := ht.1
  have hn := ht.2.1
  obtain ⟨FU, hFU, hF2⟩ : ∃ F, F = fa_FU ∧ 10 < F := ⟨_, rfl, by unfold fa_FU; omega⟩
  unfold fm_Mod_reads
  dsimp only [fa_let]
  rw [← hFU]
  have fw : pm_fw w (fa_st (fa_st (fa_st (fa_st (fa_st (fa_st (fa_st (fa_st (fa_st (fa_st (fa_st w 181 16 0) 181 35 0) 181 17 0) 181 18 0) 181 19 0) 181 20 0) 181 26 0) 181 29 0) 181 30 (-1)) 181 33 0) 181 28 (-1)) := by
    refine pm_fw_st (pm_fw_st (pm_fw_st (pm_fw_st (pm_fw_st (pm_fw_st (pm_fw_st (pm_fw_st (pm_fw_st (pm_fw_st (pm_fw_st (pm_fw_refl w) ?_) ?_) ?_) ?_) ?_) ?_) ?_) ?_) ?_) ?_) ?_ <;> exact Or.inl ⟨rfl, by decide⟩
  have T : pm_T c n fr [] ps_S0 (fa_st (fa_st (fa_st (fa_st (fa_st (fa_st (fa_st (fa_st (fa_st (fa_st (fa_st w 181 16 0) 181 35 0) 181 17 0) 181 18 0) 181 19 0) 181 20 0) 181 26 0) 181 29 0) 181 30 (-1)) 181 33 0) 181 28 (-1)) := by
    refine ⟨⟨pm_fw_tx fw ht, ⟨0, ?_, Nat.zero_le _, rfl⟩, ?_, ?_, ?_, ?_, ?_, ?_, ?_, ?_, ?_, ?_, ?_, ?_, trivial⟩, trivial, rfl⟩
    · repeat rw [fa_st_ne (by decide)]
      rw [fa_st_eq]; rfl
    · rw [fa_st_eq]
    · repeat rw [fa_st_ne (by decide)]
      rw [fa_st_eq]; rfl
    · repeat rw [fa_st_ne (by decide)]
      rw [fa_st_eq]; rfl
    · repeat rw [fa_st_ne (by decide)]
      rw [fa_st_eq]; rfl
    · repeat rw [fa_st_ne (by decide)]
      rw [fa_st_eq]; rfl
    · repeat rw [fa_st_ne (by decide)]
      rw [fa_st_eq]; rfl
    · repeat rw [fa_st_ne (by decide)]
      rw [fa_st_eq]; rfl
    · repeat rw [fa_st_ne (by decide)]
      rw [fa_st_eq]
    · repeat rw [fa_st_ne (by decide)]
      exact hfr
    · repeat rw [fa_st_ne (by decide)]
      rw [fa_st_eq]; rfl
    · intro k x h
      cases h
    · repeat rw [fa_st_ne (by decide)]
      rw [fa_st_eq]; rfl
  have si : ps_SI n (pk_gn [], [], -1, 0) ps_S0 := by
    refine ⟨Nat.zero_le _, by decide, by decide, by decide, by decide, by decide, by decide, by decide, by decide, by decide, by decide, ?_, ?_, List.nodup_nil, by decide, ?_, by decide⟩
    · intro b hb; cases hb
    · intro b hb; cases hb
    · intro b hb; cases hb
  exact pb_mono (pm_l55 hx hn 9 FU [] ps_S0 _ (by omega) (by decide) si rfl T hne) (fun q g => pm_RQ_fw fw g)
