/-! take() by the reference -/
/-- a program's text, read again by the reference -/
theorem pm_reread {c : Nat → Int} {n : Nat} {gs : ps_G} {t : pt_T} {la li si nd : Nat} {fb : Nat → pt_T} {sb : pf_sT} {w : fa_W} (ht : pm_tx c n (fa_st w 181 31 (fa_bi true))) (hs : pr_ws c 0 (pw_pr pw_al pw_al gs t)) (hn : (pw_pr pw_al pw_al gs t).length = n) (hV : pn_V gs t la li si nd) (hG : pf_G gs t la li si fb sb) (hr : ∃ r, pv_P r gs t) : ∃ w' mk, fm_Mod_readsAll true w = some (true, w') ∧ (mk < 2 ^ (gs.length + la) ∧ ∀ f, mk.testBit f = true ↔ pf_M fb t f) ∧ pm_IM gs t la li si nd fb sb mk w' ∧ pm_rg w w' ∧ ∃ (G : ps_G) (T : pt_T) (s : ps_S), ps_all c n true 9 [] ps_S0 = some (.ok (G, T, s)) ∧ pt_tw T ∧ gs = pk_rnG G.length G ∧ t = pk_rn G.length T ∧ la = s.2.2.1 ∧ li = s.2.2.2.1.length ∧ si = s.2.2.2.2.2.1 ∧ nd = s.2.2.2.2.2.2 := by
  obtain ⟨ins, lt, r1, r2, r3, r4, r5⟩ := pr_read ht.1 hV hs hn
  obtain ⟨G, hGe⟩ : ∃ G, G = pr_raw gs.length gs := ⟨_, rfl⟩
  obtain ⟨T, hTe⟩ : ∃ T, T = pr_tr gs.length t := ⟨_, rfl⟩
  rw [← hGe] at r2 r3 r5
  rw [← hTe] at r2 r4
  have tw := ps_all_tw ht.1 r2
  have eG : pk_rnG G.length G = gs := by rw [r5]; exact r3
  have eT : pk_rn G.length T = t := by rw [r5]; exact r4
  have X := pm_readsAll_all (fb := fb) (sb := sb) ht r2 tw (by rw [eG, eT]; dsimp only; rw [r1]; exact hV) (by rw [eG, eT]; dsimp only; rw [r1]; exact hG)
  rw [eG, eT] at X
  dsimp only at X
  rw [r1] at X
  rcases X with ⟨n1, _⟩ | ⟨_, w', mk, x1, x2, x3, x4, x5⟩
  · exact absurd hr n1
  · exact ⟨w', mk, x1, x3, x4, x5, G, T, _, r2, tw, eG.symm, eT.symm, rfl, r1.symm, rfl, rfl⟩
theorem pm_take {gs : ps_G} {t : pt_T} {la li si nd mk cl : Nat} {fb fb' : Nat → pt_T} {sb sb' : pf_sT} {hb : Nat → Int} {w : fa_W} (hP : pf_PR gs t la li si nd fb sb mk) (hH : bk_H gs t la li si fb hb) (hC : bk_C gs la fb t cl) (hI : pm_IM gs t la li si nd fb sb mk w) (hG' : pf_G (bk_G mk cl sb hb si gs) (bk_T mk cl sb hb si gs t) (bk_la mk gs la) (bk_li cl hb li) (bk_si cl sb si) fb' sb') : ∃ w' mk', fm_Mod_take w = some ((((bk_G mk cl sb hb si gs).length + bk_la mk gs la : Nat) : Int), w') ∧ w' 181 0 = 0 ∧ w' 181 70 = 0 ∧ (mk' < 2 ^ ((bk_G mk cl sb hb si gs).length + bk_la mk gs la) ∧ ∀ f, mk'.testBit f = true ↔ pf_M fb' (bk_T mk cl sb hb si gs t) f) ∧ pm_IM (bk_G mk cl sb hb si gs) (bk_T mk cl sb hb si gs t) (bk_la mk gs la) (bk_li cl hb li) (bk_si cl sb si) (bk_nd mk cl gs t) fb' sb' mk' w' ∧ pm_KT (bk_G mk cl sb hb si gs) (bk_T mk cl sb hb si gs t) (bk_la mk gs la) (bk_li cl hb li) (bk_si cl sb si) (bk_nd mk cl gs t) w' ∧ (∀ j, (j = 2 ∨ j = 69) → w' 181 j = w 181 j) ∧ ∀ i j, (i ≤ 180 ∨ i = 182 ∨ i = 183 ∨ 225 ≤ i) → w' i j = w i j := by
  obtain ⟨V', hr', eP, _⟩ := bk_V hP hH hC
  obtain ⟨hV, hG, hr, hmk, hM⟩ := hP
  obtain ⟨w0, hw0⟩ : ∃ w0, w0 = fa_st w 181 0 0 := ⟨_, rfl⟩
  have o0 : ∀ i j, ¬ (i = 181 ∧ j = 0) → w0 i j = w i j := fun i j p => by rw [hw0, fa_st_ne p]
  have N0 := pm_AN_ob (w' := w0) hV hG (fun i j p => o0 i j (by omega)) (fun j p q => o0 181 j (by omega)) hI.1
  obtain ⟨w1, a1, a2, a3⟩ := pm_writesBack hV hG N0 hmk hC
  obtain ⟨tx, htx⟩ : ∃ tx, tx = pw_pr (bk_M mk) (bk_M cl) gs t := ⟨_, rfl⟩
  have as : pw_as tx := by rw [htx]; exact pw_as_pr _ _ hV
  have len : tx.length ≤ 1900 := by
    rw [htx]
    have := pw_pr_len (bk_M mk) (bk_M cl) hV
    unfold pw_pr
    rw [List.length_append]
    exact this
  rw [← htx] at a2 eP
  obtain ⟨w2, hw2⟩ : ∃ w2, w2 = fa_st w1 181 25 (w1 181 70) := ⟨_, rfl⟩
  have o2 : ∀ i j, ¬ (i = 181 ∧ j = 25) → w2 i j = w1 i j := fun i j p => by rw [hw2, fa_st_ne p]
  have L := pm_take_l (n := tx.length) (by omega) tx.length 0 fa_FU w2 (by omega) (by unfold fa_FU; omega) (by rw [o2 _ _ (by omega)]; exact a2.1)
  obtain ⟨c1, c2⟩ := pm_cp_at (dst := 196) (src := 197) (by omega) tx.length 0 w2
  obtain ⟨w3, hw3⟩ : ∃ w3, w3 = pm_cp 196 197 tx.length 0 w2 := ⟨_, rfl⟩
  rw [← hw3] at L c1 c2
  obtain ⟨c, hc⟩ : ∃ c : Nat → Int, c = fun k => if k < tx.length then ((tx.getD k 0 : Nat) : Int) else -1 := ⟨_, rfl⟩
  have ck : ∀ (k x : Nat), tx[k]? = some x → c k = (x : Int) ∧ x < 128 := fun k x h => by
    have hk : k < tx.length := by
      by_cases z : k < tx.length
      · exact z
      · rw [List.getElem?_eq_none (by omega)] at h; cases h
    refine ⟨?_, as x (List.mem_of_getElem? h)⟩
    rw [hc]
    show (if k < tx.length then ((tx.getD k 0 : Nat) : Int) else -1) = _
    rw [if_pos hk, List.getD_eq_getElem?_getD, h]
    rfl
  have ex : ∀ k, k < tx.length → ∃ x : Nat, tx[k]? = some x := fun k hk => ⟨tx[k], List.getElem?_eq_getElem hk⟩
  have hTX : ps_TX c tx.length := ⟨fun k hk => by rw [hc]; show (if k < tx.length then ((tx.getD k 0 : Nat) : Int) else -1) = _; rw [if_neg (by omega)], fun k hk => by
    obtain ⟨x, hx⟩ := ex k hk
    obtain ⟨e1, e2⟩ := ck k x hx
    rw [e1]
    omega⟩
  have h196 : ∀ k, k < tx.length → w3 196 k = pm_sb (c k) := fun k hk => by
    obtain ⟨x, hx⟩ := ex k hk
    obtain ⟨e1, e2⟩ := ck k x hx
    have e3 : pm_sb (c k) = (x : Int) := by rw [e1]; unfold pm_sb; rw [if_pos (by omega)]
    rw [c2 k (by omega) (by omega), o2 _ _ (by omega), a2.2 k x hx, ← e3]
    exact pm_i2b_sb (hTX.2 k hk)
  have h25 : w3 181 25 = (tx.length : Int) := by rw [c1 _ _ (by omega), hw2, fa_st_eq]; exact a2.1
  have ht : pm_tx c tx.length (fa_st w3 181 31 (fa_bi true)) := ⟨hTX, by omega, by rw [fa_st_ne (by omega)]; exact h25, fun k hk => by rw [fa_st_ne (by omega)]; exact h196 k hk⟩
  obtain ⟨w4, mk', b1, b2, b3, b4, G, T, s, s1, s2, s3, s4, s5, s6, s7, s8⟩ := pm_reread ht (by rw [eP]; exact fun j x h => by rw [Nat.zero_add]; exact (ck j x h).1) (by rw [eP]) V' hG' hr'
  obtain ⟨w5, q1, q2, q3, q4, q5⟩ := pm_keeps (w := w4) hTX (by omega) (by rw [b4.2 25 (by omega)]; exact h25) (fun k hk => by rw [b4.1 196 k (by omega)]; exact h196 k hk)
  have IM : pm_IM (bk_G mk cl sb hb si gs) (bk_T mk cl sb hb si gs t) (bk_la mk gs la) (bk_li cl hb li) (bk_si cl sb si) (bk_nd mk cl gs t) fb' sb' mk' w5 := ⟨pm_AN_ob V' hG' (fun i j p => q5 i j (by omega) (by omega)) (fun j p q => q5 181 j (by omega) (by omega)) b3.1, pm_CD_ob hG'.2.1 hG'.2.2.2.1.1 (fun i j p q => q5 i j (by omega) (by omega)) b3.2⟩
  have p17 := IM.1.1.2.1
  have p18 := IM.1.1.2.2.1
  refine ⟨w5, mk', ?_, ?_, q4, b2, IM, ⟨c, tx.length, G, T, s, hTX, by omega, q2, q3, s1, s2, s3, s4, s5, s6, s7, s8⟩, fun j p => ?_, fun i j p => ?_⟩
  · unfold fm_Mod_take
    rw [pf_let_eq, ← hw0, a1, Option.bind_some, pf_let_eq, ← hw2]
    refine L.trans ?_
    rw [b1, Option.bind_some, q1, Option.bind_some]
    show some (w5 181 17 + w5 181 18, w5) = _
    rw [p17, p18]
    rfl
  · rw [q5 _ _ (by omega) (by omega), b4.2 0 (by omega), c1 _ _ (by omega), o2 _ _ (by omega), a3 _ _ (by omega) (by omega), hw0, fa_st_eq]
  · rw [q5 181 j (by omega) (by omega), b4.2 j (by omega), c1 _ _ (by omega), o2 _ _ (by omega), a3 _ _ (by omega) (by omega), o0 _ _ (by omega)]
  · rw [q5 i j (by omega) (by omega), b4.1 i j (by omega), c1 _ _ (by omega), o2 _ _ (by omega), a3 _ _ (by omega) (by omega), o0 _ _ (by omega)]
