/-! read() by the reference -/
theorem ps_all_tw {c : Nat → Int} {n : Nat} {fr : Bool} {gs : ps_G} {t : pt_T} {s : ps_S} (hx : ps_TX c n) (h : ps_all c n fr 9 [] ps_S0 = some (.ok (gs, t, s))) : pt_tw t := by
  have si : ps_SI n (pk_gn [], [], -1, 0) ps_S0 := by
    refine ⟨Nat.zero_le _, by decide, by decide, by decide, by decide, by decide, by decide, by decide, by decide, by decide, by decide, ?_, ?_, List.nodup_nil, by decide, ?_, by decide⟩
    · intro b hb; cases hb
    · intro b hb; cases hb
    · intro b hb; cases hb
  obtain ⟨_, _, _, k1, _, k2, _⟩ := ps_all_po hx 9 [] ps_S0 gs t s (by decide) si rfl rfl h
  exact k2
/-- the reference's tape -/
def pm_tp (c : Nat → Int) (n : Nat) (w : fa_W) : Prop := ps_TX c n ∧ n ≤ 400 ∧ w 181 2 = (n : Int) ∧ ∀ k, k < n → w 182 k = pm_sb (c k)
/-- a program that can be typed, with what it means -/
def pf_PR (gs : ps_G) (t : pt_T) (la li si nd : Nat) (fb : Nat → pt_T) (sb : pf_sT) (mk : Nat) : Prop := pn_V gs t la li si nd ∧ pf_G gs t la li si fb sb ∧ (∃ r, pv_P r gs t) ∧ mk < 2 ^ (gs.length + la) ∧ ∀ f, mk.testBit f = true ↔ pf_M fb t f
theorem pm_read_0 {c : Nat → Int} {n : Nat} {w : fa_W} (ht : pm_tp c n w) : ∃ w1, fm_Mod_read w = pm_rdK w1 ∧ pm_tx c n (fa_st w1 181 31 (fa_bi false)) ∧ w1 181 0 = 0 ∧ w1 181 2 = 0 ∧ ∀ i j, i ≠ 196 → ¬ (i = 181 ∧ (j = 0 ∨ j = 2 ∨ j = 25)) → w1 i j = w i j := by
  obtain ⟨h1, h2, h3, h4⟩ := ht
  obtain ⟨w0, hw0⟩ : ∃ w0, w0 = fa_st (fa_st w 181 0 0) 181 25 ((fa_st w 181 0 0) 181 2) := ⟨_, rfl⟩
  have o0 : ∀ i j, ¬ (i = 181 ∧ (j = 0 ∨ j = 25)) → w0 i j = w i j := fun i j p => by rw [hw0, fa_st_ne (by omega), fa_st_ne (by omega)]
  have L := pm_read_l h2 n 0 fa_FU w0 (by omega) (by unfold fa_FU; omega) (by rw [o0 _ _ (by omega)]; exact h3)
  obtain ⟨c1, c2⟩ := pm_cp_at (dst := 196) (src := 182) (by omega) n 0 w0
  refine ⟨fa_st (pm_cp 196 182 n 0 w0) 181 2 0, ?_, ⟨h1, by omega, ?_, fun k hk => ?_⟩, ?_, fa_st_eq _ _ _ _, fun i j p q => ?_⟩
  · unfold fm_Mod_read
    rw [pf_let_eq, pf_let_eq, ← hw0]
    exact L
  · rw [fa_st_ne (by omega), fa_st_ne (by omega), c1 _ _ (by omega), hw0, fa_st_eq, fa_st_ne (by omega)]
    exact h3
  · rw [fa_st_ne (by omega), fa_st_ne (by omega), c2 k (by omega) (by omega), o0 _ _ (by omega), h4 k hk]
    exact pm_i2b_sb (h1.2 k hk)
  · rw [fa_st_ne (by omega), c1 _ _ (by omega), hw0, fa_st_ne (by omega), fa_st_eq]
  · rw [fa_st_ne (by omega), c1 _ _ (by omega), o0 _ _ (by omega)]
theorem pm_read_back {gs : ps_G} {t : pt_T} {la li si nd mk : Nat} {fb : Nat → pt_T} {sb : pf_sT} {w0 w1 w : fa_W} (hP : pf_PR gs t la li si nd fb sb mk) (hK : pm_KT gs t la li si nd w0) (x y : Int) (f1 : pm_rg w1 w) (f0 : ∀ i j, i ≠ 196 → ¬ (i = 181 ∧ (j = 0 ∨ j = 2 ∨ j = 25)) → w1 i j = w0 i j) (h2 : w1 181 2 = 0) : ∃ w', fm_Mod_read_j78 x (fa_st w 181 69 y) = some (0, w') ∧ w' 181 0 = x ∧ w' 181 69 = y ∧ w' 181 2 = 0 ∧ w' 181 70 = w0 181 70 ∧ pm_IM gs t la li si nd fb sb mk w' ∧ pm_KT gs t la li si nd w' ∧ ∀ i j, (i ≤ 180 ∨ i = 197 ∨ 225 ≤ i) → w' i j = w0 i j := by
  obtain ⟨hV, hG, hr, hmk, hM⟩ := hP
  obtain ⟨w2, hw2⟩ : ∃ w2, w2 = fa_st (fa_st w 181 69 y) 181 0 x := ⟨_, rfl⟩
  have o2 : ∀ i j, ¬ (i = 181 ∧ (j = 0 ∨ j = 69)) → w2 i j = w i j := fun i j p => by rw [hw2, fa_st_ne (by omega), fa_st_ne (by omega)]
  have K2 : pm_KT gs t la li si nd w2 := pm_KT_ob (fun j => by rw [o2 _ _ (by omega), f1.1 224 j (by omega), f0 224 j (by omega) (by omega)]) (by rw [o2 _ _ (by omega), f1.2 72 (by omega), f0 181 72 (by omega) (by omega)]) hK
  obtain ⟨w', q1, q2, q3, q4, q5⟩ := pm_goesBack hV hG hr hmk hM K2
  refine ⟨w', ?_, ?_, ?_, ?_, ?_, q2, q3, fun i j p => ?_⟩
  · unfold fm_Mod_read_j78
    rw [pf_let_eq, ← hw2, q1]
    rfl
  · rw [q5 0 (by omega), hw2, fa_st_eq]
  · rw [q5 69 (by omega), hw2, fa_st_ne (by omega), fa_st_eq]
  · rw [q5 2 (by omega), o2 _ _ (by omega), f1.2 2 (by omega), h2]
  · rw [q5 70 (by omega), o2 _ _ (by omega), f1.2 70 (by omega), f0 181 70 (by omega) (by omega)]
  · rw [q4 i j (by omega), o2 _ _ (by omega), f1.1 i j (by omega), f0 i j (by omega) (by omega)]
theorem pm_read_bad {c : Nat → Int} {n z : Nat} {gs : ps_G} {t : pt_T} {la li si nd mk : Nat} {fb : Nat → pt_T} {sb : pf_sT} {w : fa_W} (hP : pf_PR gs t la li si nd fb sb mk) (hK : pm_KT gs t la li si nd w) (ht : pm_tp c n w) (h : ps_all c n false 9 [] ps_S0 = some (.error z)) : ∃ w', fm_Mod_read w = some (0, w') ∧ w' 181 0 = 1 ∧ w' 181 69 = (z : Int) ∧ w' 181 2 = 0 ∧ w' 181 70 = w 181 70 ∧ pm_IM gs t la li si nd fb sb mk w' ∧ pm_KT gs t la li si nd w' ∧ ∀ i j, (i ≤ 180 ∨ i = 197 ∨ 225 ≤ i) → w' i j = w i j := by
  have h400 := ht.2.1
  obtain ⟨w1, a1, a2, a3, a4, a5⟩ := pm_read_0 ht
  obtain ⟨w2, b1, b2, b3, b4⟩ := pm_readsAll_bad a2 h
  have rg : pm_rg w1 w2 := ⟨fun i j p => b4.1 i j (by omega) (by omega), fun j p => b4.2 j (by omega)⟩
  obtain ⟨w', q1, q2⟩ := pm_read_back hP hK 1 (w2 181 28) rg a5 a4
  rw [b2] at q2
  refine ⟨w', ?_, q2⟩
  rw [a1, ← q1]
  unfold pm_rdK
  rw [b1, Option.bind_some]
  refine (if_neg (show ¬ false = true from Bool.false_ne_true)).trans (if_neg ?_)
  show ¬ fa_wr (w2 181 28) = -1
  rw [b2, pb_wr (by omega)]
  omega
theorem pm_read_ok {c : Nat → Int} {n : Nat} {gs : ps_G} {t : pt_T} {la li si nd mk : Nat} {fb : Nat → pt_T} {sb : pf_sT} {G : ps_G} {T : pt_T} {s : ps_S} {fb' : Nat → pt_T} {sb' : pf_sT} {w : fa_W} (hP : pf_PR gs t la li si nd fb sb mk) (hK : pm_KT gs t la li si nd w) (ht : pm_tp c n w) (h : ps_all c n false 9 [] ps_S0 = some (.ok (G, T, s))) (hV : pn_V (pk_rnG G.length G) (pk_rn G.length T) s.2.2.1 s.2.2.2.1.length s.2.2.2.2.2.1 s.2.2.2.2.2.2) (hG : pf_G (pk_rnG G.length G) (pk_rn G.length T) s.2.2.1 s.2.2.2.1.length s.2.2.2.2.2.1 fb' sb') : ((¬ ∃ r, pv_P r (pk_rnG G.length G) (pk_rn G.length T)) ∧ ∃ w', fm_Mod_read w = some (0, w') ∧ w' 181 0 = 2 ∧ w' 181 69 = -1 ∧ w' 181 2 = 0 ∧ w' 181 70 = w 181 70 ∧ pm_IM gs t la li si nd fb sb mk w' ∧ pm_KT gs t la li si nd w' ∧ ∀ i j, (i ≤ 180 ∨ i = 197 ∨ 225 ≤ i) → w' i j = w i j) ∨ ((∃ r, pv_P r (pk_rnG G.length G) (pk_rn G.length T)) ∧ ∃ w' mk', fm_Mod_read w = some ((((pk_rnG G.length G).length + s.2.2.1 : Nat) : Int), w') ∧ w' 181 0 = 0 ∧ w' 181 69 = -1 ∧ w' 181 2 = 0 ∧ w' 181 70 = 0 ∧ (mk' < 2 ^ ((pk_rnG G.length G).length + s.2.2.1) ∧ ∀ f, mk'.testBit f = true ↔ pf_M fb' (pk_rn G.length T) f) ∧ pm_IM (pk_rnG G.length G) (pk_rn G.length T) s.2.2.1 s.2.2.2.1.length s.2.2.2.2.2.1 s.2.2.2.2.2.2 fb' sb' mk' w' ∧ pm_KT (pk_rnG G.length G) (pk_rn G.length T) s.2.2.1 s.2.2.2.1.length s.2.2.2.2.2.1 s.2.2.2.2.2.2 w' ∧ ∀ i j, (i ≤ 180 ∨ i = 197 ∨ 225 ≤ i) → w' i j = w i j) := by
  have h400 := ht.2.1
  have hx := ht.1
  have tw := ps_all_tw hx h
  obtain ⟨w1, a1, a2, a3, a4, a5⟩ := pm_read_0 ht
  rcases pm_readsAll_all a2 h tw hV hG with ⟨n1, w2, b1, b2, b3⟩ | ⟨n1, w2, mk', b1, b2, b3, b4, b5⟩
  · obtain ⟨w', q1, q2⟩ := pm_read_back hP hK 2 (w2 181 28) b3 a5 a4
    rw [b2] at q2
    refine Or.inl ⟨n1, w', ?_, q2⟩
    rw [a1, ← q1]
    unfold pm_rdK
    rw [b1, Option.bind_some]
    refine (if_neg (show ¬ false = true from Bool.false_ne_true)).trans (if_pos ?_)
    show fa_wr (w2 181 28) = -1
    rw [b2, pb_wr1]
  · obtain ⟨w3, hw3⟩ : ∃ w3, w3 = fa_st w2 181 69 (w2 181 28) := ⟨_, rfl⟩
    have o3 : ∀ i j, ¬ (i = 181 ∧ j = 69) → w3 i j = w2 i j := fun i j p => by rw [hw3, fa_st_ne p]
    have e25 : w3 181 25 = (n : Int) := by
      rw [o3 _ _ (by omega), b5.2 25 (by omega)]
      have := a2.2.2.1
      rw [fa_st_ne (by omega)] at this
      exact this
    have e196 : ∀ k, k < n → w3 196 k = pm_sb (c k) := fun k hk => by
      rw [o3 _ _ (by omega), b5.1 196 k (by omega)]
      have := a2.2.2.2 k hk
      rw [fa_st_ne (by omega)] at this
      exact this
    obtain ⟨w4, q1, q2, q3, q4, q5⟩ := pm_keeps hx (by omega) e25 e196
    have IM : pm_IM (pk_rnG G.length G) (pk_rn G.length T) s.2.2.1 s.2.2.2.1.length s.2.2.2.2.2.1 s.2.2.2.2.2.2 fb' sb' mk' w4 := ⟨pm_AN_ob hV hG (fun i j p => by rw [q5 i j (by omega) (by omega), o3 _ _ (by omega)]) (fun j p q => by rw [q5 181 j (by omega) (by omega), o3 _ _ (by omega)]) b4.1, pm_CD_ob hG.2.1 hG.2.2.2.1.1 (fun i j p q => by rw [q5 i j (by omega) (by omega), o3 _ _ (by omega)]) b4.2⟩
    have p17 := IM.1.1.2.1
    have p18 := IM.1.1.2.2.1
    refine Or.inr ⟨n1, w4, mk', ?_, ?_, ?_, ?_, q4, b3, IM, ⟨c, n, G, T, s, hx, by omega, q2, q3, ps_all_free 9 [] ps_S0 _ h, tw, rfl, rfl, rfl, rfl, rfl, rfl⟩, fun i j p => ?_⟩
    · rw [a1]
      unfold pm_rdK
      rw [b1, Option.bind_some, if_pos rfl, ← hw3, q1, Option.bind_some]
      show some (w4 181 17 + w4 181 18, w4) = _
      rw [p17, p18]
      rfl
    · rw [q5 _ _ (by omega) (by omega), o3 _ _ (by omega), b5.2 0 (by omega), a3]
    · rw [q5 _ _ (by omega) (by omega), hw3, fa_st_eq, b2]
    · rw [q5 _ _ (by omega) (by omega), o3 _ _ (by omega), b5.2 2 (by omega), a4]
    · rw [q5 i j (by omega) (by omega), o3 _ _ (by omega), b5.1 i j (by omega), a5 i j (by omega) (by omega)]
