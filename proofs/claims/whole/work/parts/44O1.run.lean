/-! what the reference keeps, carried on -/
theorem pm_AN_ob {gs : ps_G} {t : pt_T} {la li si nd mk : Nat} {fb : Nat → pt_T} {sb : pf_sT} {w w' : fa_W} (hV : pn_V gs t la li si nd) (hG : pf_G gs t la li si fb sb) (e : ∀ i j, (184 ≤ i ∧ i ≤ 195) ∨ (199 ≤ i ∧ i ≤ 220) → w' i j = w i j) (e2 : ∀ j, 16 ≤ j → j ≤ 64 → w' 181 j = w 181 j) (h : pm_AN gs t la li si nd fb sb mk w) : pm_AN gs t la li si nd fb sb mk w' := by
  have v1 := hV.1
  have v2 := hV.2.1
  have v5 := hV.2.2.2.2.1
  obtain ⟨h1, h2, h3, h4, h5, ⟨z, z1, z2, z3⟩, cal, rg, c1, c2, c3, c4, c5⟩ := h
  refine ⟨pm_Pw_ob hV (fun i j p q => e i j (Or.inl ⟨p, q⟩)) (fun j p q => e2 j p (by omega)) h1, pm_TV_of h2 (fun i j p => ?_), ⟨?_, fun s hs => ?_⟩, fun f hf => ?_, fun sp hsp => ⟨?_, fun f hf => ?_⟩, ⟨z, z1, pf_done_ob (fun i j p => ?_) z2, z3⟩, cal, rg, fun f hf => ?_, c2, c3, c4, ⟨?_, fun f hf => ?_, fun i hi => ?_⟩⟩
  · rcases p with p | ⟨p, q⟩
    · exact e i j (by omega)
    · rw [p]; exact e2 j (by omega) (by omega)
  · rw [e2 20 (by omega) (by omega)]; exact h3.1
  · obtain ⟨s1, s2, s3, s4, s5⟩ := h3.2 s hs
    rw [e 195 s (by omega), e 209 s (by omega), e 210 s (by omega), e 211 s (by omega), e 212 s (by omega)]
    exact ⟨s1, s2, s3, s4, s5⟩
  · exact pm_FL_ob (pd_fl_len hG v5 hf) (e 214 f (by omega)) (fun j _ _ => e 213 j (by omega)) (h4 f hf)
  · rw [e 216 sp (by omega)]; exact (h5 sp hsp).1
  · rw [e 215 _ (by omega)]; exact (h5 sp hsp).2 f hf
  · rcases p with p | p | p | ⟨p, q⟩
    · exact e i j (by omega)
    · exact e i j (by omega)
    · exact e i j (by omega)
    · rw [p]; exact e2 j (by omega) (by omega)
  · rw [e 217 f (by omega)]; exact c1 f hf
  · rw [e2 64 (by omega) (by omega)]; exact c5.1
  · rw [e 219 f (by omega)]; exact c5.2.1 f hf
  · rw [e 220 i (by omega)]; exact c5.2.2 i hi
theorem pm_cd_obs {w w' : fa_W} (e : ∀ i j, 221 ≤ i → i ≤ 223 → w' i j = w i j) (t : pt_T) (tt : pt_tw t) : ∀ (c : Nat), pm_cd t c w → pm_cd t c w' := by
  induction t, tt using pt_indh with
  | num v => intro c h; exact ⟨(e _ _ (by omega) (by omega)).trans h.1, (e _ _ (by omega) (by omega)).trans h.2⟩
  | var v x => intro c h; exact ⟨(e _ _ (by omega) (by omega)).trans h.1, (e _ _ (by omega) (by omega)).trans h.2⟩
  | glo g x => intro c h; exact ⟨(e _ _ (by omega) (by omega)).trans h.1, (e _ _ (by omega) (by omega)).trans h.2⟩
  | dead d => intro c h; exact (e _ _ (by omega) (by omega)).trans h
  | lam f x b tb ih => intro c h; exact ⟨(e _ _ (by omega) (by omega)).trans h.1, (e _ _ (by omega) (by omega)).trans h.2⟩
  | ife a b d ta tb td iha ihb ihd =>
    intro c h
    obtain ⟨h1, h2, h3, h4, h5, h6, h7⟩ := h
    exact ⟨iha _ h1, (e _ _ (by omega) (by omega)).trans h2, (e _ _ (by omega) (by omega)).trans h3, ihb _ h4, (e _ _ (by omega) (by omega)).trans h5, (e _ _ (by omega) (by omega)).trans h6, ihd _ h7⟩
  | lt v x a b ta tb iha ihb =>
    intro c h
    obtain ⟨h1, h2, h3, h4⟩ := h
    exact ⟨iha _ h1, (e _ _ (by omega) (by omega)).trans h2, (e _ _ (by omega) (by omega)).trans h3, ihb _ h4⟩
  | op s a b ta tb iha ihb =>
    intro c h
    obtain ⟨h1, h2, h3, h4⟩ := h
    exact ⟨iha _ h1, ihb _ h2, (e _ _ (by omega) (by omega)).trans h3, (e _ _ (by omega) (by omega)).trans h4⟩
  | site s a b ta tb iha ihb =>
    intro c h
    obtain ⟨h1, h2, h3⟩ := h
    exact ⟨iha _ h1, ihb _ h2, (e _ _ (by omega) (by omega)).trans h3⟩
theorem pm_CD_ob {nf : Nat} {fb : Nat → pt_T} {t : pt_T} {w w' : fa_W} (tf : ∀ f, pt_tw (fb f)) (tt : pt_tw t) (e : ∀ i j, 221 ≤ i → i ≤ 223 → w' i j = w i j) (h : pm_CD nf fb t w) : pm_CD nf fb t w' := fun f hf => by
  obtain ⟨c, c1, c2, c3, c4⟩ := h f hf
  have tu := pm_cuq_tw (nf := nf) tt tf f
  exact ⟨c, c1, (e _ _ (by omega) (by omega)).trans c2, pm_cd_obs e _ tu c c3, (e _ _ (by omega) (by omega)).trans c4⟩
/-- frame of a reading, with its code -/
def pm_rg (w w' : fa_W) : Prop := (∀ i j, (i ≤ 180 ∨ i = 182 ∨ i = 183 ∨ i = 196 ∨ i = 197 ∨ 224 ≤ i) → w' i j = w i j) ∧ ∀ j, (j ≤ 15 ∨ (22 ≤ j ∧ j ≤ 25) ∨ (69 ≤ j)) → w' 181 j = w 181 j
/-- a program, kept by the reference -/
def pm_IM (gs : ps_G) (t : pt_T) (la li si nd : Nat) (fb : Nat → pt_T) (sb : pf_sT) (mk : Nat) (w : fa_W) : Prop := pm_AN gs t la li si nd fb sb mk w ∧ pm_CD (gs.length + la) fb t w
theorem pm_readsAll_all {c : Nat → Int} {n : Nat} {fr : Bool} {gs : ps_G} {t : pt_T} {s : ps_S} {fb : Nat → pt_T} {sb : pf_sT} {w : fa_W} (ht : pm_tx c n (fa_st w 181 31 (fa_bi fr))) (h : ps_all c n fr 9 [] ps_S0 = some (.ok (gs, t, s))) (tt : pt_tw t) (hV : pn_V (pk_rnG gs.length gs) (pk_rn gs.length t) s.2.2.1 s.2.2.2.1.length s.2.2.2.2.2.1 s.2.2.2.2.2.2) (hG : pf_G (pk_rnG gs.length gs) (pk_rn gs.length t) s.2.2.1 s.2.2.2.1.length s.2.2.2.2.2.1 fb sb) : ((¬ ∃ r, pv_P r (pk_rnG gs.length gs) (pk_rn gs.length t)) ∧ ∃ w', fm_Mod_readsAll fr w = some (false, w') ∧ w' 181 28 = -1 ∧ pm_rg w w') ∨ ((∃ r, pv_P r (pk_rnG gs.length gs) (pk_rn gs.length t)) ∧ ∃ w' mk, fm_Mod_readsAll fr w = some (true, w') ∧ w' 181 28 = -1 ∧ (mk < 2 ^ ((pk_rnG gs.length gs).length + s.2.2.1) ∧ ∀ f, mk.testBit f = true ↔ pf_M fb (pk_rn gs.length t) f) ∧ pm_IM (pk_rnG gs.length gs) (pk_rn gs.length t) s.2.2.1 s.2.2.2.1.length s.2.2.2.2.2.1 s.2.2.2.2.2.2 fb sb mk w' ∧ pm_rg w w') := by
  have rf : ∀ {w1 : fa_W}, pm_rf w w1 → pm_rg w w1 := fun {w1} q => ⟨fun i j p => q.1 i j (by omega) (by omega), fun j p => q.2 j (by omega)⟩
  rcases pm_readsAll_ok ht h tt hV hG with ⟨h1, w', h2, h3, h4⟩ | ⟨h1, w', mk, h2, h3, h4, h5, h6, h7⟩
  · exact Or.inl ⟨h1, w', h2, h3, rf h4⟩
  · obtain ⟨w2, q1, q2, q3⟩ := pm_compilesAll hV hG h6.1
    refine Or.inr ⟨h1, w2, mk, ?_, ?_, h5, ⟨pm_AN_ob hV hG (fun i j p => q3 i j (by omega) (by omega)) (fun j p q => q3 181 j (by omega) (by omega)) h6, q2⟩, ⟨fun i j p => (q3 i j (by omega) (by omega)).trans (h7.1 i j (by omega) (by omega)), fun j p => (q3 181 j (by omega) (by omega)).trans (h7.2 j (by omega))⟩⟩
    · rw [h2, q1, Option.bind_some, Option.bind_some]
      unfold fm_Mod_readsAll_j29
      rw [q3 181 44 (by omega) (by omega), h3]
      rfl
    · rw [q3 181 28 (by omega) (by omega)]; exact h4
theorem pm_i2bs : ∀ k : Fin 256, fa_i2b (pm_sb ((k.val : Nat) : Int)) = pm_sb ((k.val : Nat) : Int) := by decide +kernel
theorem pm_i2b_sb {x : Int} (h : 0 ≤ x ∧ x < 256) : fa_i2b (pm_sb x) = pm_sb x := by
  have := pm_i2bs ⟨x.toNat, by omega⟩
  rw [show ((x.toNat : Nat) : Int) = x by omega] at this
  exact this
/-- the text that the reference keeps -/
def pm_KT (gs : ps_G) (t : pt_T) (la li si nd : Nat) (w : fa_W) : Prop := ∃ (c : Nat → Int) (n : Nat) (G : ps_G) (T : pt_T) (s : ps_S), ps_TX c n ∧ n ≤ 40000 ∧ w 181 72 = (n : Int) ∧ (∀ k, k < n → w 224 k = pm_sb (c k)) ∧ ps_all c n true 9 [] ps_S0 = some (.ok (G, T, s)) ∧ pt_tw T ∧ gs = pk_rnG G.length G ∧ t = pk_rn G.length T ∧ la = s.2.2.1 ∧ li = s.2.2.2.1.length ∧ si = s.2.2.2.2.2.1 ∧ nd = s.2.2.2.2.2.2
theorem pm_KT_ob {gs : ps_G} {t : pt_T} {la li si nd : Nat} {w w' : fa_W} (e : ∀ j, w' 224 j = w 224 j) (e2 : w' 181 72 = w 181 72) (h : pm_KT gs t la li si nd w) : pm_KT gs t la li si nd w' := by
  obtain ⟨c, n, G, T, s, h1, h2, h3, h4, h5⟩ := h
  exact ⟨c, n, G, T, s, h1, h2, e2.trans h3, fun k hk => (e k).trans (h4 k hk), h5⟩
theorem pm_keeps {c : Nat → Int} {n : Nat} {w : fa_W} (hx : ps_TX c n) (hn : n ≤ 40000) (h25 : w 181 25 = (n : Int)) (h : ∀ k, k < n → w 196 k = pm_sb (c k)) : ∃ w', fm_Mod_keeps w = some w' ∧ w' 181 72 = (n : Int) ∧ (∀ k, k < n → w' 224 k = pm_sb (c k)) ∧ w' 181 70 = 0 ∧ ∀ i j, i ≠ 224 → ¬ (i = 181 ∧ (j = 70 ∨ j = 72)) → w' i j = w i j := by
  have L := pm_keeps_l hn n 0 fa_FU (fa_st w 181 72 (w 181 25)) (by omega) (by unfold fa_FU; omega) (by rw [fa_st_ne (by omega)]; exact h25)
  obtain ⟨c1, c2⟩ := pm_cp_at (dst := 224) (src := 196) (by omega) n 0 (fa_st w 181 72 (w 181 25))
  refine ⟨fa_st (pm_cp 224 196 n 0 (fa_st w 181 72 (w 181 25))) 181 70 0, ?_, ?_, fun k hk => ?_, fa_st_eq _ _ _ _, fun i j p q => ?_⟩
  · exact L
  · rw [fa_st_ne (by omega), c1 _ _ (by omega), fa_st_eq]; exact h25
  · rw [fa_st_ne (by omega), c2 k (by omega) (by omega), fa_st_ne (by omega), h k hk]
    exact pm_i2b_sb (hx.2 k hk)
  · rw [fa_st_ne (by omega), c1 _ _ (by omega), fa_st_ne (by omega)]
theorem pm_goesBack {gs : ps_G} {t : pt_T} {la li si nd mk : Nat} {fb : Nat → pt_T} {sb : pf_sT} {w : fa_W} (hV : pn_V gs t la li si nd) (hG : pf_G gs t la li si fb sb) (hr : ∃ r, pv_P r gs t) (hmk : mk < 2 ^ (gs.length + la)) (hM : ∀ f, mk.testBit f = true ↔ pf_M fb t f) (hK : pm_KT gs t la li si nd w) : ∃ w', fm_Mod_goesBack w = some w' ∧ pm_IM gs t la li si nd fb sb mk w' ∧ pm_KT gs t la li si nd w' ∧ (∀ i j, (i ≤ 180 ∨ i = 182 ∨ i = 183 ∨ i = 197 ∨ 224 ≤ i) → w' i j = w i j) ∧ ∀ j, (j ≤ 15 ∨ 69 ≤ j) → w' 181 j = w 181 j := by
  have hK0 := hK
  obtain ⟨c, n, G, T, s, h1, h2, h3, h4, h5, h6, rfl, rfl, rfl, rfl, rfl, rfl⟩ := hK
  have L := pm_goesBack_l h2 n 0 fa_FU (fa_st w 181 25 (w 181 72)) (by omega) (by unfold fa_FU; omega) (by rw [fa_st_eq]; exact h3)
  obtain ⟨c1, c2⟩ := pm_cp_at (dst := 196) (src := 224) (by omega) n 0 (fa_st w 181 25 (w 181 72))
  obtain ⟨w1, hw1⟩ : ∃ w1, w1 = pm_cp 196 224 n 0 (fa_st w 181 25 (w 181 72)) := ⟨_, rfl⟩
  rw [← hw1] at L c1 c2
  have ht : pm_tx c n (fa_st w1 181 31 (fa_bi true)) := ⟨h1, h2, by rw [fa_st_ne (by omega), c1 _ _ (by omega), fa_st_eq]; exact h3, fun k hk => by
    rw [fa_st_ne (by omega), c2 k (by omega) (by omega), fa_st_ne (by omega), h4 k hk]
    exact pm_i2b_sb (h1.2 k hk)⟩
  rcases pm_readsAll_all ht h5 h6 hV hG with ⟨n1, _⟩ | ⟨_, w', mk', r1, r2, r3, r4, r5⟩
  · exact absurd hr n1
  · have em : mk' = mk := Nat.eq_of_testBit_eq fun f => by
      have a := r3.2 f
      have b := hM f
      cases x : mk'.testBit f <;> cases y : mk.testBit f
      · rfl
      · rw [x] at a; rw [y] at b; exact absurd (a.mpr (b.mp rfl)) (by decide)
      · rw [x] at a; rw [y] at b; exact absurd (b.mpr (a.mp rfl)) (by decide)
      · rfl
    rw [em] at r4
    have f1 : ∀ i j, (i ≤ 180 ∨ i = 182 ∨ i = 183 ∨ i = 197 ∨ 224 ≤ i) → w' i j = w i j := fun i j p => by
      rw [r5.1 i j (by omega), c1 i j (by omega), fa_st_ne (by omega)]
    have f2 : ∀ j, (j ≤ 15 ∨ 69 ≤ j) → w' 181 j = w 181 j := fun j p => by
      rw [r5.2 j (by omega), c1 181 j (by omega), fa_st_ne (by omega)]
    refine ⟨w', ?_, r4, pm_KT_ob (fun j => f1 224 j (by omega)) (f2 72 (by omega)) hK0, f1, f2⟩
    unfold fm_Mod_goesBack
    rw [pf_let_eq]
    refine L.trans ?_
    rw [r1]
    rfl
