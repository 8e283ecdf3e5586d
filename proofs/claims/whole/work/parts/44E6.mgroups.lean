/-! GROUPS by the reference -/
def pm_GL (nf sp : Nat) (l : List Nat) (w : fa_W) : Prop := w 216 sp = (l.length : Int) ∧ ∀ f, f < nf → w 215 (24 * sp + f) = pf_fi f l 0
def pm_gs (sp : Nat) (w w' : fa_W) : Prop := ∀ i j, ¬ (i = 215 ∧ 24 * sp ≤ j ∧ j < 24 * sp + 24) → ¬ (i = 216 ∧ j = sp) → w' i j = w i j
theorem pm_lg_166 {nf sp c set x2 : Nat} {fi : Nat → Int} {w0 : fa_W} {K : Int → fa_W → Option fa_W} (h24 : nf ≤ 24) (hsp : sp < 3) (hset : set < 2 ^ nf) (hc : c < 24) (h17 : w0 181 17 + w0 181 18 = (nf : Int)) (h216 : w0 216 sp = (c : Int)) : ∀ (d k F : Nat) (w : fa_W), nf = k + d → d < F → (∀ i j, ¬ (i = 215 ∧ 24 * sp ≤ j ∧ j < 24 * sp + 24) → w i j = w0 i j) → (∀ f, f < nf → w 215 (24 * sp + f) = if f < k ∧ set.testBit f = true then (c : Int) else fi f) → ∃ w', fm_Mod_laysGroups_l166 (sp : Int) K F (x2 : Int) (set : Int) (k : Int) w = K ((x2 : Int) + 1) w' ∧ pm_gs sp w0 w' ∧ w' 216 sp = ((c + 1 : Nat) : Int) ∧ ∀ f, f < nf → w' 215 (24 * sp + f) = if set.testBit f = true then (c : Int) else fi f := by
  have jsp : fa_ix (sp : Int) 3 = some sp := pb_ix hsp (by omega)
  intro d
  induction d with
  | zero =>
    intro k F w hk hF hf hg
    obtain ⟨F, rfl⟩ : ∃ G, F = G + 1 := ⟨F - 1, by omega⟩
    refine ⟨fa_st w 216 sp ((c + 1 : Nat) : Int), ?_, fun i j p q => (fa_st_ne (by omega)).trans (hf i j p), fa_st_eq _ _ _ _, fun f hl => ?_⟩
    · unfold fm_Mod_laysGroups_l166 fm_Mod_functions
      rw [hf 181 17 (by omega), hf 181 18 (by omega), h17, pb_wr (by omega), pb_wr (by omega), if_pos (by omega), jsp, Option.bind_some, Option.bind_some, hf 216 sp (by omega), h216, pf_let_eq, pf_let_eq]
      rfl
    · rw [fa_st_ne (by omega), hg f hl]
      by_cases e : set.testBit f = true
      · rw [if_pos ⟨by omega, e⟩, if_pos e]
      · rw [if_neg (fun q => e q.2), if_neg e]
  | succ d ih =>
    intro k F w hk hF hf hg
    obtain ⟨F, rfl⟩ : ∃ G, F = G + 1 := ⟨F - 1, by omega⟩
    have nx : ((k : Nat) : Int) + 1 = ((k + 1 : Nat) : Int) := by omega
    unfold fm_Mod_laysGroups_l166 fm_Mod_functions
    rw [hf 181 17 (by omega), hf 181 18 (by omega), h17, pb_wr (by omega), pb_wr (by omega), if_neg (by omega), pf_hd (pf_lt24 (pf_two h24 hset)) (by omega)]
    by_cases e : set.testBit k = true
    · rw [if_pos e, jsp, Option.bind_some, show (24 : Int) * (sp : Int) + (k : Int) = ((24 * sp + k : Nat) : Int) by omega, pb_ix (by omega) (by omega), Option.bind_some, hf 216 sp (by omega), h216, pf_let_eq, pf_let_eq, nx]
      refine ih (k + 1) F _ (by omega) (by omega) (fun i j p => (fa_st_ne (by omega)).trans (hf i j p)) (fun f hl => ?_)
      by_cases ef : f = k
      · rw [ef, fa_st_eq, if_pos ⟨by omega, e⟩]
      · rw [fa_st_ne (by omega), hg f hl]
        by_cases c2 : f < k ∧ set.testBit f = true
        · rw [if_pos c2, if_pos ⟨by omega, c2.2⟩]
        · rw [if_neg c2, if_neg (fun q => c2 ⟨by omega, q.2⟩)]
    · rw [if_neg e, pf_let_eq, nx]
      refine ih (k + 1) F w (by omega) (by omega) hf (fun f hl => ?_)
      rw [hg f hl]
      by_cases c2 : f < k ∧ set.testBit f = true
      · rw [if_pos c2, if_pos ⟨by omega, c2.2⟩]
      · rw [if_neg c2, if_neg (fun q => c2 ⟨by
          have : f ≠ k := fun z => e (z ▸ q.2)
          omega, q.2⟩)]
theorem pm_lg_35 {nf mk sp : Nat} {T r : Nat → Nat → Prop} {w0 : fa_W} (h24 : nf ≤ 24) (hsp : sp < 3) (hmk : mk < 2 ^ nf) (h17 : w0 181 17 + w0 181 18 = (nf : Int)) (h52 : w0 181 52 = (mk : Int)) (hT : ∀ w, pm_gs sp w0 w → pm_gT nf mk sp T w) (hsym : ∀ a b, T a b → T b a) (hr : pg_H (fun x => mk.testBit x = true) T r) : ∀ (d k F : Nat) (w : fa_W), nf = k + d → d < F → pm_gs sp w0 w → pm_GL nf sp (pg_l mk (pg_mt (fun x => mk.testBit x = true) r nf) k) w → ∃ w', fm_Mod_laysGroups_l35 (sp : Int) F (k : Int) w = some w' ∧ pm_gs sp w0 w' ∧ pm_GL nf sp (pg_l mk (pg_mt (fun x => mk.testBit x = true) r nf) nf) w' := by
  obtain ⟨FU, hFU⟩ : ∃ F, F = fa_FU := ⟨_, rfl⟩
  have hF2 : 1000 < FU := by rw [hFU]; unfold fa_FU; omega
  have hE : pg_E mk (pg_mt (fun x => mk.testBit x = true) r nf) nf := pg_E_of hr.1 (fun f _ => Iff.rfl)
  have heq : ∀ f, pg_mt (fun x => mk.testBit x = true) r nf f = pg_mt (fun x => mk.testBit x = true) r nf f := fun _ => rfl
  generalize hmt : pg_mt (fun x => mk.testBit x = true) r nf = mt at hE
  intro d
  induction d with
  | zero =>
    intro k F w hk hF hf hG
    obtain ⟨F, rfl⟩ : ∃ G, F = G + 1 := ⟨F - 1, by omega⟩
    have ek : k = nf := by omega
    rw [ek] at hG
    refine ⟨w, ?_, hf, hG⟩
    unfold fm_Mod_laysGroups_l35 fm_Mod_functions
    rw [hf 181 17 (by omega) (by omega), hf 181 18 (by omega) (by omega), h17, pb_wr (by omega), pb_wr (by omega), if_pos (by omega)]
  | succ d ih =>
    intro k F w hk hF hf hG
    obtain ⟨F, rfl⟩ : ∃ G, F = G + 1 := ⟨F - 1, by omega⟩
    have nx : ((k : Nat) : Int) + 1 = ((k + 1 : Nat) : Int) := by omega
    have len := pg_l_len mk mt k
    have nextv := pg_l_s mk mt k
    have h17' : w 181 17 + w 181 18 = (nf : Int) := by rw [hf 181 17 (by omega) (by omega), hf 181 18 (by omega) (by omega)]; exact h17
    have h52' : w 181 52 = (mk : Int) := (hf 181 52 (by omega) (by omega)).trans h52
    unfold fm_Mod_laysGroups_l35 fm_Mod_functions fm_Mod_groupAt
    rw [← hFU, h17', pb_wr (by omega), pb_wr (by omega), if_neg (by omega), h52', pf_hd (pf_lt24 (pf_two h24 hmk)) (by omega)]
    cases c : mk.testBit k with
    | false =>
      rw [if_neg (by decide), pf_let_eq, nx]
      refine ih (k + 1) F w (by omega) (by omega) hf ?_
      rw [nextv, if_neg (fun q => by rw [c] at q; cases q.1)]
      exact hG
    | true =>
      rw [if_pos rfl, show (24 : Int) * (sp : Int) + (k : Int) = ((24 * sp + k : Nat) : Int) by omega, pb_ix (by omega) (by omega), Option.bind_some, Option.bind_some, hG.2 k (by omega)]
      rcases pf_fi_cases k (pg_l mk mt k) 0 with ⟨e2, no⟩ | ⟨i, i1, e2, _⟩
      · have lk : 2 ^ k < 2 ^ nf := Nat.pow_lt_pow_right (by decide) (by omega)
        have q74 := pm_lg_74 (sp := sp) (f := k) (w := w) (K := fun x2 w9 => fm_Mod_laysGroups_l35 (sp : Int) F x2 w9) hFU h24 (by omega) c hmk h17' h52' (hT w hf) hsym hr 25 FU (2 ^ k) 0 (by omega) (by omega) lk (Nat.two_pow_pos _) (pf_one.mpr rfl) (fun a q => by
          have : a = k := pf_one.mp q
          rw [this]; exact ⟨c, hr.1.1 k⟩) (fun a q => by rw [Nat.zero_testBit] at q; cases q) (fun a b q => by rw [Nat.zero_testBit] at q; cases q)
        have z0 : ((0 : Nat) : Int) = 0 := rfl
        rw [z0] at q74
        obtain ⟨e1', e2', e3'⟩ := hE k (by omega) c
        obtain ⟨r1, r2⟩ := pg_I_of hE k (by omega)
        rw [e2, pb_wr1, if_pos rfl, pf_shl1 (by omega), pf_let_eq, q74, hmt]
        obtain ⟨w1, a1, a2, a3, a4⟩ := pm_lg_166 (sp := sp) (x2 := k) (c := (pg_l mk mt k).length) (fi := fun f => pf_fi f (pg_l mk mt k) 0) (w0 := w) (K := fun x2 w9 => fm_Mod_laysGroups_l35 (sp : Int) F x2 w9) h24 hsp e1' (by omega) h17' hG.1 nf 0 FU w (by omega) (by omega) (fun _ _ _ => rfl) (fun f hl => by rw [if_neg (fun q => by omega)]; exact hG.2 f hl)
        rw [z0] at a1
        rw [a1]
        try dsimp only
        rw [nx]
        refine ih (k + 1) F w1 (by omega) (by omega) (fun i j p q => (a2 i j p q).trans (hf i j p q)) ?_
        rw [nextv, if_pos ⟨c, e2⟩]
        refine ⟨by rw [List.length_append]; exact a3, fun f hl => ?_⟩
        rw [a4 f hl, pf_fi_snoc]
        by_cases em : (mt k).testBit f = true
        · have fresh : pf_fi f (pg_l mk mt k) 0 = -1 := by
            rcases pf_fi_cases f (pg_l mk mt k) 0 with ⟨e, _⟩ | ⟨i, i1, _, i3⟩
            · exact e
            · exfalso
              have hmem : (pg_l mk mt k).getD i 0 ∈ pg_l mk mt k := by
                rw [List.getD_eq_getElem?_getD, List.getElem?_eq_getElem i1]; exact List.getElem_mem i1
              obtain ⟨g, g1, g2, g3⟩ := r1 _ hmem
              rw [g3] at i3
              have q := ((hE g (by omega) g2).2.2 f i3).2.2
              have q2 := (e3' f em).2.2
              refine no _ hmem ?_
              rw [g3, ← q, q2]
              exact e2'
          rw [if_pos em, if_pos fresh, if_pos em, Nat.zero_add]
        · rw [if_neg em, if_neg em]
          split
          · rename_i e3
            exact e3
          · rfl
      · rw [e2, pb_wr (by omega), if_neg (by omega), pf_let_eq, nx]
        refine ih (k + 1) F w (by omega) (by omega) hf ?_
        rw [nextv, if_neg (fun q => by rw [e2] at q; have := q.2; omega)]
        exact hG
theorem pm_lg_9 {sp nf : Nat} {w0 : fa_W} {FU : Nat} (hFU : FU = fa_FU) (hsp : sp < 3) : ∀ (d k F : Nat) (w : fa_W), 24 = k + d → d < F → pm_gs sp w0 w → (∀ f, f < k → w 215 (24 * sp + f) = -1) → w 216 sp = 0 → ∃ w', fm_Mod_laysGroups_l9 (sp : Int) F (k : Int) w = fm_Mod_laysGroups_l35 (sp : Int) FU 0 w' ∧ pm_gs sp w0 w' ∧ (∀ f, f < 24 → w' 215 (24 * sp + f) = -1) ∧ w' 216 sp = 0 := by
  intro d
  induction d with
  | zero =>
    intro k F w hk hF hf hc h2
    obtain ⟨F, rfl⟩ : ∃ G, F = G + 1 := ⟨F - 1, by omega⟩
    refine ⟨w, ?_, hf, fun f hl => hc f (by omega), h2⟩
    unfold fm_Mod_laysGroups_l9
    rw [pb_wr (by omega), if_pos (by omega), ← hFU]
  | succ d ih =>
    intro k F w hk hF hf hc h2
    obtain ⟨F, rfl⟩ : ∃ G, F = G + 1 := ⟨F - 1, by omega⟩
    unfold fm_Mod_laysGroups_l9
    rw [pb_wr (by omega), if_neg (by omega), show (24 : Int) * (sp : Int) + (k : Int) = ((24 * sp + k : Nat) : Int) by omega, pb_ix (by omega) (by omega), Option.bind_some, pf_let_eq, pf_let_eq, show ((k : Nat) : Int) + 1 = ((k + 1 : Nat) : Int) by omega]
    refine ih (k + 1) F _ (by omega) (by omega) (fun i j p q => (fa_st_ne (by omega)).trans (hf i j p q)) (fun f hl => ?_) ((fa_st_ne (by omega)).trans h2)
    by_cases e : f = k
    · rw [e, fa_st_eq]
    · rw [fa_st_ne (by omega)]; exact hc f (by omega)
theorem pm_laysGroups {nf mk sp : Nat} {T r : Nat → Nat → Prop} {w : fa_W} (h24 : nf ≤ 24) (hsp : sp < 3) (hmk : mk < 2 ^ nf) (h17 : w 181 17 + w 181 18 = (nf : Int)) (h52 : w 181 52 = (mk : Int)) (hT : ∀ w', pm_gf w w' → pm_gT nf mk sp T w') (hsym : ∀ a b, T a b → T b a) (hr : pg_H (fun x => mk.testBit x = true) T r) : ∃ w', fm_Mod_laysGroups (sp : Int) w = some w' ∧ pm_gs sp w w' ∧ pm_GL nf sp (pg_l mk (pg_mt (fun x => mk.testBit x = true) r nf) nf) w' := by
  obtain ⟨FU, hFU⟩ : ∃ F, F = fa_FU := ⟨_, rfl⟩
  have hF2 : 1000 < FU := by rw [hFU]; unfold fa_FU; omega
  have z0 : ((0 : Nat) : Int) = 0 := rfl
  unfold fm_Mod_laysGroups
  rw [← hFU, pb_ix hsp (by omega), Option.bind_some, pf_let_eq]
  obtain ⟨w1, a1, a2, a3, a4⟩ := pm_lg_9 (nf := nf) (w0 := w) hFU hsp 24 0 FU (fa_st w 216 sp 0) (by omega) (by omega) (fun i j p q => fa_st_ne (by omega)) (fun f hf => by omega) (fa_st_eq _ _ _ _)
  rw [z0] at a1
  rw [a1]
  obtain ⟨w2, b1, b2, b3⟩ := pm_lg_35 (w0 := w) h24 hsp hmk h17 h52 (fun w' h => hT w' (fun i j p q => h i j (by omega) (by omega))) hsym hr nf 0 FU w1 (by omega) (by omega) a2 ⟨a4, fun f hf => by rw [a3 f (by omega)]; rfl⟩
  rw [z0] at b1
  exact ⟨w2, b1, b2, b3⟩
