/-! the reference's reading and its analyses, up to its code -/
theorem pm_Pw_V {gs : ps_G} {t : pt_T} {b la li si nd : Nat} {w : fa_W} (hb : b + pt_sz t = nd) (h : pm_V gs t b la li si nd w) : pm_Pw gs t la li si nd w := by
  obtain ⟨h1, h2, h3, h4, h5, h6, h7, _, h9, h10⟩ := h
  exact ⟨h1, h2, h3, h4, h5, h6, h7, h9, b, hb, h10⟩
/-- what reading and analysing leave -/
def pm_rf (w w' : fa_W) : Prop := (∀ i j, (i ≤ 180 ∨ i = 182 ∨ i = 183 ∨ i = 196 ∨ i = 197 ∨ i = 198 ∨ 221 ≤ i) → i ≠ 198 → w' i j = w i j) ∧ ∀ j, (j ≤ 15 ∨ (22 ≤ j ∧ j ≤ 25) ∨ j = 32 ∨ (36 ≤ j ∧ j ≤ 42) ∨ (45 ≤ j ∧ j ≤ 51) ∨ (56 ≤ j ∧ j ≤ 63) ∨ 65 ≤ j) → w' 181 j = w 181 j
theorem pm_readsAll_bad {c : Nat → Int} {n z : Nat} {fr : Bool} {w : fa_W} (ht : pm_tx c n (fa_st w 181 31 (fa_bi fr))) (h : ps_all c n fr 9 [] ps_S0 = some (.error z)) : ∃ w', fm_Mod_readsAll fr w = some (false, w') ∧ w' 181 28 = (z : Int) ∧ z ≤ n ∧ pm_rf w w' := by
  have hfr : fa_st w 181 31 (fa_bi fr) 181 31 ≠ 0 ↔ fr = true := by
    rw [fa_st_eq]
    cases fr with
    | false => exact ⟨fun q => absurd rfl q, fun q => by cases q⟩
    | true => exact ⟨fun _ => rfl, fun _ => by decide⟩
  obtain ⟨q, e1, hQ⟩ := pm_reads_R ht hfr (by rw [h]; exact fun q => by cases q)
  rw [h] at hQ
  obtain ⟨a, w1⟩ := q
  have q1 : a = false := hQ.1
  have q3 : pm_fw (fa_st w 181 31 (fa_bi fr)) w1 := hQ.2.2.2
  refine ⟨w1, ?_, hQ.2.2.1, hQ.2.1, fun i j p p' => ?_, fun j p => ?_⟩
  · unfold fm_Mod_readsAll
    rw [pf_let_eq, e1, pb_bds, q1]
    rfl
  · rw [q3.1 i j (by omega), fa_st_ne (by omega)]
  · rw [q3.2 j (by omega), fa_st_ne (by omega)]
theorem pm_readsAll_ok {c : Nat → Int} {n : Nat} {fr : Bool} {gs : ps_G} {t : pt_T} {s : ps_S} {fb : Nat → pt_T} {sb : pf_sT} {w : fa_W} (ht : pm_tx c n (fa_st w 181 31 (fa_bi fr))) (h : ps_all c n fr 9 [] ps_S0 = some (.ok (gs, t, s))) (tt : pt_tw t) (hV : pn_V (pk_rnG gs.length gs) (pk_rn gs.length t) s.2.2.1 s.2.2.2.1.length s.2.2.2.2.2.1 s.2.2.2.2.2.2) (hG : pf_G (pk_rnG gs.length gs) (pk_rn gs.length t) s.2.2.1 s.2.2.2.1.length s.2.2.2.2.2.1 fb sb) : ((¬ ∃ r, pv_P r (pk_rnG gs.length gs) (pk_rn gs.length t)) ∧ ∃ w', fm_Mod_readsAll fr w = some (false, w') ∧ w' 181 28 = -1 ∧ pm_rf w w') ∨ ((∃ r, pv_P r (pk_rnG gs.length gs) (pk_rn gs.length t)) ∧ ∃ w' mk, fm_Mod_readsAll fr w = (((fm_Mod_compilesAll w').bind fun w9 => some w9).bind fun w10 => fm_Mod_readsAll_j29 fr w10) ∧ w' 181 44 = 1 ∧ w' 181 28 = -1 ∧ (mk < 2 ^ ((pk_rnG gs.length gs).length + s.2.2.1) ∧ ∀ f, mk.testBit f = true ↔ pf_M fb (pk_rn gs.length t) f) ∧ pm_AN (pk_rnG gs.length gs) (pk_rn gs.length t) s.2.2.1 s.2.2.2.1.length s.2.2.2.2.2.1 s.2.2.2.2.2.2 fb sb mk w' ∧ pm_rf w w') := by
  have hfr : fa_st w 181 31 (fa_bi fr) 181 31 ≠ 0 ↔ fr = true := by
    rw [fa_st_eq]
    cases fr with
    | false => exact ⟨fun q => absurd rfl q, fun q => by cases q⟩
    | true => exact ⟨fun _ => rfl, fun _ => by decide⟩
  obtain ⟨q, e1, hQ⟩ := pm_reads_R ht hfr (by rw [h]; exact fun q => by cases q)
  rw [h] at hQ
  obtain ⟨a, w1⟩ := q
  have q1 : a = true := hQ.1
  obtain ⟨k1, _, hc, hPV0⟩ := hQ.2.1
  have hPV : pm_V (pk_rnG gs.length gs) (pk_rn gs.length t) k1.2.2.2 s.2.2.1 s.2.2.2.1.length s.2.2.2.2.2.1 s.2.2.2.2.2.2 w1 := hPV0
  have q3 : pm_fw (fa_st w 181 31 (fa_bi fr)) w1 := hQ.2.2
  have m := pk_can_mono t tt _ _ hc
  have sz := (pk_rn_tw gs.length t tt).2
  have e28 : w1 181 28 = -1 := hPV.2.2.2.2.2.2.2.1
  have W1 := pm_Pw_V (by rw [sz]; exact m.2.2.2.symm) hPV
  obtain ⟨cl, w2, e2, e44, t2, n2, f2⟩ := pm_typesAll hV W1
  have start : fm_Mod_readsAll fr w = (if decide (w2 181 44 ≠ 0) = true then ((fm_Mod_analyses w2).bind fun w10 => fm_Mod_readsAll_j29 fr w10) else fm_Mod_readsAll_j29 fr w2) := by
    unfold fm_Mod_readsAll
    rw [pf_let_eq, e1, pb_bds, q1, if_pos rfl, e2, Option.bind_some]
  cases cl with
  | true =>
    refine Or.inl ⟨n2 rfl, w2, ?_, (f2 _ _ (by omega) (by omega)).trans e28, fun i j p p' => ?_, fun j p => ?_⟩
    · have z : w2 181 44 = 0 := e44
      rw [start, z, if_neg (by decide)]
      unfold fm_Mod_readsAll_j29
      rw [z]
      rfl
    · rw [f2 i j (by omega) (by omega), q3.1 i j (by omega), fa_st_ne (by omega)]
    · rw [f2 181 j (by omega) (by omega), q3.2 j (by omega), fa_st_ne (by omega)]
  | false =>
    obtain ⟨hr, TV⟩ := t2 rfl
    have z : w2 181 44 = 1 := e44
    have W2 := pm_Pw_ob hV (fun i j p q => f2 i j (by omega) (by omega)) (fun j p q => f2 181 j (by omega) (by omega)) W1
    obtain ⟨w3, mk, e3, mkM, AN, f3⟩ := pm_analyses1 hV hG W2 TV
    refine Or.inr ⟨hr, w3, mk, ?_, (f3 _ _ (by omega) (by omega)).trans z, (f3 _ _ (by omega) (by omega)).trans ((f2 _ _ (by omega) (by omega)).trans e28), mkM, AN, fun i j p p' => ?_, fun j p => ?_⟩
    · rw [start, z, if_pos (by decide), e3]
    · rw [f3 i j (by omega) (by omega), f2 i j (by omega) (by omega), q3.1 i j (by omega), fa_st_ne (by omega)]
    · rw [f3 181 j (by omega) (by omega), f2 181 j (by omega) (by omega), q3.2 j (by omega), fa_st_ne (by omega)]
