/-! the reference looks at an EXPR, all of it -/
def pf_LQ (nf : Nat) (sb : pf_sT) (t : pt_T) (z : pf_s) (fo : Nat) (w : fa_W) (x : Option (Int × fa_W)) : Prop := ∃ (r : Nat) (w' : fa_W) (z' : pf_s) (fo' : Nat), x = some ((r : Int), w') ∧ r < 2 ^ nf ∧ pf_mc z' fo' w' ∧ pf_ch nf z fo z' fo' ∧ pf_fv (pf_ss t) w w' ∧ (∀ H R L M, pf_sd z H R L M → pf_c H R L t → (∀ f, pf_o t f → M f) → pf_sd z' H R L M ∧ ∀ f, r.testBit f = true → pf_k H R t f) ∧ (pf_Fi z' = pf_Fi z → (∀ f, r.testBit f = true ↔ pf_k (pf_b z.1) (pf_b z.2.1) t f) ∧ pf_c (pf_b z.1) (pf_b z.2.1) (fun f => z.2.2.1.testBit f = true) t ∧ (∀ f, pf_o t f → z.2.2.2.testBit f = true) ∧ ∀ s, pf_ss t s → pf_X z (sb s) s w')
theorem pf_LQ_zero {nf : Nat} {sb : pf_sT} {t : pt_T} {z : pf_s} {fo : Nat} {w : fa_W} (hm : pf_mc z fo w) (ok : pf_ok nf z) (hk : ∀ H R f, ¬ pf_k H R t f) (hc : ∀ H R L, pf_c H R L t) (ho : ∀ f, ¬ pf_o t f) (hs : ∀ s, ¬ pf_ss t s) : pf_LQ nf sb t z fo w (some (0, w)) := by
  refine ⟨0, w, z, fo, rfl, Nat.two_pow_pos nf, hm, pf_ch_refl fo ok, pf_fv_refl _ _, fun H R L M a _ _ => ⟨a, fun f h => ?_⟩, fun _ => ⟨fun f => ⟨fun h => ?_, fun h => absurd h (hk _ _ f)⟩, hc _ _ _, fun f h => absurd h (ho f), fun s h => absurd h (hs s)⟩⟩
  · rw [Nat.zero_testBit] at h; cases h
  · rw [Nat.zero_testBit] at h; cases h
theorem pf_one {k f : Nat} : (2 ^ k).testBit f = true ↔ f = k := by
  rw [Nat.testBit_two_pow]
  simp [eq_comm]
/-- a FUNCTION that is made here -/
theorem pf_LQ_made {nf f i : Nat} {sb : pf_sT} {t : pt_T} {z : pf_s} {fo : Nat} {w : fa_W} (h24 : nf ≤ 24) (hf : f < nf) (hi : i < 101) (hK : w 185 i = (f : Int)) (hm : pf_mc z fo w) (ok : pf_ok nf z) (hk : ∀ H R g, pf_k H R t g ↔ g = f) (hc : ∀ H R L, pf_c H R L t) (ho : ∀ g, pf_o t g ↔ g = f) (hs : ∀ s, ¬ pf_ss t s) : pf_LQ nf sb t z fo w (fa_bd (fm_Mod_more (w 181 52) (fa_ishl 1 (w 185 i)) w) fun v8 w9 => fa_let (fa_st w9 181 52 v8) fun w10 => (fa_ix (i : Int) 101).bind fun j11 => some (fa_ishl 1 (w10 185 j11), w10)) := by
  have hb : 2 ^ f < 2 ^ nf := Nat.pow_lt_pow_right (by decide) hf
  obtain ⟨fo1, a1, a2, a3⟩ := pf_moreM h24 hm ok hb
  refine ⟨2 ^ f, fa_st (fa_st w 181 55 (fo1 : Int)) 181 52 ((z.2.2.2 ||| 2 ^ f : Nat) : Int), _, fo1, ?_, hb, a2, a3, fun i j p q r => ?_, fun H R L M a b c => ⟨⟨a.1, a.2.1, a.2.2.1, fun g h => ?_⟩, fun g h => (hk _ _ g).mpr (pf_one.mp h)⟩, fun e => ⟨fun g => pf_one.trans (hk _ _ g).symm, hc _ _ _, fun g h => ?_, fun s h => absurd h (hs s)⟩⟩
  · rw [hK, pf_shl1 (by omega), a1]
    dsimp only [fa_bd, fa_let, Option.bind_some]
    rw [pb_ix hi (by omega)]
    dsimp only [Option.bind_some]
    rw [fa_st_ne (by omega), fa_st_ne (by omega), hK, pf_shl1 (by omega)]
  · rw [fa_st_ne (by omega), fa_st_ne (by omega)]
  · dsimp only at h
    rw [Nat.testBit_or] at h
    cases ez : z.2.2.2.testBit g with
    | true => exact a.2.2.2 g ez
    | false =>
      rw [ez, Bool.false_or] at h
      rw [pf_one.mp h]
      exact c f ((ho f).mpr rfl)
  · have e2 := congrArg (fun q : pf_s => q.2.2.2) (a3.2.2.2 e)
    dsimp only at e2
    refine pf_or_sub e2 (pf_one.mpr ((ho g).mp h))
theorem pf_site {nf s x y fo : Nat} {z : pf_s} {w : fa_W} (h24 : nf ≤ 24) (hs : s < 101) (hx : x < 2 ^ nf) (hy : y < 2 ^ nf) (h17 : w 181 17 + w 181 18 = (nf : Int)) (hm : pf_mc z fo w) (ok : pf_ok nf z) : ∃ (r : Nat) (w' : fa_W) (z' : pf_s) (fo' : Nat), fm_Mod_looksAtSite (s : Int) (x : Int) (y : Int) w = some ((r : Int), w') ∧ r < 2 ^ nf ∧ pf_mc z' fo' w' ∧ pf_ch nf z fo z' fo' ∧ (w' 212 s = 1 ∧ w' 209 s = (x : Int) ∧ w' 210 s = (y : Int) ∧ w' 211 s = (r : Int)) ∧ pf_fv (fun j => j = s) w w' ∧ (∀ H R L M, pf_sd z H R L M → (∀ f, x.testBit f = true → L f ∧ ∀ g, y.testBit g = true → H f g) → pf_sd z' H R L M ∧ ∀ g, r.testBit g = true → ∃ f, x.testBit f = true ∧ R f g) ∧ (pf_Fi z' = pf_Fi z → (∀ g, r.testBit g = true ↔ ∃ f, x.testBit f = true ∧ pf_b z.2.1 f g) ∧ ∀ f, x.testBit f = true → z.2.2.1.testBit f = true ∧ ∀ g, y.testBit g = true → pf_b z.1 f g) := by
  obtain ⟨FU, hFU⟩ : ∃ F, F = fa_FU := ⟨_, rfl⟩
  have hF2 : 1000 < FU := by rw [hFU]; unfold fa_FU; omega
  unfold fm_Mod_looksAtSite
  rw [← hFU, pb_ix (k := s) (n := 101) hs (by omega)]
  dsimp only [Option.bind_some, fa_let, fa_bi]
  rw [if_pos rfl]
  generalize hw0 : fa_st (fa_st (fa_st w 212 s 1) 209 s (x : Int)) 210 s (y : Int) = w0
  have g0 : ∀ i j, ¬ (209 ≤ i ∧ i ≤ 212 ∧ j = s) → w0 i j = w i j := fun i j p => by rw [← hw0, fa_st_ne (by omega), fa_st_ne (by omega), fa_st_ne (by omega)]
  have g1 : w0 212 s = 1 ∧ w0 209 s = (x : Int) ∧ w0 210 s = (y : Int) := by
    rw [← hw0]
    refine ⟨?_, ?_, fa_st_eq _ _ _ _⟩
    · rw [fa_st_ne (by omega), fa_st_ne (by omega), fa_st_eq]
    · rw [fa_st_ne (by omega), fa_st_eq]
  have m0 : pf_mc z fo w0 := by
    obtain ⟨m1, m2, m3, m4, m5⟩ := hm
    exact ⟨fun v hv => (g0 _ _ (by omega)).trans (m1 v hv), fun v hv => (g0 _ _ (by omega)).trans (m2 v hv), (g0 _ _ (by omega)).trans m3, (g0 _ _ (by omega)).trans m4, (g0 _ _ (by omega)).trans m5⟩
  obtain ⟨fo1, t1, t2, t3⟩ := pf_moreL h24 m0 ok hx
  rw [t1]
  dsimp only [fa_bd, Option.bind_some]
  generalize hw1 : fa_st (fa_st w0 181 55 (fo1 : Int)) 181 53 ((z.2.2.1 ||| x : Nat) : Int) = w1 at t2
  have g2 : ∀ i j, ¬ (i = 181 ∧ (j = 53 ∨ j = 55)) → w1 i j = w0 i j := fun i j p => by rw [← hw1, fa_st_ne (by omega), fa_st_ne (by omega)]
  obtain ⟨r, w', z', fo', q1, q2, q3, q4, q5, q6, q7, q8⟩ := pf_site_l h24 hs hx hy nf 0 FU 0 fo1 _ w1 (by omega) (by omega) (by rw [g2 _ _ (by omega), g2 _ _ (by omega), g0 _ _ (by omega), g0 _ _ (by omega)]; exact h17) t2 t3.1 (Nat.two_pow_pos nf)
  have g3 : ∀ i, 209 ≤ i → i ≤ 212 → i ≠ 211 → w' i s = w0 i s := fun i p q u => (q6 i s (by omega) (by omega) (by omega)).trans (g2 i s (by omega))
  refine ⟨r, w', z', fo', q1, q2, q3, pf_ch_tr t3 q4, ⟨(g3 _ (by omega) (by omega) (by omega)).trans g1.1, (g3 _ (by omega) (by omega) (by omega)).trans g1.2.1, (g3 _ (by omega) (by omega) (by omega)).trans g1.2.2, q5⟩, fun i j p q u => ?_, fun H R L M a b => ?_, fun e => ?_⟩
  · exact (q6 i j (by omega) (by omega) (by omega)).trans ((g2 i j (by omega)).trans (g0 i j (by omega)))
  · obtain ⟨c1, c2⟩ := q7 H R L M ⟨a.1, a.2.1, fun f v => by
      dsimp only at v
      rw [Nat.testBit_or, Bool.or_eq_true] at v
      exact v.elim (a.2.2.1 f) (fun v => (b f v).1), a.2.2.2⟩ (fun f _ p => (b f p).2)
    refine ⟨c1, fun g v => ?_⟩
    rcases c2 g v with k | ⟨f, _, k⟩
    · rw [Nat.zero_testBit] at k; cases k
    · exact ⟨f, k⟩
  · have u1 := t3.2.2.1
    have u2 := q4.2.2.1
    have d1 := t3.2.2.2 (by omega)
    obtain ⟨c1, c2⟩ := q8 (by omega)
    have e4 : z.2.2.1 ||| x = z.2.2.1 := by
      have := congrArg (fun q : pf_s => q.2.2.1) d1
      exact this
    dsimp only at c1 c2
    refine ⟨fun g => (c1 g).trans ⟨fun k => ?_, fun ⟨f, k⟩ => Or.inr ⟨f, Nat.zero_le _, k⟩⟩, fun f v => ⟨pf_or_sub e4 v, c2 f (Nat.zero_le _) v⟩⟩
    rcases k with k | ⟨f, _, k⟩
    · rw [Nat.zero_testBit] at k; cases k
    · exact ⟨f, k⟩
set_option maxHeartbeats 4000000 in
theorem pf_looks {nf nv ns : Nat} {sb : pf_sT} (h24 : nf ≤ 24) (hv : nv ≤ 124) (hs : ns ≤ 101) (t : pt_T) (tt : pt_tw t) : ∀ (h : Int) (a n fo : Nat) (z : pf_s) (w : fa_W), pm_H t h a w → a + pt_sz t ≤ 101 → pt_sz t ≤ n → pf_W nf nv ns t → pf_S sb h t → w 181 17 + w 181 18 = (nf : Int) → pf_mc z fo w → pf_ok nf z → pf_LQ nf sb t z fo w (fm_Mod_looks n ((a + pt_sz t - 1 : Nat) : Int) w) := by
  induction t, tt using pt_indh with
  | num v =>
    intro h a n fo z w H hz hn hW hS h17 hm ok
    change a + 1 ≤ 101 at hz
    change 1 ≤ n at hn
    obtain ⟨n, rfl⟩ : ∃ m, n = m + 1 := ⟨n - 1, by omega⟩
    have e : fm_Mod_looks (n + 1) ((a + pt_sz (pt_num v) - 1 : Nat) : Int) w = some (0, w) := by
      show fm_Mod_looks_b (fm_Mod_looks n) ((a + 1 - 1 : Nat) : Int) w = _
      unfold fm_Mod_looks_b
      rw [Nat.add_sub_cancel, pb_ix (k := a) (by omega) (by omega)]
      dsimp only [Option.bind_some]
      rw [H.1, fa_wr_id (x := 0) (by omega) (by omega), if_neg (by omega), if_neg (by omega), if_neg (by omega), if_neg (by omega), if_neg (by omega), if_neg (by omega), if_neg (by omega)]
    rw [e]
    exact pf_LQ_zero hm ok (fun _ _ _ x => x) (fun _ _ _ => trivial) (fun _ x => x) (fun _ x => x)
  | dead v =>
    intro h a n fo z w H hz hn hW hS h17 hm ok
    change a + 1 ≤ 101 at hz
    change 1 ≤ n at hn
    obtain ⟨n, rfl⟩ : ∃ m, n = m + 1 := ⟨n - 1, by omega⟩
    have e : fm_Mod_looks (n + 1) ((a + pt_sz (pt_dead v) - 1 : Nat) : Int) w = some (0, w) := by
      show fm_Mod_looks_b (fm_Mod_looks n) ((a + 1 - 1 : Nat) : Int) w = _
      unfold fm_Mod_looks_b
      rw [Nat.add_sub_cancel, pb_ix (k := a) (by omega) (by omega)]
      dsimp only [Option.bind_some]
      rw [H.1, fa_wr_id (x := 3) (by omega) (by omega), if_neg (by omega), if_neg (by omega), if_neg (by omega), if_neg (by omega), if_neg (by omega), if_neg (by omega), if_neg (by omega)]
    rw [e]
    exact pf_LQ_zero hm ok (fun _ _ _ x => x) (fun _ _ _ => trivial) (fun _ x => x) (fun _ x => x)
  | var v x =>
    intro h a n fo z w H hz hn hW hS h17 hm ok
    change a + 1 ≤ 101 at hz
    change 1 ≤ n at hn
    change v < nv at hW
    obtain ⟨n, rfl⟩ : ∃ m, n = m + 1 := ⟨n - 1, by omega⟩
    have e : fm_Mod_looks (n + 1) ((a + pt_sz (pt_var v x) - 1 : Nat) : Int) w = some ((z.1 v : Int), w) := by
      show fm_Mod_looks_b (fm_Mod_looks n) ((a + 1 - 1 : Nat) : Int) w = _
      unfold fm_Mod_looks_b
      rw [Nat.add_sub_cancel, pb_ix (k := a) (by omega) (by omega)]
      dsimp only [Option.bind_some]
      rw [H.1, fa_wr_id (x := 1) (by omega) (by omega), if_pos rfl, H.2.1, pb_ix (k := v) (by omega) (by omega)]
      dsimp only [Option.bind_some]
      rw [hm.1 v (by omega)]
    rw [e]
    exact ⟨z.1 v, w, z, fo, rfl, ok.1 v, hm, pf_ch_refl fo ok, pf_fv_refl _ _, fun H R L M q _ _ => ⟨q, fun f hf => q.1 v f hf⟩, fun _ => ⟨fun f => Iff.rfl, trivial, fun f x => False.elim x, fun s x => False.elim x⟩⟩
  | glo g x =>
    intro h a n fo z w H hz hn hW hS h17 hm ok
    change a + 1 ≤ 101 at hz
    change 1 ≤ n at hn
    change g < nf at hW
    obtain ⟨n, rfl⟩ : ∃ m, n = m + 1 := ⟨n - 1, by omega⟩
    show pf_LQ nf sb _ z fo w (fm_Mod_looks_b (fm_Mod_looks n) ((a + 1 - 1 : Nat) : Int) w)
    unfold fm_Mod_looks_b
    rw [Nat.add_sub_cancel, pb_ix (k := a) (n := 101) (by omega) (by omega)]
    dsimp only [Option.bind_some]
    rw [H.1, fa_wr_id (x := 2) (by omega) (by omega), if_neg (by omega), if_pos rfl]
    have := pf_LQ_made (sb := sb) (t := pt_glo g x) (i := a) h24 hW (by omega) H.2.1 hm ok (fun _ _ _ => Iff.rfl) (fun _ _ _ => trivial) (fun _ => Iff.rfl) (fun _ x => x)
    rw [pb_ix (k := a) (n := 101) (by omega) (by omega)] at this
    exact this
  | lam f x b tb ih =>
    intro h a n fo z w H hz hn hW hS h17 hm ok
    change a + (pt_sz b + 1) ≤ 101 at hz
    change pt_sz b + 1 ≤ n at hn
    obtain ⟨n, rfl⟩ : ∃ m, n = m + 1 := ⟨n - 1, by omega⟩
    show pf_LQ nf sb _ z fo w (fm_Mod_looks_b (fm_Mod_looks n) ((a + (pt_sz b + 1) - 1 : Nat) : Int) w)
    unfold fm_Mod_looks_b
    rw [show a + (pt_sz b + 1) - 1 = a + pt_sz b by omega, pb_ix (k := a + pt_sz b) (n := 101) (by omega) (by omega)]
    dsimp only [Option.bind_some]
    rw [H.2.1, fa_wr_id (x := 4) (by omega) (by omega), if_neg (by omega), if_neg (by omega), if_pos rfl]
    have := pf_LQ_made (sb := sb) (t := pt_lam f x b) (i := a + pt_sz b) h24 hW.1 (by omega) H.2.2.1 hm ok (fun _ _ _ => Iff.rfl) (fun _ _ _ => trivial) (fun _ => Iff.rfl) (fun _ x => x)
    rw [pb_ix (k := a + pt_sz b) (n := 101) (by omega) (by omega)] at this
    exact this
  | ife ta tb tc wa wb wc iha ihb ihc =>
    intro h a n fo z w H hz hn hW hS h17 hm ok
    have pa := pt_sz_pos ta
    have pb := pt_sz_pos tb
    have pc := pt_sz_pos tc
    change a + (pt_sz ta + pt_sz tb + pt_sz tc + 1) ≤ 101 at hz
    change pt_sz ta + pt_sz tb + pt_sz tc + 1 ≤ n at hn
    obtain ⟨n, rfl⟩ : ∃ m, n = m + 1 := ⟨n - 1, by omega⟩
    obtain ⟨H1, H2, H3, K, K1, K2, K3⟩ := H
    show pf_LQ nf sb _ z fo w (fm_Mod_looks_b (fm_Mod_looks n) ((a + (pt_sz ta + pt_sz tb + pt_sz tc + 1) - 1 : Nat) : Int) w)
    rw [show a + (pt_sz ta + pt_sz tb + pt_sz tc + 1) - 1 = a + pt_sz ta + pt_sz tb + pt_sz tc by omega]
    generalize hi : a + pt_sz ta + pt_sz tb + pt_sz tc = i at K K1 K2 K3
    have hi2 : i < 101 := by omega
    unfold fm_Mod_looks_b
    rw [pb_ix (k := i) (n := 101) hi2 (by omega)]
    dsimp only [Option.bind_some]
    rw [K, fa_wr_id (x := 5) (by omega) (by omega), if_neg (by omega), if_neg (by omega), if_neg (by omega), if_pos rfl, K1]
    obtain ⟨r1, w1, z1, fo1, e1, l1, m1, c1, f1, s1, x1⟩ := iha h a n fo z w H1 (by omega) (by omega) hW.1 hS.1 h17 hm ok
    rw [e1]
    dsimp only [fa_bd, Option.bind_some]
    have o1 := pf_fv_ob f1
    rw [o1 186 i (by omega) (by omega), K2]
    obtain ⟨r2, w2, z2, fo2, e2, l2, m2, c2, f2, s2, x2⟩ := ihb h (a + pt_sz ta) n fo1 z1 w1 (pm_H_ob o1 tb wb _ _ H2) (by omega) (by omega) hW.2.1 hS.2.1 (by rw [f1 181 17 (by omega) (by omega) (by omega), f1 181 18 (by omega) (by omega) (by omega)]; exact h17) m1 c1.1
    rw [e2]
    dsimp only [fa_bd, Option.bind_some]
    have f12 : pf_fv (fun s => pf_ss ta s ∨ pf_ss tb s) w w2 := pf_fv_tr f1 f2 (fun _ => Or.inl) (fun _ => Or.inr)
    have o2 := pf_fv_ob f12
    rw [o2 187 i (by omega) (by omega), K3]
    obtain ⟨r3, w3, z3, fo3, e3, l3, m3, c3, f3, s3, x3⟩ := ihc h (a + pt_sz ta + pt_sz tb) n fo2 z2 w2 (pm_H_ob o2 tc wc _ _ H3) (by omega) (by omega) hW.2.2 hS.2.2 (by rw [f12 181 17 (by omega) (by omega) (by omega), f12 181 18 (by omega) (by omega) (by omega)]; exact h17) m2 c2.1
    rw [hi] at e3
    rw [e3]
    dsimp only [fa_bd, Option.bind_some]
    rw [pb_or (pf_lt24 (pf_two h24 l2)) (pf_lt24 (pf_two h24 l3))]
    refine ⟨r2 ||| r3, w3, z3, fo3, rfl, Nat.or_lt_two_pow l2 l3, m3, pf_ch_tr c1 (pf_ch_tr c2 c3), pf_fv_tr f12 f3 (fun s q => q.elim Or.inl (fun q => Or.inr (Or.inl q))) (fun s q => Or.inr (Or.inr q)), fun H' R' L' M' p q o => ?_, fun e => ?_⟩
    · obtain ⟨p1, _⟩ := s1 _ _ _ _ p q.1 (fun f v => o f (Or.inl v))
      obtain ⟨p2, q2⟩ := s2 _ _ _ _ p1 q.2.1 (fun f v => o f (Or.inr (Or.inl v)))
      obtain ⟨p3, q3⟩ := s3 _ _ _ _ p2 q.2.2 (fun f v => o f (Or.inr (Or.inr v)))
      refine ⟨p3, fun f v => ?_⟩
      rw [Nat.testBit_or, Bool.or_eq_true] at v
      exact v.elim (fun v => Or.inl (q2 f v)) (fun v => Or.inr (q3 f v))
    · have g1 := c1.2.2.1
      have g2 := c2.2.2.1
      have g3 := c3.2.2.1
      have d1 := c1.2.2.2 (by omega)
      have d2 := c2.2.2.2 (by omega)
      obtain ⟨a1, a2, a3, a4⟩ := x1 (by omega)
      obtain ⟨b1, b2, b3, b4⟩ := x2 (by omega)
      obtain ⟨k1, k2, k3, k4⟩ := x3 (by omega)
      rw [d2] at k1 k2 k3 k4
      rw [d1] at k1 k2 k3 k4 b1 b2 b3 b4
      refine ⟨fun f => ?_, ⟨a2, b2, k2⟩, fun f v => ?_, fun s q => ?_⟩
      · rw [Nat.testBit_or, Bool.or_eq_true]
        exact or_congr (b1 f) (k1 f)
      · rcases v with v | v | v
        · exact a3 f v
        · exact b3 f v
        · exact k3 f v
      · exact pf_Xs (pf_Xs a4 f2 b4) f3 k4 s (q.elim (fun q => Or.inl (Or.inl q)) (fun q => q.elim (fun q => Or.inl (Or.inr q)) Or.inr))
  | lt v x ta tb wa wb iha ihb =>
    intro h a n fo z w H hz hn hW hS h17 hm ok
    have pa := pt_sz_pos ta
    have pb := pt_sz_pos tb
    change a + (pt_sz ta + pt_sz tb + 1) ≤ 101 at hz
    change pt_sz ta + pt_sz tb + 1 ≤ n at hn
    obtain ⟨n, rfl⟩ : ∃ m, n = m + 1 := ⟨n - 1, by omega⟩
    obtain ⟨H1, H2, K, K1, K2, K3, _, _⟩ := H
    obtain ⟨W0, W1, W2⟩ := hW
    show pf_LQ nf sb _ z fo w (fm_Mod_looks_b (fm_Mod_looks n) ((a + (pt_sz ta + pt_sz tb + 1) - 1 : Nat) : Int) w)
    rw [show a + (pt_sz ta + pt_sz tb + 1) - 1 = a + pt_sz ta + pt_sz tb by omega]
    generalize hi : a + pt_sz ta + pt_sz tb = i at K K1 K2 K3
    have hi2 : i < 101 := by omega
    unfold fm_Mod_looks_b
    rw [pb_ix (k := i) (n := 101) hi2 (by omega)]
    dsimp only [Option.bind_some]
    rw [K, fa_wr_id (x := 6) (by omega) (by omega), if_neg (by omega), if_neg (by omega), if_neg (by omega), if_neg (by omega), if_pos rfl, K1]
    obtain ⟨r1, w1, z1, fo1, e1, l1, m1, c1, f1, s1, x1⟩ := iha h a n fo z w H1 (by omega) (by omega) W1 hS.1 h17 hm ok
    rw [e1]
    dsimp only [fa_bd, Option.bind_some]
    have o1 := pf_fv_ob f1
    rw [o1 187 i (by omega) (by omega), K3, pb_ix (k := v) (n := 124) (by omega) (by omega)]
    dsimp only [Option.bind_some]
    obtain ⟨fo2, t1, t2, t3⟩ := pf_moreH h24 m1 c1.1 (show v < 124 by omega) l1
    rw [t1]
    dsimp only [Option.bind_some, fa_let]
    generalize hw2 : fa_st (fa_st w1 181 55 (fo2 : Int)) 207 v ((z1.1 v ||| r1 : Nat) : Int) = w2 at t2
    have f2 : pf_fv (fun _ => False) w1 w2 := fun i j p q r => by rw [← hw2, fa_st_ne (by omega), fa_st_ne (by omega)]
    have f12 : pf_fv (pf_ss ta) w w2 := pf_fv_tr f1 f2 (fun _ q => q) (fun _ q => False.elim q)
    have o2 := pf_fv_ob f12
    rw [o2 186 i (by omega) (by omega), K2]
    obtain ⟨r3, w3, z3, fo3, e3, l3, m3, c3, f3, s3, x3⟩ := ihb h (a + pt_sz ta) n fo2 _ w2 (pm_H_ob o2 tb wb _ _ H2) (by omega) (by omega) W2 hS.2 (by rw [f12 181 17 (by omega) (by omega) (by omega), f12 181 18 (by omega) (by omega) (by omega)]; exact h17) t2 t3.1
    rw [hi] at e3
    rw [e3]
    dsimp only [Option.bind_some]
    refine ⟨r3, w3, z3, fo3, rfl, l3, m3, pf_ch_tr c1 (pf_ch_tr t3 c3), pf_fv_tr f12 f3 (fun s q => Or.inl q) (fun s q => Or.inr q), fun H' R' L' M' p q o => ?_, fun e => ?_⟩
    · obtain ⟨p1, q1⟩ := s1 _ _ _ _ p q.1 (fun f v => o f (Or.inl v))
      refine s3 _ _ _ _ ⟨fun u f hb => ?_, p1.2⟩ q.2.1 (fun f v => o f (Or.inr v))
      dsimp only at hb
      by_cases eu : u = v
      · rw [eu, pu_set_eq, Nat.testBit_or, Bool.or_eq_true] at hb
        rw [eu]
        exact hb.elim (p1.1 v f) (fun y => q.2.2 f (q1 f y))
      · rw [pu_set_ne _ _ eu] at hb
        exact p1.1 u f hb
    · have g1 := c1.2.2.1
      have g2 := t3.2.2.1
      have g3 := c3.2.2.1
      have d1 := c1.2.2.2 (by omega)
      have d2 := t3.2.2.2 (by omega)
      obtain ⟨a1, a2, a3, a4⟩ := x1 (by omega)
      obtain ⟨k1, k2, k3, k4⟩ := x3 (by omega)
      have e4 : z1.1 v ||| r1 = z1.1 v := by
        have := congrFun (congrArg Prod.fst d2) v
        dsimp only at this
        rw [pu_set_eq] at this
        exact this
      rw [d2] at k1 k2 k3 k4
      rw [d1] at k1 k2 k3 k4 e4
      refine ⟨k1, ⟨a2, k2, fun f q => pf_or_sub e4 ((a1 f).mpr q)⟩, fun f v => ?_, fun s q => ?_⟩
      · rcases v with v | v
        · exact a3 f v
        · exact k3 f v
      · exact pf_Xs (pf_Xs a4 f2 (fun _ q => False.elim q)) f3 k4 s (q.elim (fun q => Or.inl (Or.inl q)) Or.inr)
  | op o ta tb wa wb iha ihb =>
    intro h a n fo z w H hz hn hW hS h17 hm ok
    have pa := pt_sz_pos ta
    have pb := pt_sz_pos tb
    change a + (pt_sz ta + pt_sz tb + 1) ≤ 101 at hz
    change pt_sz ta + pt_sz tb + 1 ≤ n at hn
    obtain ⟨n, rfl⟩ : ∃ m, n = m + 1 := ⟨n - 1, by omega⟩
    obtain ⟨H1, H2, K, K1, K2, _⟩ := H
    obtain ⟨W1, W2⟩ := hW
    show pf_LQ nf sb _ z fo w (fm_Mod_looks_b (fm_Mod_looks n) ((a + (pt_sz ta + pt_sz tb + 1) - 1 : Nat) : Int) w)
    rw [show a + (pt_sz ta + pt_sz tb + 1) - 1 = a + pt_sz ta + pt_sz tb by omega]
    generalize hi : a + pt_sz ta + pt_sz tb = i at K K1 K2
    have hi2 : i < 101 := by omega
    unfold fm_Mod_looks_b
    rw [pb_ix (k := i) (n := 101) hi2 (by omega)]
    dsimp only [Option.bind_some]
    rw [K, fa_wr_id (x := 7) (by omega) (by omega), if_neg (by omega), if_neg (by omega), if_neg (by omega), if_neg (by omega), if_neg (by omega), if_pos rfl, K1]
    obtain ⟨r1, w1, z1, fo1, e1, l1, m1, c1, f1, s1, x1⟩ := iha h a n fo z w H1 (by omega) (by omega) W1 hS.1 h17 hm ok
    rw [e1]
    dsimp only [fa_bd, Option.bind_some]
    have o1 := pf_fv_ob f1
    rw [o1 186 i (by omega) (by omega), K2]
    obtain ⟨r3, w3, z3, fo3, e3, l3, m3, c3, f3, s3, x3⟩ := ihb h (a + pt_sz ta) n fo1 z1 w1 (pm_H_ob o1 tb wb _ _ H2) (by omega) (by omega) W2 hS.2 (by rw [f1 181 17 (by omega) (by omega) (by omega), f1 181 18 (by omega) (by omega) (by omega)]; exact h17) m1 c1.1
    rw [hi] at e3
    rw [e3]
    dsimp only [Option.bind_some]
    refine ⟨0, w3, z3, fo3, rfl, Nat.two_pow_pos nf, m3, pf_ch_tr c1 c3, pf_fv_tr f1 f3 (fun s q => Or.inl q) (fun s q => Or.inr q), fun H' R' L' M' p q o => ?_, fun e => ?_⟩
    · obtain ⟨p1, q1⟩ := s1 _ _ _ _ p q.1 (fun f v => o f (Or.inl v))
      obtain ⟨p3, _⟩ := s3 _ _ _ _ p1 q.2 (fun f v => o f (Or.inr v))
      exact ⟨p3, fun f v => by rw [Nat.zero_testBit] at v; cases v⟩
    · have g1 := c1.2.2.1
      have g3 := c3.2.2.1
      have d1 := c1.2.2.2 (by omega)
      obtain ⟨a1, a2, a3, a4⟩ := x1 (by omega)
      obtain ⟨k1, k2, k3, k4⟩ := x3 (by omega)
      rw [d1] at k1 k2 k3 k4
      refine ⟨fun f => ⟨fun v => (by rw [Nat.zero_testBit] at v; cases v), fun v => False.elim v⟩, ⟨a2, k2⟩, fun f v => ?_, fun s q => ?_⟩
      · rcases v with v | v
        · exact a3 f v
        · exact k3 f v
      · exact pf_Xs a4 f3 k4 s q
  | site s ta tb wa wb iha ihb =>
    intro h a n fo z w H hz hn hW hS h17 hm ok
    have pa := pt_sz_pos ta
    have pb := pt_sz_pos tb
    change a + (pt_sz ta + pt_sz tb + 1) ≤ 101 at hz
    change pt_sz ta + pt_sz tb + 1 ≤ n at hn
    obtain ⟨n, rfl⟩ : ∃ m, n = m + 1 := ⟨n - 1, by omega⟩
    obtain ⟨H1, H2, K, K1, K2, K3, _, _⟩ := H
    obtain ⟨W0, W1, W2⟩ := hW
    obtain ⟨S1, S2, S3⟩ := hS
    show pf_LQ nf sb _ z fo w (fm_Mod_looks_b (fm_Mod_looks n) ((a + (pt_sz ta + pt_sz tb + 1) - 1 : Nat) : Int) w)
    rw [show a + (pt_sz ta + pt_sz tb + 1) - 1 = a + pt_sz ta + pt_sz tb by omega]
    generalize hi : a + pt_sz ta + pt_sz tb = i at K K1 K2 K3
    have hi2 : i < 101 := by omega
    unfold fm_Mod_looks_b
    rw [pb_ix (k := i) (n := 101) hi2 (by omega)]
    dsimp only [Option.bind_some]
    rw [K, fa_wr_id (x := 8) (by omega) (by omega), if_neg (by omega), if_neg (by omega), if_neg (by omega), if_neg (by omega), if_neg (by omega), if_neg (by omega), if_pos rfl, K1, K3]
    obtain ⟨r1, w1, z1, fo1, e1, l1, m1, c1, f1, s1, x1⟩ := iha h a n fo z w H1 (by omega) (by omega) W1 S1 h17 hm ok
    rw [e1]
    dsimp only [fa_bd, Option.bind_some]
    have o1 := pf_fv_ob f1
    rw [o1 186 i (by omega) (by omega), K2]
    obtain ⟨r2, w2, z2, fo2, e2, l2, m2, c2, f2, s2, x2⟩ := ihb h (a + pt_sz ta) n fo1 z1 w1 (pm_H_ob o1 tb wb _ _ H2) (by omega) (by omega) W2 S2 (by rw [f1 181 17 (by omega) (by omega) (by omega), f1 181 18 (by omega) (by omega) (by omega)]; exact h17) m1 c1.1
    rw [hi] at e2
    rw [e2]
    dsimp only [Option.bind_some]
    have f12 : pf_fv (fun s => pf_ss ta s ∨ pf_ss tb s) w w2 := pf_fv_tr f1 f2 (fun _ => Or.inl) (fun _ => Or.inr)
    obtain ⟨r3, w3, z3, fo3, e3, l3, m3, c3, b3, f3, s3, x3⟩ := pf_site h24 (show s < 101 by omega) l1 l2 (by rw [f12 181 17 (by omega) (by omega) (by omega), f12 181 18 (by omega) (by omega) (by omega)]; exact h17) m2 c2.1
    rw [e3]
    dsimp only [Option.bind_some]
    refine ⟨r3, w3, z3, fo3, rfl, l3, m3, pf_ch_tr c1 (pf_ch_tr c2 c3), pf_fv_tr f12 f3 (fun s q => Or.inr q) (fun s q => Or.inl q), fun H' R' L' M' p q o => ?_, fun e => ?_⟩
    · obtain ⟨p1, q1⟩ := s1 _ _ _ _ p q.1 (fun f v => o f (Or.inl v))
      obtain ⟨p2, q2⟩ := s2 _ _ _ _ p1 q.2.1 (fun f v => o f (Or.inr v))
      obtain ⟨p3, q3⟩ := s3 _ _ _ _ p2 (fun f v => ⟨(q.2.2 f (q1 f v)).1, fun g y => (q.2.2 f (q1 f v)).2 g (q2 g y)⟩)
      refine ⟨p3, fun g v => ?_⟩
      obtain ⟨f, v1, v2⟩ := q3 g v
      exact ⟨f, q1 f v1, v2⟩
    · have g1 := c1.2.2.1
      have g2 := c2.2.2.1
      have g3 := c3.2.2.1
      have d1 := c1.2.2.2 (by omega)
      have d2 := c2.2.2.2 (by omega)
      obtain ⟨a1, a2, a3, a4⟩ := x1 (by omega)
      obtain ⟨b1, b2, b4, b5⟩ := x2 (by omega)
      obtain ⟨k1, k2⟩ := x3 (by omega)
      rw [d2] at k1 k2
      rw [d1] at k1 k2 b1 b2 b4 b5
      have rr : ∀ g, r3.testBit g = true ↔ ∃ f, pf_k (pf_b z.1) (pf_b z.2.1) ta f ∧ pf_b z.2.1 f g := fun g => (k1 g).trans ⟨fun ⟨f, u, v⟩ => ⟨f, (a1 f).mp u, v⟩, fun ⟨f, u, v⟩ => ⟨f, (a1 f).mpr u, v⟩⟩
      refine ⟨rr, ⟨a2, b2, fun g v => ?_⟩, fun f v => v.elim (a3 f) (b4 f), fun u q => ?_⟩
      · have := k2 g ((a1 g).mpr v)
        exact ⟨this.1, fun f y => this.2 f ((b1 f).mpr y)⟩
      · refine pf_Xs (pf_Xs a4 f2 b5) f3 (fun u e => ?_) u (q.elim Or.inr Or.inl)
        rw [e, S3]
        exact ⟨b3.1, r1, r2, r3, b3.2.1, b3.2.2.1, b3.2.2.2, ⟨pf_two h24 l1, pf_two h24 l2, pf_two h24 l3⟩, a1, b1, rr⟩
