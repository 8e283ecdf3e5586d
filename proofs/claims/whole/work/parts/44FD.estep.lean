/-! copying: a step of the walk -/
theorem pe_skip {o oP nd si j : Nat} {M CL SV : Nat → Bool} {kp cd : Int} {w0 w : fa_W} {mk : Nat → Int} (E : pe_EC o oP nd si M CL SV cd w0 mk) (hC : pe_CI o oP nd M CL SV w0 mk (pe_c (pe_e oP CL w0 mk)) j w) (hj : j < nd) (hm : mk j = -1) : (∀ F, fm_Program_copy_l24 o oP kp cd (F + 1) (j : Int) w = fm_Program_copy_l24 o oP kp cd F ((j + 1 : Nat) : Int) w) ∧ pe_CI o oP nd M CL SV w0 mk (pe_c (pe_e oP CL w0 mk)) (j + 1) w := by
  obtain ⟨⟨he, ho, hp, hd⟩, hk, hz, h21, h22, h23, h25, h26, hSV, hX, h100⟩ := id E
  obtain ⟨r11, s11, m11⟩ := px_po_r11 ho
  obtain ⟨r0, s0, m0⟩ := px_po_r0 hp
  have n100 := hz.2.2.2.2.2
  obtain ⟨c1, c2, c3, c4, c5⟩ := hC
  refine ⟨fun F => ?_, ?_, c2, fun i hi => c3 i (by omega), fun i hi hmi => c4 i (by
    have : i ≠ j := fun e => hmi (e ▸ hm)
    omega) hmi, fun v hv => c5 v (fun i hi => hv i (by omega))⟩
  · show (if fa_wr (fm_Program_things oP w) ≤ fa_wr (j : Int) then _ else _) = _
    unfold fm_Program_things fm_Row_size
    rw [r0, c2 _ _ (by omega), hz.1, pb_wr (by omega), pb_wr (by omega), if_neg (by omega), r11, pb_at ((c2 _ _ (by omega)).trans h23) hj (by rw [m11]; exact n100), s11, show o + 23 + 1 = o + 24 by omega, c3 j (Or.inl (Nat.le_refl _)), hm, pb_wr1, if_pos rfl, pf_let_eq]
    rfl
  · have e : pe_c (pe_e oP CL w0 mk) (j + 1) = pe_c (pe_e oP CL w0 mk) j := by
      show _ + pe_e oP CL w0 mk j = _
      rw [pe_e_0 hm]; rfl
    rw [e]; exact c1
/-- values are told apart as the old ones are -/
theorem pe_apart {oP i j : Nat} {M CL SV : Nat → Bool} {w0 : fa_W} {mk : Nat → Int} (hXi : pe_X oP M CL SV w0 mk i) (hXj : pe_X oP M CL SV w0 mk j) (ij : i ≠ j) {K V st K' V' st' : Nat} {h p0 p1 p2 h' q0 q1 q2 : Int} (N : px_N oP w0 j K V h st p0 p1 p2) (N' : px_N oP w0 i K' V' h' st' q0 q1 q2) : (K = 9 → K' = 9 → pe_vv M SV K V ≠ pc_rk SV V') ∧ ((K = 7 ∨ K = 5) → (K' = 7 → pe_vv M SV K V ≠ V') ∧ (K' = 5 → pe_vv M SV K V ≠ pc_rk M V')) := by
  obtain ⟨K1, V1, st1, h1, a0, a1, a2, N1, b1, b2, b3, b4, b5, b6, b7, b8⟩ := hXj
  obtain ⟨K2, V2, st2, h2, c0, c1, c2, N2, d1, d2, d3, d4, d5, d6, d7, d8⟩ := hXi
  obtain ⟨eK, eV, _⟩ := px_N_uniq N1 N
  obtain ⟨eK2, eV2, _⟩ := px_N_uniq N2 N'
  rw [eK, eV] at b5 b6 b7
  rw [eK2, eV2] at d5 d6 d7
  refine ⟨fun k k' e => ?_, fun k => ⟨fun k' e => ?_, fun k' e => ?_⟩⟩
  · have x := b5 k
    have y := d5 k'
    have ev : pe_vv M SV K V = pc_rk SV V := by unfold pe_vv; rw [if_neg (by omega), if_pos k]
    rw [ev] at e
    have := pc_rk_inj x.2.1 y.2.1 e
    rw [this] at x
    have := x.2.2.symm.trans y.2.2
    omega
  · have y := d6 k'
    rcases k with k | k
    · have x := b6 k
      have ev : pe_vv M SV K V = V := by unfold pe_vv; rw [if_neg (by omega), if_neg (by omega)]
      rw [ev] at e
      rw [e] at x
      have := x.2.2.symm.trans y.2.2
      omega
    · have x := b7 k
      have ev : pe_vv M SV K V = pc_rk M V := by unfold pe_vv; rw [if_pos (by omega)]
      have := pc_rk_le M V
      rw [ev] at e
      omega
  · have y := d7 k'
    rcases k with k | k
    · have x := b6 k
      have ev : pe_vv M SV K V = V := by unfold pe_vv; rw [if_neg (by omega), if_neg (by omega)]
      have := pc_rk_le M V'
      rw [ev] at e
      omega
    · have x := b7 k
      have ev : pe_vv M SV K V = pc_rk M V := by unfold pe_vv; rw [if_pos (by omega)]
      rw [ev] at e
      have := pc_rk_inj x.2.1 y.2.1 e
      rw [this] at x
      have := x.2.2.1.symm.trans y.2.2.1
      omega
theorem pe_unf {o oP nd j K V n : Nat} {kp cd h p0 p1 p2 h' q0 q1 q2 : Int} {V' : Nat} {w w1 w2 : fa_W} (r0 : fa_rf oP 0 = oP + 1) (hz : w (oP + 1) 1 = (nd : Int)) (hj : j < nd) (n100 : nd ≤ 100) (h24 : fr_at (fa_rf o 11) (j : Int) w = 0) (k1 : fm_Program_kind oP (j : Int) w = (K : Int)) (k2 : fm_Program_value oP (j : Int) w = (V : Int)) (k3 : fm_Program_owner oP (j : Int) w = h) (k4 : fm_Program_part oP (j : Int) 0 w = p0) (k5 : fm_Program_part oP (j : Int) 1 w = p1) (k6 : fm_Program_part oP (j : Int) 2 w = p2) (nv : fm_Program_newValue o (K : Int) (V : Int) w = (V' : Int)) (nh : fr_at (fa_rf o 10) h w = h') (lo : fm_Program_losesBody oP (j : Int) cd w = false) (np0 : fr_at (fa_rf o 11) p0 w = q0) (np1 : fr_at (fa_rf o 11) p1 w = q1) (np2 : fr_at (fa_rf o 11) p2 w = q2) (a1 : fm_Program_add o (K : Int) (V' : Int) h' q0 q1 q2 w = ((n : Int), w1)) (s1 : fr_set (fa_rf o 11) (j : Int) (n : Int) w1 = w2) (F : Nat) : fm_Program_copy_l24 o oP kp cd (F + 1) (j : Int) w = fm_Program_copy_l24 o oP kp cd F ((j + 1 : Nat) : Int) w2 := by
  show (if fa_wr (fm_Program_things oP w) ≤ fa_wr (j : Int) then _ else _) = _
  unfold fm_Program_things fm_Row_size fm_Program_copyThing
  rw [r0, hz, pb_wr (n := nd) (by omega), pb_wr (n := j) (by omega), if_neg (by omega), h24, if_neg (by decide), k1, k2, k3, k4, k5, k6, nv, nh, pf_let_eq, pf_let_eq, lo, if_neg (by decide), np0, np1, np2, a1]
  show fa_let (fr_set (fa_rf o 11) (j : Int) (n : Int) w1) _ = _
  rw [s1]
  rfl
theorem pe_N24 {o j q K V st : Nat} {v : Int} {w : fa_W} {h x y z : Int} (N : px_N o w q K V h st x y z) : px_N o (fa_st w (o + 24) j v) q K V h st x y z := by
  obtain ⟨n1, n2, n3, n4, n5, n6, n7⟩ := N
  exact ⟨(fa_st_ne (by omega)).trans n1, (fa_st_ne (by omega)).trans n2, (fa_st_ne (by omega)).trans n3, (fa_st_ne (by omega)).trans n4, (fa_st_ne (by omega)).trans n5, (fa_st_ne (by omega)).trans n6, (fa_st_ne (by omega)).trans n7⟩
theorem pe_NR24 {o oP i j : Nat} {v : Int} {M CL SV : Nat → Bool} {w0 w : fa_W} {c : Nat → Nat} (H : pe_NR o oP M SV CL w0 c w i) : pe_NR o oP M SV CL w0 c (fa_st w (o + 24) j v) i := by
  intro K' V' st' h' q0 q1 q2 N2
  obtain ⟨x1, x2, x3, x4, x5⟩ := H K' V' st' h' q0 q1 q2 N2
  have e : ∀ x y, x ≠ o + 24 → fa_st w (o + 24) j v x y = w x y := fun x y q => fa_st_ne (fun z => q z.1)
  exact ⟨fun z => ⟨pe_N24 (x1 z).1, pe_N24 (x1 z).2⟩, fun z => pe_N24 (x2 z), fun z => (e _ _ (by omega)).trans (x3 z), fun z => (e _ _ (by omega)).trans (x4 z), fun z => ⟨(e _ _ (by omega)).trans (x5 z).1, (e _ _ (by omega)).trans (x5 z).2⟩⟩
theorem pe_vv9 (M SV : Nat → Bool) (V : Nat) : pe_vv M SV 9 V = pc_rk SV V := by unfold pe_vv; rw [if_neg (by omega), if_pos rfl]
theorem pe_vv7 (M SV : Nat → Bool) (V : Nat) : pe_vv M SV 7 V = V := by unfold pe_vv; rw [if_neg (by omega), if_neg (by omega)]
theorem pe_vv5 (M SV : Nat → Bool) (V : Nat) : pe_vv M SV 5 V = pc_rk M V := by unfold pe_vv; rw [if_pos (by omega)]
theorem pe_next_new {o oP j K V st : Nat} {M CL SV : Nat → Bool} {w0 w1 : fa_W} {c : Nat → Nat} {h p0 p1 p2 : Int} (N : px_N oP w0 j K V h st p0 p1 p2) (hl : pe_lose oP CL w0 j = false) (ce : c j + 1 = c (j + 1)) (a2 : px_N o w1 (c j) K (pe_vv M SV K V) (pe_hh M h) (c st) (pe_pp c p0) (pe_pp c p1) (pe_pp c p2)) (a4 : K = 9 → w1 (o + 12) (pe_vv M SV K V) = ((c j : Nat) : Int)) (a5 : K = 7 ∨ K = 5 → w1 (o + 16) (pe_vv M SV K V) = ((c j : Nat) : Int)) (a6 : K = 5 → w1 (o + 20) (pe_vv M SV K V) = pe_pp c p0) : pe_NR o oP M SV CL w0 c w1 j := by
  intro K' V' st' h' q0 q1 q2 N2
  obtain ⟨e1, e2, e3, e4, e5, e6, e7⟩ := px_N_uniq N N2
  rw [← e1, ← e2, ← e3, ← e4, ← e5, ← e6, ← e7]
  have ee : c (j + 1) - 1 = c j := by omega
  rw [ee]
  refine ⟨fun z => (by rw [hl] at z; cases z), fun _ => a2, fun z => ?_, fun z => ?_, fun z => ?_⟩
  · have := a4 z
    rw [z, pe_vv9] at this
    exact this
  · have := a5 (Or.inl z)
    rw [z, pe_vv7] at this
    exact this
  · have x1 := a5 (Or.inr z)
    have x2 := a6 z
    rw [z, pe_vv5] at x1 x2
    rw [hl, if_neg (by decide)]
    exact ⟨x1, x2⟩
theorem pe_next_v {o oP j n K V st v : Nat} {M SV : Nat → Bool} {w0 w w1 : fa_W} {h p0 p1 p2 : Int} (N : px_N oP w0 j K V h st p0 p1 p2) (a7 : ∀ O k, px_une o n K (pe_vv M SV K V) O k → w1 O k = w O k) (hv : (K = 7 → V ≠ v) ∧ (K = 5 → pc_rk M V ≠ v)) : w1 (o + 16) v = w (o + 16) v := by
  refine a7 _ _ ?_
  unfold px_une
  refine ⟨by omega, by omega, by omega, by omega, fun z => ?_, by omega⟩
  obtain ⟨_, z2, z3⟩ := z
  rcases z3 with z3 | z3
  · rw [z3, pe_vv7] at z2
    exact hv.1 z3 z2.symm
  · rw [z3, pe_vv5] at z2
    exact hv.2 z3 z2.symm
theorem pe_fr {o n K V : Nat} {w w1 : fa_W} (a7 : ∀ O k, px_une o n K V O k → w1 O k = w O k) (x y : Nat) (h : x < o ∨ o + 20 < x ∨ x = o ∨ x = o + 14 ∨ x = o + 17 ∨ x = o + 18) : w1 x y = w x y := by
  refine a7 x y ?_
  unfold px_une
  omega
theorem pe_next {o oP nd j K V st : Nat} {M CL SV : Nat → Bool} {w0 w w1 : fa_W} {mk : Nat → Int} {h p0 p1 p2 : Int} {c : Nat → Nat} (hc : c = pe_c (pe_e oP CL w0 mk)) (hC : pe_CI o oP nd M CL SV w0 mk c j w) (hX : ∀ i, i < nd → mk i ≠ -1 → pe_X oP M CL SV w0 mk i) (hj : j < nd) (hm : mk j ≠ -1) (hl : pe_lose oP CL w0 j = false) (N : px_N oP w0 j K V h st p0 p1 p2) (a2 : px_N o w1 (c j) K (pe_vv M SV K V) (pe_hh M h) (c st) (pe_pp c p0) (pe_pp c p1) (pe_pp c p2)) (a3 : px_sze o (c j + 1) w1) (a4 : K = 9 → w1 (o + 12) (pe_vv M SV K V) = ((c j : Nat) : Int)) (a5 : K = 7 ∨ K = 5 → w1 (o + 16) (pe_vv M SV K V) = ((c j : Nat) : Int)) (a6 : K = 5 → w1 (o + 20) (pe_vv M SV K V) = pe_pp c p0) (a7 : ∀ O k, px_une o (c j) K (pe_vv M SV K V) O k → w1 O k = w O k) : pe_CI o oP nd M CL SV w0 mk c (j + 1) (fa_st w1 (o + 24) j ((c j : Nat) : Int)) := by
  obtain ⟨c1, c2, c3, c4, c5⟩ := hC
  have ce : c j + 1 = c (j + 1) := by
    have := pe_e_pos (oP := oP) (CL := CL) (w0 := w0) hm
    rw [hl, if_neg (by decide), ← hc] at this
    exact this
  have e24 : ∀ x y, x ≠ o + 24 → fa_st w1 (o + 24) j ((c j : Nat) : Int) x y = w1 x y := fun x y q => fa_st_ne (fun z => q z.1)
  have hXj := hX j hj hm
  refine ⟨?_, fun x y hxy => ?_, fun i hi => ?_, fun i hi hmi => ?_, fun v hv => ?_⟩
  · rw [← ce]
    obtain ⟨z1, z2, z3, z4, z5, z6, z7, z8, z9⟩ := a3
    exact ⟨(e24 _ _ (by omega)).trans z1, (e24 _ _ (by omega)).trans z2, (e24 _ _ (by omega)).trans z3, (e24 _ _ (by omega)).trans z4, (e24 _ _ (by omega)).trans z5, (e24 _ _ (by omega)).trans z6, (e24 _ _ (by omega)).trans z7, (e24 _ _ (by omega)).trans z8, (e24 _ _ (by omega)).trans z9⟩
  · rw [e24 x y (by omega), pe_fr a7 x y (by omega)]; exact c2 x y hxy
  · rw [fa_st_ne (fun z => by
      rcases hi with hi | hi
      · have := z.2; omega
      · exact hm (by rw [← z.2]; exact hi)), pe_fr a7 _ _ (by omega)]
    exact c3 i (hi.imp (fun z => by omega) id)
  · by_cases ei : i = j
    · rw [ei, fa_st_eq]
      refine ⟨by rw [← ce]; rfl, ?_⟩
      exact pe_NR24 (pe_next_new N hl ce a2 a4 a5 a6)
    · have il : i < j := by omega
      obtain ⟨y1, y2⟩ := c4 i il hmi
      have cmi : c (i + 1) ≤ c j := by rw [hc]; exact pe_c_mono _ (by omega)
      have cei := pe_e_pos (oP := oP) (CL := CL) (w0 := w0) hmi
      rw [← hc] at cei
      refine ⟨by rw [fa_st_ne (fun z => ei z.2), pe_fr a7 _ _ (by omega)]; exact y1, ?_⟩
      have hXi := hX i (by omega) hmi
      exact pe_NR24 (pe_NR_keep (n := c j) (K := K) (V := pe_vv M SV K V) cmi cei a7 (fun K' V' st' h' q0 q1 q2 N2 => pe_apart hXi hXj ei N N2) y2)
  · rw [e24 _ _ (by omega), pe_next_v N a7 (hv j (by omega) hm K V st h p0 p1 p2 N)]
    exact c5 v (fun i hi => hv i (by omega))
theorem pe_lose_f {o oP j K V st : Nat} {CL : Nat → Bool} {cd h p0 p1 p2 : Int} {w0 w : fa_W} (hk : pe_kp CL cd) (N : px_N oP w0 j K V h st p0 p1 p2) (hl : pe_lose oP CL w0 j = false) (hK : K ≤ 9) (h5 : K = 5 → V < 24) (k1 : fm_Program_kind oP (j : Int) w = (K : Int)) (k2 : fm_Program_value oP (j : Int) w = (V : Int)) : fm_Program_losesBody oP (j : Int) cd w = false := by
  unfold fm_Program_losesBody
  rw [show fr_at (fa_rf oP 0) (j : Int) w = (K : Int) from k1, show fr_at (fa_rf oP 1) (j : Int) w = (V : Int) from k2, pb_wr (by omega)]
  by_cases z : K = 5
  · have cv : CL V = true := by
      unfold pe_lose at hl
      rw [N.1, z, N.2.1, Int.toNat_natCast, decide_eq_true (by rfl), Bool.true_and] at hl
      cases y : CL V with
      | true => rfl
      | false => rw [y] at hl; cases hl
    rw [if_pos (by omega), hk V w (h5 z), cv]
    rfl
  · rw [if_neg (by omega)]
theorem pe_go_st {o oP nd j st K : Nat} {M CL SV : Nat → Bool} {w0 w : fa_W} {mk : Nat → Int} {p0 : Int} {c : Nat → Nat} (hc : c = pe_c (pe_e oP CL w0 mk)) (hX : ∀ i, i < nd → mk i ≠ -1 → pe_X oP M CL SV w0 mk i) (hj : j < nd) (hl : pe_lose oP CL w0 j = false) (c4 : ∀ i, i < j → mk i ≠ -1 → w (o + 24) i = ((c (i + 1) - 1 : Nat) : Int) ∧ pe_NR o oP M SV CL w0 c w i) (b2 : pe_X0 oP CL w0 mk j K st p0) : (fa_wr (pe_pp c p0) = -1 ∧ c st = c j) ∨ ∃ a' : Nat, pe_pp c p0 = (a' : Int) ∧ a' < c j ∧ w (o + 8) a' = ((c st : Nat) : Int) := by
  rcases b2 with ⟨z, z2, _⟩ | ⟨i, z1, z2, z3, z4⟩
  · refine Or.inl ⟨?_, by rw [hc]; exact z2⟩
    unfold pe_pp
    rw [if_pos z, pb_wr1]
  · have mi := z4 hl
    have cei := pe_e_pos (oP := oP) (CL := CL) (w0 := w0) mi
    rw [← hc] at cei
    have cmi : c (i + 1) ≤ c j := by rw [hc]; exact pe_c_mono _ (by omega)
    refine Or.inr ⟨c (i + 1) - 1, ?_, ?_, ?_⟩
    · unfold pe_pp
      rw [z1, if_neg (by omega), Int.toNat_natCast]
    · have : 0 < c (i + 1) := by
        rw [← cei]; split <;> omega
      omega
    · have q := (c4 i z2 mi).2
      rw [hc] at q ⊢
      exact pe_start (nd := nd) (hX i (by omega) mi) mi q z3
theorem pe_d23 (o : Nat) : o + 23 < o ∨ o + 26 < o + 23 ∨ o + 23 = o ∨ o + 23 = o + 14 ∨ o + 23 = o + 17 ∨ o + 23 = o + 18 ∨ (o + 21 ≤ o + 23 ∧ o + 23 ≤ o + 23) ∨ o + 23 = o + 25 ∨ o + 23 = o + 26 := by omega
set_option maxHeartbeats 4000000 in
theorem pe_go {o oP nd si j : Nat} {M CL SV : Nat → Bool} {kp cd : Int} {w0 w : fa_W} {mk : Nat → Int} (E : pe_EC o oP nd si M CL SV cd w0 mk) (h01 : ∀ i, i < nd → mk i = -1 ∨ mk i = 0) (hC : pe_CI o oP nd M CL SV w0 mk (pe_c (pe_e oP CL w0 mk)) j w) (hj : j < nd) (hm : mk j ≠ -1) (hl : pe_lose oP CL w0 j = false) : ∃ w', (∀ F, fm_Program_copy_l24 o oP kp cd (F + 1) (j : Int) w = fm_Program_copy_l24 o oP kp cd F ((j + 1 : Nat) : Int) w') ∧ pe_CI o oP nd M CL SV w0 mk (pe_c (pe_e oP CL w0 mk)) (j + 1) w' := by
  obtain ⟨⟨he, ho, hp, hd⟩, hk, hz, _, _, h23, _, _, _, hX, h100⟩ := id E
  obtain ⟨r11, s11, m11⟩ := px_po_r11 ho
  obtain ⟨r0, _, _⟩ := px_po_r0 hp
  have n100 := hz.2.2.2.2.2
  obtain ⟨c1, c2, c3, c4, _⟩ := id hC
  obtain ⟨K, V, st, h, p0, p1, p2, N, b1, b2, b3, b4, b5, b6, b7, b8, b9, b10⟩ := hX j hj hm
  have vo : px_vo oP w0 w := fun x y p q => c2 x y (by clear b5 b6 b7 b8 b9 h100; omega)
  have N' := px_N_ob (o := oP) (fun x y p q => vo x y (by omega) q) N
  obtain ⟨k1, k2, k3, k4, k5, k6⟩ := px_rd hp (px_pz_ob hz vo) N' hj
  have ce := pe_e_pos (oP := oP) (CL := CL) (w0 := w0) hm
  rw [hl, if_neg (by decide)] at ce
  have cm := pe_c_mono (pe_e oP CL w0 mk) (show j + 1 ≤ nd from hj)
  have nv := pe_newv E hC b1.2.1 b1.2.2.1 (fun z => ⟨(b5 z).1, (b5 z).2.1⟩) (fun z => ⟨(b7 z).1, (b7 z).2.1⟩) b8 b9
  have nh := pe_newh E hC b10
  have q0 : pe_X1 mk j p0 := by
    rcases b2 with ⟨z, _⟩ | ⟨i, z1, z2, _, z4⟩
    · exact Or.inl z
    · exact Or.inr ⟨i, z1, z2, z4 hl⟩
  have np0 := pe_newp E hC hj q0
  have np1 := pe_newp E hC hj b3
  have np2 := pe_newp E hC hj b4
  have lo := pe_lose_f (o := o) hk N hl b1.2.1 (fun z => (b7 z).1) k1 k2
  have vl := pe_vv_lt (M := M) (SV := SV) (K := K) (V := V) (fun z => (b5 z).1) (fun z => (b6 z).2.1) (fun z => (b7 z).1)
  have hst := pe_go_st (o := o) rfl hX hj hl c4 b2
  have l100 : pe_c (pe_e oP CL w0 mk) j < 100 := by
    have := Nat.le_trans cm h100
    rw [← ce] at this
    exact this
  obtain ⟨w1, a1, a2, a3, a4, a5, a6, a7⟩ := px_adde he (K := K) (v := pe_vv M SV K V) (h := pe_hh M h) (b := pe_pp (pe_c (pe_e oP CL w0 mk)) p1) (c := pe_pp (pe_c (pe_e oP CL w0 mk)) p2) c1 l100 hst b1.2.1 vl.1 vl.2.1 vl.2.2
  have w23 : w (o + 23) 1 = (nd : Int) := (c2 (o + 23) 1 (pe_d23 o)).trans h23
  have s1 : fr_set (fa_rf o 11) (j : Int) ((pe_c (pe_e oP CL w0 mk) j : Nat) : Int) w1 = fa_st w1 (o + 24) j ((pe_c (pe_e oP CL w0 mk) j : Nat) : Int) := by
    have f23 : w1 (o + 23) 1 = (nd : Int) := (pe_fr a7 (o + 23) 1 (Or.inr (Or.inl (Nat.add_lt_add_left (by decide) _)))).trans w23
    rw [r11, pb_set f23 hj (by rw [m11]; exact n100), s11]
  have h0 : fr_at (fa_rf o 11) (j : Int) w = 0 := by
    rw [r11, pb_at w23 hj (by rw [m11]; exact n100), s11]
    exact (c3 j (Or.inl (Nat.le_refl _))).trans ((h01 j hj).resolve_left hm)
  have wz : w (oP + 1) 1 = (nd : Int) := (vo (oP + 1) 1 (Nat.le_add_right _ _) (Nat.add_le_add_left (by decide) _)).trans hz.1
  exact ⟨_, fun F => pe_unf r0 wz hj n100 h0 k1 k2 k3 k4 k5 k6 nv nh lo np0 np1 np2 a1 s1 F, pe_next rfl hC hX hj hm hl N a2 a3 a4 a5 a6 a7⟩
