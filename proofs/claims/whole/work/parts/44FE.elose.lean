/-! copying: a LAMBDA that loses its EXPR -/
theorem pe_lunf {o oP nd j V n m : Nat} {kp cd h h' : Int} {V' : Nat} {w w1 w2 w3 : fa_W} (r0 : fa_rf oP 0 = oP + 1) (hz : w (oP + 1) 1 = (nd : Int)) (hj : j < nd) (n100 : nd ≤ 100) (h24 : fr_at (fa_rf o 11) (j : Int) w = 0) (k1 : fm_Program_kind oP (j : Int) w = ((5 : Nat) : Int)) (k2 : fm_Program_value oP (j : Int) w = (V : Int)) (k3 : fm_Program_owner oP (j : Int) w = h) (nv : fm_Program_newValue o ((5 : Nat) : Int) (V : Int) w = (V' : Int)) (nh : fr_at (fa_rf o 10) h w = h') (lo : fm_Program_losesBody oP (j : Int) cd w = true) (a1 : fm_Program_add o ((4 : Nat) : Int) ((0 : Nat) : Int) (V' : Int) (-1) (-1) (-1) w = ((n : Int), w1)) (a2 : fm_Program_add o ((5 : Nat) : Int) (V' : Int) h' (n : Int) (-1) (-1) w1 = ((m : Int), w2)) (s1 : fr_set (fa_rf o 11) (j : Int) (m : Int) w2 = w3) (F : Nat) : fm_Program_copy_l24 o oP kp cd (F + 1) (j : Int) w = fm_Program_copy_l24 o oP kp cd F ((j + 1 : Nat) : Int) w3 := by
  show (if fa_wr (fm_Program_things oP w) ≤ fa_wr (j : Int) then _ else _) = _
  unfold fm_Program_things fm_Row_size fm_Program_copyThing
  rw [r0, hz, pb_wr (n := nd) (by omega), pb_wr (n := j) (by omega), if_neg (by omega), h24, if_neg (by decide), k1, k2, k3, nv, nh, pf_let_eq, pf_let_eq, lo, if_pos rfl]
  have a1' : fm_Program_add o 4 0 (V' : Int) (-1) (-1) (-1) w = ((n : Int), w1) := a1
  have a2' : fm_Program_add o 5 (V' : Int) h' (n : Int) (-1) (-1) w1 = ((m : Int), w2) := a2
  rw [a1']
  show fa_l2 (fa_l2 (fm_Program_add o 5 (V' : Int) h' (n : Int) (-1) (-1) w1) _) _ = _
  rw [a2']
  show fa_let (fr_set (fa_rf o 11) (j : Int) (m : Int) w2) _ = _
  rw [s1]
  rfl
theorem pe_lose_t {oP j V K st : Nat} {CL : Nat → Bool} {cd h p0 p1 p2 : Int} {w0 w : fa_W} (hk : pe_kp CL cd) (N : px_N oP w0 j K V h st p0 p1 p2) (hl : pe_lose oP CL w0 j = true) (k1 : fm_Program_kind oP (j : Int) w = (K : Int)) (k2 : fm_Program_value oP (j : Int) w = (V : Int)) (h5 : K = 5 → V < 24) : K = 5 ∧ CL V = false ∧ fm_Program_losesBody oP (j : Int) cd w = true := by
  unfold pe_lose at hl
  rw [Bool.and_eq_true, N.2.1, Int.toNat_natCast] at hl
  have k5 : K = 5 := by
    have := of_decide_eq_true hl.1
    rw [N.1] at this
    omega
  have cf : CL V = false := by
    cases z : CL V with
    | false => rfl
    | true => rw [z] at hl; exact absurd hl.2 (by decide)
  refine ⟨k5, cf, ?_⟩
  unfold fm_Program_losesBody
  rw [show fr_at (fa_rf oP 0) (j : Int) w = (K : Int) from k1, show fr_at (fa_rf oP 1) (j : Int) w = (V : Int) from k2, k5, pb_wr (by omega), if_pos (by rfl), hk V w (h5 k5), cf]
  rfl
theorem pe_lnext {o oP nd j V st : Nat} {M CL SV : Nat → Bool} {w0 w w1 w2 : fa_W} {mk : Nat → Int} {h p0 p1 p2 : Int} {c : Nat → Nat} (hc : c = pe_c (pe_e oP CL w0 mk)) (hC : pe_CI o oP nd M CL SV w0 mk c j w) (hX : ∀ i, i < nd → mk i ≠ -1 → pe_X oP M CL SV w0 mk i) (hj : j < nd) (hm : mk j ≠ -1) (hl : pe_lose oP CL w0 j = true) (N : px_N oP w0 j 5 V h st p0 p1 p2) (a2 : px_N o w1 (c j) 4 0 ((pc_rk M V : Nat) : Int) (c j) (-1) (-1) (-1)) (a7 : ∀ O k, px_une o (c j) 4 0 O k → w1 O k = w O k) (b2 : px_N o w2 (c j + 1) 5 (pc_rk M V) (pe_hh M h) (c j) ((c j : Nat) : Int) (-1) (-1)) (b3 : px_sze o (c j + 1 + 1) w2) (b5 : w2 (o + 16) (pc_rk M V) = ((c j + 1 : Nat) : Int)) (b6 : w2 (o + 20) (pc_rk M V) = ((c j : Nat) : Int)) (b7 : ∀ O k, px_une o (c j + 1) 5 (pc_rk M V) O k → w2 O k = w1 O k) : pe_CI o oP nd M CL SV w0 mk c (j + 1) (fa_st w2 (o + 24) j ((c j + 1 : Nat) : Int)) := by
  obtain ⟨c1, c2, c3, c4, c5⟩ := hC
  have ce : c j + 1 + 1 = c (j + 1) := by
    have := pe_e_pos (oP := oP) (CL := CL) (w0 := w0) hm
    rw [hl, if_pos rfl, ← hc] at this
    omega
  have e24 : ∀ x y, x ≠ o + 24 → fa_st w2 (o + 24) j ((c j + 1 : Nat) : Int) x y = w2 x y := fun x y q => fa_st_ne (fun z => q z.1)
  have hXj := hX j hj hm
  refine ⟨?_, fun x y hxy => ?_, fun i hi => ?_, fun i hi hmi => ?_, fun v hv => ?_⟩
  · rw [← ce]
    obtain ⟨z1, z2, z3, z4, z5, z6, z7, z8, z9⟩ := b3
    exact ⟨(e24 _ _ (by omega)).trans z1, (e24 _ _ (by omega)).trans z2, (e24 _ _ (by omega)).trans z3, (e24 _ _ (by omega)).trans z4, (e24 _ _ (by omega)).trans z5, (e24 _ _ (by omega)).trans z6, (e24 _ _ (by omega)).trans z7, (e24 _ _ (by omega)).trans z8, (e24 _ _ (by omega)).trans z9⟩
  · rw [e24 x y (by omega), pe_fr b7 x y (by omega), pe_fr a7 x y (by omega)]; exact c2 x y hxy
  · rw [fa_st_ne (fun z => by
      rcases hi with hi | hi
      · have := z.2; omega
      · exact hm (by rw [← z.2]; exact hi)), pe_fr b7 _ _ (by omega), pe_fr a7 _ _ (by omega)]
    exact c3 i (hi.imp (fun z => by omega) id)
  · by_cases ei : i = j
    · rw [ei, fa_st_eq]
      refine ⟨by rw [← ce]; rfl, pe_NR24 ?_⟩
      intro K' V' st' h' q0 q1 q2 N2
      obtain ⟨e1, e2, e3, e4, e5, e6, e7⟩ := px_N_uniq N N2
      rw [← e1, ← e2, ← e3, ← e4, ← e5, ← e6, ← e7]
      have ee : c (j + 1) - 1 = c j + 1 := by omega
      rw [ee]
      refine ⟨fun _ => ⟨?_, b2⟩, fun z => (by rw [hl] at z; cases z), fun z => by omega, fun z => by omega, fun _ => ⟨b5, by rw [hl, if_pos rfl]; exact b6⟩⟩
      obtain ⟨n1, n2, n3, n4, n5, n6, n7⟩ := a2
      have u : ∀ O k, (O = o + 2 ∨ O = o + 4 ∨ O = o + 6 ∨ O = o + 8) ∧ k = c j ∨ O = o + 10 ∧ k < 3 * c j + 3 → w2 O k = w1 O k := fun O k e => b7 O k (by unfold px_une; omega)
      exact ⟨(u _ _ (by omega)).trans n1, (u _ _ (by omega)).trans n2, (u _ _ (by omega)).trans n3, (u _ _ (by omega)).trans n4, (u _ _ (by omega)).trans n5, (u _ _ (by omega)).trans n6, (u _ _ (by omega)).trans n7⟩
    · have il : i < j := by omega
      obtain ⟨y1, y2⟩ := c4 i il hmi
      have cmi : c (i + 1) ≤ c j := by rw [hc]; exact pe_c_mono _ (by omega)
      have cei := pe_e_pos (oP := oP) (CL := CL) (w0 := w0) hmi
      rw [← hc] at cei
      refine ⟨by rw [fa_st_ne (fun z => ei z.2), pe_fr b7 _ _ (by omega), pe_fr a7 _ _ (by omega)]; exact y1, ?_⟩
      have hXi := hX i (by omega) hmi
      have k1 := pe_NR_keep (n := c j) (K := 4) (V := 0) cmi cei a7 (fun K' V' st' h' q0 q1 q2 N2 => ⟨fun z => by omega, fun z => by omega⟩) y2
      exact pe_NR24 (pe_NR_keep (n := c j + 1) (K := 5) (V := pc_rk M V) (by omega) cei b7 (fun K' V' st' h' q0 q1 q2 N2 => by
        have q := pe_apart hXi hXj ei N N2
        rw [pe_vv5] at q
        exact q) k1)
  · have hvj := (hv j (by omega) hm 5 V st h p0 p1 p2 N).2 rfl
    rw [e24 _ _ (by omega), b7 _ _ (by
      unfold px_une
      exact ⟨by omega, by omega, by omega, by omega, fun z => hvj z.2.1.symm, by omega⟩), a7 _ _ (by unfold px_une; omega)]
    exact c5 v (fun i hi => hv i (by omega))
set_option maxHeartbeats 4000000 in
theorem pe_lo {o oP nd si j : Nat} {M CL SV : Nat → Bool} {kp cd : Int} {w0 w : fa_W} {mk : Nat → Int} (E : pe_EC o oP nd si M CL SV cd w0 mk) (h01 : ∀ i, i < nd → mk i = -1 ∨ mk i = 0) (hC : pe_CI o oP nd M CL SV w0 mk (pe_c (pe_e oP CL w0 mk)) j w) (hj : j < nd) (hm : mk j ≠ -1) (hl : pe_lose oP CL w0 j = true) : ∃ w', (∀ F, fm_Program_copy_l24 o oP kp cd (F + 1) (j : Int) w = fm_Program_copy_l24 o oP kp cd F ((j + 1 : Nat) : Int) w') ∧ pe_CI o oP nd M CL SV w0 mk (pe_c (pe_e oP CL w0 mk)) (j + 1) w' := by
  obtain ⟨⟨he, ho, hp, hd⟩, hk, hz, _, _, h23, _, _, _, hX, h100⟩ := id E
  obtain ⟨r11, s11, m11⟩ := px_po_r11 ho
  obtain ⟨r0, _, _⟩ := px_po_r0 hp
  have n100 := hz.2.2.2.2.2
  obtain ⟨c1, c2, c3, c4, _⟩ := id hC
  obtain ⟨K, V, st, h, p0, p1, p2, N, b1, b2, b3, b4, b5, b6, b7, b8, b9, b10⟩ := hX j hj hm
  have vo : px_vo oP w0 w := fun x y p q => c2 x y (by clear b5 b6 b7 b8 b9 h100; omega)
  have N' := px_N_ob (o := oP) (fun x y p q => vo x y (by omega) q) N
  obtain ⟨k1, k2, k3, _⟩ := px_rd hp (px_pz_ob hz vo) N' hj
  have ce := pe_e_pos (oP := oP) (CL := CL) (w0 := w0) hm
  rw [hl, if_pos rfl] at ce
  have cm := pe_c_mono (pe_e oP CL w0 mk) (show j + 1 ≤ nd from hj)
  have nv := pe_newv E hC b1.2.1 b1.2.2.1 (fun z => ⟨(b5 z).1, (b5 z).2.1⟩) (fun z => ⟨(b7 z).1, (b7 z).2.1⟩) b8 b9
  have nh := pe_newh E hC b10
  obtain ⟨e5, cf, lo⟩ := pe_lose_t hk N hl k1 k2 (fun z => (b7 z).1)
  have V24 := (b7 e5).1
  rw [e5] at N k1 nv
  rw [pe_vv5] at nv
  have rkl := pc_rk_le M V
  have l100 : pe_c (pe_e oP CL w0 mk) j + 1 < 100 := by
    have := Nat.le_trans cm h100
    rw [← ce] at this
    exact this
  obtain ⟨w1, a1, a2, a3, _, _, _, a7⟩ := px_adde he (K := 4) (v := 0) (h := ((pc_rk M V : Nat) : Int)) (a := -1) (b := -1) (c := -1) (st := pe_c (pe_e oP CL w0 mk) j) c1 (Nat.lt_of_succ_lt l100) (Or.inl ⟨pb_wr1, rfl⟩) (by decide) (fun z => absurd z (by decide)) (fun z => absurd z (by decide)) (fun z => absurd z (by decide))
  obtain ⟨w2, d1, d2, d3, _, d5, d6, d7⟩ := px_adde he (K := 5) (v := pc_rk M V) (h := pe_hh M h) (a := ((pe_c (pe_e oP CL w0 mk) j : Nat) : Int)) (b := -1) (c := -1) (st := pe_c (pe_e oP CL w0 mk) j) a3 l100 (Or.inr ⟨_, rfl, Nat.lt_succ_self _, a2.2.2.2.1⟩) (by decide) (fun z => absurd z (by decide)) (fun z => absurd z (by decide)) (fun _ => Nat.lt_of_le_of_lt rkl V24)
  have w23 : w (o + 23) 1 = (nd : Int) := (c2 (o + 23) 1 (pe_d23 o)).trans h23
  have s1 : fr_set (fa_rf o 11) (j : Int) ((pe_c (pe_e oP CL w0 mk) j + 1 : Nat) : Int) w2 = fa_st w2 (o + 24) j ((pe_c (pe_e oP CL w0 mk) j + 1 : Nat) : Int) := by
    have f23 : w2 (o + 23) 1 = (nd : Int) := (pe_fr d7 (o + 23) 1 (Or.inr (Or.inl (Nat.add_lt_add_left (by decide) _)))).trans ((pe_fr a7 (o + 23) 1 (Or.inr (Or.inl (Nat.add_lt_add_left (by decide) _)))).trans w23)
    rw [r11, pb_set f23 hj (by rw [m11]; exact n100), s11]
  have h0 : fr_at (fa_rf o 11) (j : Int) w = 0 := by
    rw [r11, pb_at w23 hj (by rw [m11]; exact n100), s11]
    exact (c3 j (Or.inl (Nat.le_refl _))).trans ((h01 j hj).resolve_left hm)
  have wz : w (oP + 1) 1 = (nd : Int) := (vo (oP + 1) 1 (Nat.le_add_right _ _) (Nat.add_le_add_left (by decide) _)).trans hz.1
  exact ⟨_, fun F => pe_lunf r0 wz hj n100 h0 k1 k2 k3 nv nh lo a1 d1 s1 F, pe_lnext rfl hC hX hj hm hl N a2 a7 d2 d3 (d5 (Or.inr rfl)) (d6 rfl) d7⟩
/-- the whole walk -/
theorem pe_walk {o oP nd si : Nat} {M CL SV : Nat → Bool} {kp cd : Int} {w0 : fa_W} {mk : Nat → Int} (E : pe_EC o oP nd si M CL SV cd w0 mk) (h01 : ∀ i, i < nd → mk i = -1 ∨ mk i = 0) : ∀ (d j : Nat) (w : fa_W), nd = j + d → pe_CI o oP nd M CL SV w0 mk (pe_c (pe_e oP CL w0 mk)) j w → ∃ w', (∀ F, fm_Program_copy_l24 o oP kp cd (F + d) (j : Int) w = fm_Program_copy_l24 o oP kp cd F (nd : Int) w') ∧ pe_CI o oP nd M CL SV w0 mk (pe_c (pe_e oP CL w0 mk)) nd w' := by
  intro d
  induction d with
  | zero =>
    intro j w hj hC
    have e : nd = j := hj
    rw [← e] at hC ⊢
    exact ⟨w, fun F => rfl, hC⟩
  | succ d ih =>
    intro j w hj hC
    have st : ∃ w', (∀ F, fm_Program_copy_l24 o oP kp cd (F + 1) (j : Int) w = fm_Program_copy_l24 o oP kp cd F ((j + 1 : Nat) : Int) w') ∧ pe_CI o oP nd M CL SV w0 mk (pe_c (pe_e oP CL w0 mk)) (j + 1) w' := by
      by_cases hm : mk j = -1
      · exact ⟨w, pe_skip E hC (by omega) hm⟩
      · by_cases hl : pe_lose oP CL w0 j = true
        · exact pe_lo E h01 hC (by omega) hm hl
        · exact pe_go E h01 hC (by omega) hm (pc_bf hl)
    obtain ⟨w1, a1, a2⟩ := st
    obtain ⟨w2, b1, b2⟩ := ih (j + 1) w1 (by omega) a2
    refine ⟨w2, fun F => ?_, b2⟩
    rw [show F + (d + 1) = F + d + 1 by omega, a1 (F + d)]
    exact b1 F
