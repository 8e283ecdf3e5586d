/-! copying: a program that is copied stands as it is told -/
/-- the world when all is copied -/
def pe_S2 (o oP nd : Nat) (M CL SV : Nat → Bool) (gs : ps_G) (w0 w : fa_W) : Prop := (∀ x y, (x < o ∨ o + 26 < x) → w x y = w0 x y) ∧ px_sze o (pe_c (pe_e oP CL w0 (w0 (o + 24))) nd + pe_dz M CL gs.length) w ∧ (w (o + 17) 1 = ((pc_rk M gs.length : Nat) : Int) ∧ w o 13 = ((pc_rk M gs.length : Nat) : Int) ∧ w o 14 = w0 o 14 ∧ w o 15 = w0 o 15) ∧ pe_WF o oP gs.length M CL SV w0 (w0 (o + 24)) (pe_c (pe_e oP CL w0 (w0 (o + 24)))) nd w ∧ (∀ g, g ≤ gs.length → pe_VI gs.length M CL g = true → ∀ j : Nat, pe_rt oP gs.length w0 g = (j : Int) → j < nd → w0 (o + 24) j = 0 → (if g < gs.length then w (o + 20) (pc_rk M g) else w o 16) = ((pe_c (pe_e oP CL w0 (w0 (o + 24))) (j + 1) - 1 : Nat) : Int)) ∧ (∀ g, g < gs.length → M g = true → CL g = false → w (o + 20) (pc_rk M g) = ((pe_c (pe_e oP CL w0 (w0 (o + 24))) nd + pe_dz M CL g : Nat) : Int) ∧ px_N o w (pe_c (pe_e oP CL w0 (w0 (o + 24))) nd + pe_dz M CL g) 4 0 ((pc_rk M g : Nat) : Int) (pe_c (pe_e oP CL w0 (w0 (o + 24))) nd + pe_dz M CL g) (-1) (-1) (-1)) ∧ ∀ g, g < gs.length → M g = true → w (o + 16) (pc_rk M g) = -1
set_option maxHeartbeats 4000000 in
theorem pe_end {o oP nd nf nv si la B : Nat} {M CL SV LV : Nat → Bool} {kp cd : Int} {gs : ps_G} {t : pt_T} {ins os : List Nat} {w w0 : fa_W} (hs : pe_sep o oP) (hkC : pe_kp CL cd) (G6 : gs.length ≤ 6) (hB : gs.length ≤ B) (tw : ∀ g, pt_tw (pn_tr gs t g)) (its : ∀ g, g ≤ gs.length → pe_it B si ins.length nf nv gs.length M CL SV LV (pe_VI gs.length M CL) g (pn_tr gs t g)) (h100 : pe_sm (pe_vs CL (pe_VI gs.length M CL) gs t) os + pe_dz M CL gs.length ≤ 100) (S1 : pe_S1 o oP nd si la M CL SV cd gs t ins os w w0) : ∃ w3, (∀ F, 1000 < F → fm_Program_copy_l24 o oP kp cd F 0 w0 = some w3) ∧ pe_S2 o oP nd M CL SV gs w0 w3 := by
  obtain ⟨FU, hFU⟩ : ∃ F, F = fa_FU := ⟨_, rfl⟩
  have hF2 : 1000 < FU := by rw [hFU]; unfold fa_FU; omega
  obtain ⟨he, ho, hp, hd⟩ := id hs
  obtain ⟨r11, s11, m11⟩ := px_po_r11 ho
  obtain ⟨t0, u0, v0⟩ := px_po_r0 hp
  obtain ⟨f1, Sr, sz0, ⟨z17, z13, z14, z15⟩, nf1, nf2, z16, E, L1, ctot⟩ := S1
  have L := Sr.2.2.2.2.2.2.2.1
  have mem := Sr.2.2.2.2.2.1
  have osn := Sr.2.2.2.2.2.2.1
  have n100 := Sr.1.2.2.2.2.2
  have h01 := pe_01 (M := M) tw L L1
  rw [osn] at h01
  have at0 := (pe_L_at os 0 L L1).1
  rw [osn] at at0
  have rin := pe_rt_in os 0 L
  rw [osn, Nat.zero_add] at rin
  have CI0 : pe_CI o oP nd M CL SV w0 (w0 (o + 24)) (pe_c (pe_e oP CL w0 (w0 (o + 24)))) 0 w0 := ⟨sz0, fun _ _ _ => rfl, fun _ _ => rfl, fun i h => absurd h (Nat.not_lt_zero i), fun _ _ => rfl⟩
  obtain ⟨w1, e1, CI⟩ := pe_walk (kp := kp) E h01 nd 0 w0 (by omega) CI0
  have hX := E.2.2.2.2.2.2.2.2.2.1
  have E21 := E.2.2.2.1
  have E22 := E.2.2.2.2.1
  have E23 := E.2.2.2.2.2.1
  obtain ⟨szn, fr, mkn, NRs, g16⟩ := CI
  have h5 : ∀ i, i < nd → ∀ (V st : Nat) (h p0 p1 p2 : Int), px_N oP w0 i 5 V h st p0 p1 p2 → gs.length ≤ V := fun i hi V st h p0 p1 p2 N => by
    obtain ⟨g, a, g1, a1, a2, _, x1, _⟩ := at0 i (Nat.zero_le _) (by omega)
    obtain ⟨tg, k, k', gl, sc, y1, _⟩ := its g ((mem g).mp g1)
    exact Nat.le_trans hB (pe_lamge _ tg _ _ _ _ x1 y1 i a1 a2 V st h p0 p1 p2 N)
  have g13 : w1 oP 13 = (gs.length : Int) := (fr _ _ (by omega)).trans Sr.2.2.1.1
  have g17 : w1 (oP + 17) 1 = (gs.length : Int) := (fr _ _ (by omega)).trans Sr.2.1.2.2.1
  have g19 : w1 (oP + 19) 1 = ((24 : Nat) : Int) := (fr _ _ (by omega)).trans Sr.2.1.2.2.2
  have gr : ∀ x y, (x < o ∨ o + 26 < x) → w1 x y = w0 x y := fun x y h => fr x y (by omega)
  have grt : ∀ g, g < gs.length → ∃ j : Nat, w1 (oP + 20) g = (j : Int) ∧ j < nd := fun g hg => by
    obtain ⟨q1, q2⟩ := rin g ((mem g).mpr (by omega))
    unfold pe_rt at q1 q2
    rw [if_pos hg] at q1 q2
    rw [gr _ _ (by omega)]
    exact ⟨(w0 (oP + 20) g).toNat, by omega, by omega⟩
  rw [← ctot] at h100
  obtain ⟨c, hc⟩ : ∃ c, c = pe_c (pe_e oP CL w0 (w0 (o + 24))) := ⟨_, rfl⟩
  rw [← hc] at szn NRs h100
  obtain ⟨w2, e2, f2, sz2, a17, a13, GG⟩ := pe_cg_l (o := o) (oP := oP) (nd := nd) (n0 := c nd) (G := gs.length) (M := M) (CL := CL) (cd := cd) (w2 := w1) hs hkC G6 h100 n100 g13 g17 g19 grt ((fr _ _ (by omega)).trans E21) (fun f hf => (fr _ _ (by omega)).trans (E22 f hf)) ((fr _ _ (by omega)).trans E23) gs.length 0 FU w1 (by omega) (by omega) (fun _ _ _ _ _ _ _ _ _ => rfl) szn ((fr _ _ (by omega)).trans z17) ((fr _ _ (by omega)).trans z13) (fun g hg => absurd hg (Nat.not_lt_zero g))
  obtain ⟨M0, hM0⟩ : ∃ x, x = fr_at (o + 23) (w2 oP 16) w2 := ⟨_, rfl⟩
  have fh : pe_fh o (c nd) (pc_rk M gs.length) w1 (fa_st w2 o 16 M0) := fun x y a b d e f g h => by
    rw [fa_st_ne (fun z => a z.1)]
    exact f2 x y (fun z => a z.1) b d e f g h
  have ne16 : ∀ x y, x ≠ o → fa_st w2 o 16 M0 x y = w2 x y := fun x y h => fa_st_ne (fun z => h z.1)
  refine ⟨fa_st w2 o 16 M0, fun F hF => ?_, ?_⟩
  · obtain ⟨F', rfl⟩ : ∃ F', F = F' + 1 + nd := ⟨F - 1 - nd, by omega⟩
    have q := e1 (F' + 1)
    rw [show ((0 : Nat) : Int) = 0 from rfl] at q
    rw [q]
    unfold fm_Program_copy_l24 fm_Program_things fm_Row_size fm_Program_copyGlobals
    rw [t0, gr _ _ (by omega), Sr.1.1, pb_wr (by omega), if_pos (Int.le_refl _), ← hFU]
    have q2 : fm_Program_copyGlobals_l2 o oP cd FU 0 w1 = some w2 := e2
    rw [q2, Option.bind_some, r11, pf_let_eq, ← hM0]
  · unfold pe_S2
    rw [← hc]
    refine ⟨fun x y h => ?_, ?_, ⟨?_, ?_, ?_, ?_⟩, ⟨fun i hi hm => ?_, fun f h1 h2 => ?_, fun v h1 h2 => ?_, fun g h1 h2 => ?_⟩, fun g hg hv j ej jl jm => ?_, fun g h1 h2 h3 => ?_, fun g h1 h2 => ?_⟩
    · rw [fh x y (by omega) (by omega) (by omega) (by omega) (by omega) (by omega) (by omega)]; exact gr x y h
    · obtain ⟨z1, z2, z3, z4, z5, z6, z7, z8, z9⟩ := sz2
      exact ⟨(ne16 _ _ (by omega)).trans z1, (ne16 _ _ (by omega)).trans z2, (ne16 _ _ (by omega)).trans z3, (ne16 _ _ (by omega)).trans z4, (ne16 _ _ (by omega)).trans z5, (ne16 _ _ (by omega)).trans z6, (ne16 _ _ (by omega)).trans z7, (ne16 _ _ (by omega)).trans z8, (ne16 _ _ (by omega)).trans z9⟩
    · exact (ne16 _ _ (by omega)).trans a17
    · exact (fa_st_ne (by omega)).trans a13
    · rw [fa_st_ne (by omega), f2 _ _ (by omega) (by omega) (by omega) (by omega) (by omega) (by omega) (by omega)]; exact fr _ _ (by omega)
    · rw [fa_st_ne (by omega), f2 _ _ (by omega) (by omega) (by omega) (by omega) (by omega) (by omega) (by omega)]; exact fr _ _ (by omega)
    · have ep := pe_e_pos (oP := oP) (CL := CL) (w0 := w0) (mk := w0 (o + 24)) hm
      rw [← hc] at ep
      have mo := pe_c_mono (pe_e oP CL w0 (w0 (o + 24))) (show i + 1 ≤ nd by omega)
      rw [← hc] at mo
      refine pe_NR_fh (by omega) (fun V st h p0 p1 p2 N => pc_rk_mono M (h5 i hi V st h p0 p1 p2 N)) fh (NRs i hi hm).2
    · rw [ne16 _ _ (by omega), f2 _ _ (by omega) (by omega) (by omega) (by omega) (by omega) (by omega) (by omega), fr _ _ (by omega)]; exact nf1 f h1 h2
    · rw [ne16 _ _ (by omega), f2 _ _ (by omega) (by omega) (by omega) (by omega) (by omega) (by omega) (by omega), fr _ _ (by omega)]; exact nf2 v h1 h2
    · rw [ne16 _ _ (by omega), (GG g h1 h2).1]; exact gr _ _ (by omega)
    · have nz : w0 (o + 24) j ≠ -1 := by omega
      have mj := (NRs j jl nz).1
      by_cases e : g < gs.length
      · obtain ⟨k1, k2⟩ := pe_VM e hv
        unfold pe_rt at ej
        rw [if_pos e] at ej
        rw [if_pos e, ne16 _ _ (by omega), (GG g e k1).2.1 k2 j ((gr _ _ (by omega)).trans ej)]
        exact mj
      · unfold pe_rt at ej
        rw [if_neg e] at ej
        have e16 : w2 oP 16 = (j : Int) := by
          rw [f2 _ _ (by omega) (by omega) (by omega) (by omega) (by omega) (by omega) (by omega), gr _ _ (by omega)]; exact ej
        rw [if_neg e, fa_st_eq, hM0, e16, pb_at (n := nd) ?_ jl (by rw [m11]; exact n100), s11, show o + 23 + 1 = o + 24 by omega, f2 _ _ (by omega) (by omega) (by omega) (by omega) (by omega) (by omega) (by omega)]
        · exact mj
        · rw [f2 _ _ (by omega) (by omega) (by omega) (by omega) (by omega) (by omega) (by omega), fr _ _ (by omega)]; exact E23
    · obtain ⟨_, _, y3⟩ := GG g h1 h2
      obtain ⟨y4, n1, n2, n3, n4, n5, n6, n7⟩ := y3 h3
      exact ⟨(ne16 _ _ (by omega)).trans y4, (ne16 _ _ (by omega)).trans n1, (ne16 _ _ (by omega)).trans n2, (ne16 _ _ (by omega)).trans n3, (ne16 _ _ (by omega)).trans n4, (ne16 _ _ (by omega)).trans n5, (ne16 _ _ (by omega)).trans n6, (ne16 _ _ (by omega)).trans n7⟩
    · have rl := pc_rk_lt h2 h1
      have rle := pc_rk_le M gs.length
      rw [ne16 _ _ (by omega), f2 _ _ (by omega) (by omega) (by omega) (by omega) (by omega) (by omega) (by omega), g16 (pc_rk M g) (fun i hi hm K V st h p0 p1 p2 N => ?_)]
      · exact z16 _ (by omega)
      · obtain ⟨K', V', st', h', q0, q1, q2, N', _, _, _, _, _, k7, _⟩ := hX i hi hm
        obtain ⟨eK, eV, _⟩ := px_N_uniq N N'
        refine ⟨fun z => ?_, fun z => ?_⟩
        · have := (k7 (by omega)).1; omega
        · have q := h5 i hi V st h p0 p1 p2 (z ▸ N)
          have := pc_rk_mono M q
          omega
