theorem px_V_pz {oP : Nat} {gs : ps_G} {t : pt_T} {la li si nd : Nat} {ins os : List Nat} {w : fa_W} (h : px_V oP gs t la li si nd ins os w) (hn : nd ≤ 100) : px_pz oP nd w := ⟨h.1.1, h.1.2.1, h.1.2.2.1, h.1.2.2.2.1, h.1.2.2.2.2.1, hn⟩
theorem px_infer1 {oT oP : Nat} {gs : ps_G} {t : pt_T} {la li si nd : Nat} {ins os : List Nat} {w : fa_W} (ho : px_to oT) (hp : px_po oP) (hd : oP + 26 < oT) (hV : pn_V gs t la li si nd) (hx : px_V oP gs t la li si nd ins os w) : ∃ w' T up ar cl R l N qm jm, fm_Typing_infer oT oP w = fm_Typing_infer_l36 oT oP 1 (gs.length : Int) w' ∧ px_TI oT oP (gs.length + la) nd nd T up ar cl R l N w' ∧ w' oP 16 = ((jm : Nat) : Int) ∧ jm < nd ∧ w' (oT + 10) jm = ((qm : Nat) : Int) ∧ qm < T ∧ px_TQ ins (gs.length + la) gs t T up ar cl qm ∧ ∀ i j, (i < oT ∨ oT + 16 < i) → w' i j = w i j := by
  obtain ⟨K, K', hK⟩ := pn_K_of hV
  obtain ⟨v1, v2, v3, v4, v5, v6, v7, _⟩ := id hV
  obtain ⟨z1, ⟨y13, y14, y15⟩, x3, x4, x5, x6, x7, x8, x9, x10⟩ := id hx
  have pz := px_V_pz hx v3
  have h24 : gs.length + la ≤ 24 := by omega
  have xi := px_xi_lt x8
  obtain ⟨w1, e1, I1, k1⟩ := px_clear ho hd h24 y14 pz
  have vo1 : px_vo oP w w1 := fun i j _ _ => k1 i j (by omega)
  have L1 := px_L_ob vo1 (fun g hg => (hK.1 g hg).1) os 0 (fun g hg => (x5 g).mp hg) x7
  have ct0 := px_a0_ct (gs.length + la)
  obtain ⟨w2, T2, up2, ar2, cl2, R2, l2, N2, ts, p1, p2, p3, p4, p5, p6, p7, p8⟩ := px_ty_L ho hp hd xi hK rfl x10.symm h24 (Nat.le_refl _) os [] 0 _ _ _ _ _ _ _ w1 [] (fun p hp => by cases hp) (fun g hg => (x5 g).mp hg) (fun g hg => by cases hg) x4 L1 (by omega) I1 (by omega) (by omega) (px_TS_nil _ _ _ _ _ _ _ _ _) (fun g hg => by cases hg)
  rw [List.append_nil] at p4
  rw [Nat.zero_add, x6] at p2
  have vo2 : px_vo oP w w2 := fun i j a b => (p7.1 i j (by omega)).trans (vo1 i j a b)
  have hq : ∀ g, ∃ q, g ≤ gs.length → ∃ j : Nat, (pn_tr gs t g, q) ∈ ts ∧ j < nd ∧ px_bp oP gs.length g w2 = (j : Int) ∧ w2 (oT + 10) j = (q : Int) := fun g => by
    by_cases hg : g ≤ gs.length
    · obtain ⟨q, j, a, b, c, d⟩ := p4 g ((x5 g).mpr hg)
      exact ⟨q, fun _ => ⟨j, a, by omega, c, d⟩⟩
    · exact ⟨0, fun z => absurd z hg⟩
  obtain ⟨qf, hqf⟩ : ∃ qf : Nat → Nat, ∀ g, g ≤ gs.length → ∃ j : Nat, (pn_tr gs t g, qf g) ∈ ts ∧ j < nd ∧ px_bp oP gs.length g w2 = (j : Int) ∧ w2 (oT + 10) j = (qf g : Int) := ⟨fun g => (hq g).choose, fun g hg => (hq g).choose_spec hg⟩
  obtain ⟨FU, hFU⟩ : ∃ F, F = fa_FU := ⟨_, rfl⟩
  have hF2 : 1000 < FU := by rw [hFU]; unfold fa_FU; omega
  have y13' : w2 oP 13 = (gs.length : Int) := by rw [vo2 _ _ (by omega) (by omega)]; exact y13
  have y19' : w2 (oP + 19) 1 = ((24 : Nat) : Int) := by rw [vo2 _ _ (by omega) (by omega)]; exact z1.2.2.2.2.2.2.2.2.2
  obtain ⟨w3, up3, cl3, R3, l3, N3, g1, g2, g3, g4⟩ := px_ty_G (T := T2) (ar := ar2) (qf := qf) ho hp hd (by omega : gs.length ≤ gs.length + la) gs.length 0 FU up2 cl2 R2 l2 N2 w2 (by omega) (by omega) p2 y13' y19' (by omega) (fun g hg => by
    obtain ⟨j, a, b, c, d⟩ := hqf g (by omega)
    refine ⟨(p3.2.2.1 _ a).1, j, b, ?_, d⟩
    unfold px_bp at c
    rw [if_pos hg] at c
    exact c)
  obtain ⟨jm, m1, m2, m3, m4⟩ := hqf gs.length (Nat.le_refl _)
  unfold px_bp at m3
  rw [if_neg (Nat.lt_irrefl _)] at m3
  rw [pn_tr_len] at m1
  have arr : ∀ val, pu_0 T2 up2 ar2 val → pu_E T2 up2 ar2 val → ∀ f, f < gs.length + la → val (76 + 2 * f) = pv_ar (val (1 + f)) (val (75 + 2 * f)) := by
    intro val h0 hE f hf
    have hT := p2.2.2.2.2.2.2.1
    have e := p2.2.2.2.2.2.1 f hf
    by_cases z : up2 (76 + 2 * f) = 76 + 2 * f
    · exact h0.2.2 _ (by omega) z _ _ e
    · exact hE _ (by omega) z _ _ e
  refine ⟨w3, T2, up3, ar2, cl3, R3, l3, N3, qf gs.length, jm, ?_, g2, by rw [g4 _ _ (by omega) (by omega) (by omega)]; exact m3, m2, by rw [g4 _ _ (by omega) (by omega) (by omega)]; exact m4, (p3.2.2.1 _ m1).1, ⟨fun r hr => ?_, fun c val h0 => ?_⟩, fun i j a => (g4 i j (by omega) (by omega) (by omega)).trans ((p7.1 i j a).trans (k1 i j a))⟩
  · unfold fm_Typing_infer
    rw [e1, ← hFU]
    show fm_Typing_infer_l7 oT oP FU 0 w1 = _
    obtain ⟨F, hF⟩ : ∃ F, FU = F + 1 + pn_os gs t os := ⟨FU - 1 - pn_os gs t os, by omega⟩
    have := p1 (F + 1)
    rw [← hF, Nat.zero_add, x6] at this
    rw [show ((0 : Nat) : Int) = 0 from rfl] at this
    rw [this]
    unfold fm_Typing_infer_l7 fm_Program_things fm_Row_size
    rw [hp.1.1, p2.2.2.2.2.1.1, pb_wr (by omega), if_pos (Int.le_refl _), ← hFU]
    exact g1
  · have arr := arr
    obtain ⟨val, a1, a2, a3⟩ := px_a0_val x9 x8 h24 (pv_arrs hV hr)
    have pr := (pv_P_iff r gs t).mp hr
    have hts : ∀ p ∈ ts, pv_S r p.1 := fun p hp => by
      obtain ⟨g, hg, e⟩ := p8 p hp
      rw [e]
      exact pr.1 g hg
    obtain ⟨val', b1, b2, b3, b4, b5⟩ := p3.2.2.2.1 r val hts a1 a2 a3
    have cs' := px_cs_of (T := 75 + 2 * (gs.length + la)) (Nat.le_refl _) xi a3 rfl rfl b1
    have P := g3.1 val' b2 b3 (fun p hp => by
      obtain ⟨g, h1, rfl⟩ := List.mem_map.mp hp
      have hg : g < gs.length := by
        have := (List.mem_range'_1.mp h1).2
        omega
      obtain ⟨j, c1, _⟩ := hqf g (by omega)
      have e1 := b5 _ c1
      have e2 := cs'.2 g (by omega)
      have e3 := arr val' b2 b3 g (by omega)
      rw [e2, pr.2 g hg] at e3
      dsimp only at e1 ⊢
      rw [e1]
      exact (pv_ar_inj e3).2.symm)
    exact ⟨P.2.2.trans b4, val', P.1, P.2.1, cs', b5 _ m1⟩
  · obtain ⟨c2, q2⟩ := g3.2 c
    obtain ⟨h2, pp, hE3⟩ := q2 val h0
    obtain ⟨_, q1⟩ := p3.2.2.2.2 c2
    obtain ⟨h1, q3⟩ := q1 val h2
    obtain ⟨hE2, q4⟩ := q3 (fun k hk z => absurd rfl z)
    have cs0 : px_cs ins (gs.length + la) (fun v => val (1 + px_xi ins v), fun f => val (76 + 2 * f), fun _ => pv_int, fun _ => pv_int) val := ⟨fun v _ => rfl, fun f _ => rfl⟩
    obtain ⟨r, r1, r2, r3, r4, r5⟩ := q4 _ cs0
    have cs1 := px_cs_of (T := 75 + 2 * (gs.length + la)) (r' := r) (Nat.le_refl _) xi cs0 r1 r2 (fun _ _ => rfl)
    refine ⟨hE3 hE2, r, (pv_P_iff r gs t).mpr ⟨fun g hg => ?_, fun g hg => ?_⟩, cs1, ((r5 _ m1).2).symm⟩
    · obtain ⟨j, c1, _⟩ := hqf g hg
      exact (r5 _ c1).1
    · obtain ⟨j, c1, _⟩ := hqf g (by omega)
      have e1 := (r5 _ c1).2
      have e2 := arr val h2 hE2 g (by omega)
      have e3 := pp (75 + 2 * g, qf g) (List.mem_map.mpr ⟨g, List.mem_range'_1.mpr ⟨by omega, by omega⟩, rfl⟩)
      have xg : px_xi ins g = g := by unfold px_xi; rw [if_pos (by omega)]
      have e4 := cs1.1 g (by omega)
      rw [xg] at e4
      dsimp only at e1 e3
      rw [e1, ← cs1.2 g (by omega), e2, e4, e3]
