/-! the class's COMES, from its start to its end -/
theorem pf_XT_ob {o nd nf nv ns : Nat} {fb : Nat → pt_T} {sb : pf_sT} {t : pt_T} {ins : List Nat} {tb : pf_TB} {w w' : fa_W} (hv : px_vo o w w') (h : pf_XT o nd nf nv ns fb sb t ins tb w) : pf_XT o nd nf nv ns fb sb t ins tb w' := by
  obtain ⟨h1, h2, h3⟩ := h
  have ob : px_ob o w w' := fun i j p q => hv i j (by omega) (by omega)
  refine ⟨fun i hi => ?_, fun f hf => ?_, ?_⟩
  · obtain ⟨a1, a2, a3, a4, a5⟩ := h1 i hi
    exact ⟨a1, a2, a3, px_P_ob ob _ a1 _ _ a4, a5⟩
  · obtain ⟨c, c1, c2, c3⟩ := h2 f hf
    exact ⟨c, c1, (hv _ _ (by omega) (by omega)).trans c2, c3⟩
  · obtain ⟨c, c1, c2, c3⟩ := h3
    exact ⟨c, c1, (hv _ _ (by omega) (by omega)).trans c2, c3⟩
theorem px_solve1 {o oP : Nat} {gs : ps_G} {t : pt_T} {la li si nd : Nat} {ins os : List Nat} {w : fa_W} {fb : Nat → pt_T} {sb : pf_sT} (ho : px_Fo o) (hp : px_po oP) (hd : oP + 26 < o) (hV : pn_V gs t la li si nd) (hG : pf_G gs t la li si fb sb) (hX : px_V oP gs t la li si nd ins os w) : ∃ (w' : fa_W) (z : pf_s) (tb : pf_TB), fm_Flow_solve o oP w = fm_Flow_solve_j97 o oP w' ∧ px_xc o nd z false w' ∧ pf_ok (gs.length + la) z ∧ px_lz nd (gs.length + la) (24 + li) fb t ins tb z ∧ pf_XT oP nd (gs.length + la) (24 + li) si fb sb t ins tb w' ∧ ∀ i j, ¬ (i = o ∧ 5 ≤ j ∧ j ≤ 7) → ¬ (o + 1 ≤ i ∧ i ≤ o + 4) → w' i j = w i j := by
  obtain ⟨v1, v2, v3, v4, v5, v6, v7, kk, v8, v9⟩ := id hV
  have tw := pn_tr_tw v6 gs _ _ _ v8
  have hz := px_V_pz hX v3
  have tf := hG.2.1
  obtain ⟨FU, hFU⟩ : ∃ F, F = fa_FU := ⟨_, rfl⟩
  have hF2 : 5000 < FU := by rw [hFU]; unfold fa_FU; omega
  unfold fm_Flow_solve fm_Program_things fm_Row_size
  rw [← hFU, hp.1.1, hz.1, ho.1.1, ho.1.2.1, pf_let_eq, pf_let_eq, pf_let_eq, pf_let_eq, pf_let_eq]
  have r1 := pb_refill (r := o + 1) (m := nd) (v := 0) (by rw [ho.2.1.1]; omega) (by rw [ho.2.2.1]; exact v3) w
  generalize fr_refill (o + 1) (nd : Int) 0 w = w3 at r1
  have e74 : (74 : Int) = ((74 : Nat) : Int) := rfl
  rw [e74]
  have r2 := pb_refill (r := o + 3) (m := 74) (v := 0) (by rw [ho.2.1.2.1]; omega) (by rw [ho.2.2.2.1]; exact Nat.le_refl _) w3
  generalize fr_refill (o + 3) ((74 : Nat) : Int) 0 w3 = w5 at r2
  rw [ho.2.1.1, show o + 1 + 1 = o + 2 by omega] at r1
  rw [ho.2.1.2.1, show o + 3 + 1 = o + 4 by omega] at r2
  obtain ⟨r11, r12, r13⟩ := r1
  obtain ⟨r21, r22, r23⟩ := r2
  have fr : ∀ i j, ¬ (i = o ∧ 5 ≤ j ∧ j ≤ 7) → ¬ (o + 1 ≤ i ∧ i ≤ o + 4) → fa_st (fa_st (fa_st w5 o 5 0) o 6 0) o 7 (fa_bi true) i j = w i j := fun i j p q => by
    rw [fa_st_ne (by omega), fa_st_ne (by omega), fa_st_ne (by omega), r23 i (by omega) (by omega), r13 i (by omega) (by omega)]
  have c0 : px_xc o nd (fun _ => 0, fun _ => 0, 0, 0) true (fa_st (fa_st (fa_st w5 o 5 0) o 6 0) o 7 (fa_bi true)) := by
    refine ⟨⟨?_, ?_⟩, fun i hi => ?_, fun v hv => ?_, ?_, ?_, ?_⟩
    · rw [fa_st_ne (by omega), fa_st_ne (by omega), fa_st_ne (by omega), r23 _ (by omega) (by omega)]; exact r11
    · rw [fa_st_ne (by omega), fa_st_ne (by omega), fa_st_ne (by omega)]; exact r21
    · rw [fa_st_ne (by omega), fa_st_ne (by omega), fa_st_ne (by omega), r23 _ (by omega) (by omega)]; exact r12 i hi
    · rw [fa_st_ne (by omega), fa_st_ne (by omega), fa_st_ne (by omega)]; exact r22 v hv
    · rw [fa_st_ne (by omega), fa_st_eq]; rfl
    · rw [fa_st_ne (by omega), fa_st_ne (by omega), fa_st_eq]; rfl
    · rw [fa_st_eq]; rfl
  generalize fa_st (fa_st (fa_st w5 o 5 0) o 6 0) o 7 (fa_bi true) = w0 at fr c0
  have vo : px_vo oP w w0 := fun i j p q => fr i j (by omega) (by omega)
  have X0 := px_V_ob tw vo hX
  have z0 := px_V_pz X0 v3
  obtain ⟨tb, T0⟩ := pf_XT_of hV hG X0
  have hT0 := T0
  obtain ⟨t1, t2, c, t3, t4, t5⟩ := T0
  have hbo : ∃ bo : Nat → Nat, ∀ f, f < gs.length + la → w0 (oP + 20) f = (bo f : Int) ∧ bo f < nd ∧ ∃ c, c + pt_sz (fb f) = bo f + 1 ∧ pf_N tb (fb f) (f : Int) c := by
    refine ⟨fun f => (w0 (oP + 20) f).toNat, fun f hf => ?_⟩
    obtain ⟨c, c1, c2, c3⟩ := t2 f hf
    have pp := pt_sz_pos (fb f)
    dsimp only
    rw [c2, Int.toNat_natCast]
    exact ⟨rfl, by omega, c, by omega, c3⟩
  obtain ⟨bo, hbo⟩ := hbo
  obtain ⟨x1, x2, x3, x4, x5, x6, x7, x8, x9, x10⟩ := X0
  have hENV : pf_ENV o oP nd (gs.length + la) (24 + li) si fb sb t ins bo tb w0 := ⟨⟨ho, hp, hd, by omega, v3⟩, ⟨by omega, by rw [x10], x9, x8⟩, ⟨z0, x2.2.1, x1.2.2.2.2.2.2.2.2.2, fun f hf => ⟨(hbo f hf).1, (hbo f hf).2.1⟩⟩, t1, fun f hf => ⟨tf f, (hbo f hf).2.2⟩⟩
  obtain ⟨_, _, g3, ⟨_, _, g6, _⟩, _⟩ := hG
  have hl := pf_least v6 tf
  have nb : ∀ f : Nat, ¬ ((0 : Nat).testBit f = true) := fun f h => by rw [Nat.zero_testBit] at h; cases h
  obtain ⟨w', z, q1, q2, q3, q4, q5, q6, q7⟩ := px_rounds (H := pf_lH fb t) (R := pf_lR fb t) (L := pf_lL fb t) (M := pf_M fb t) hENV hl.1 (fun f h => Or.inl h) (fun f h => ⟨(hl.2 f h).1, (hl.2 f h).2, fun g o => Or.inr ⟨f, h, o⟩⟩) 4202 FU 0 _ true w0 (by omega) (fun _ => Nat.le_add_right _ _) (by omega) (by omega) (px_ff_refl _ _) c0 ⟨fun _ => Nat.two_pow_pos _, fun _ => Nat.two_pow_pos _, Nat.two_pow_pos _, Nat.two_pow_pos _⟩ (fun i _ f h => absurd h (nb f)) ⟨fun v f h => absurd h (nb f), fun v f h => absurd h (nb f), fun f h => absurd h (nb f), fun f h => absurd h (nb f)⟩ (fun h => by cases h)
  refine ⟨w', z, tb, q1, q3, q4, px_lz_of hENV v6 tf t5 t3 ⟨g6, fun f hf => (g3 f hf).2.1⟩ q4 q5 q6 q7, pf_XT_ob (fun i j p q => q2 i j (by omega) (by omega) (by omega)) hT0, fun i j p q => (q2 i j p (by omega) (by omega)).trans (fr i j p q)⟩
