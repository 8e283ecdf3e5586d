/-! ring(), on both sides -/
theorem pd_rg_one {nf : Nat} {W W' rg rg' : Nat → Nat} (hW : ∀ f, f < nf → W f = W' f) (h : pf_rg nf W rg) (h' : pf_rg nf W' rg') : ∀ f, f < nf → rg f = rg' f := fun f hf => Nat.eq_of_testBit_eq (fun i => by
  have a : (rg f).testBit i = true ↔ (rg' f).testBit i = true := by
    rw [(h f hf).2 i, (h' f hf).2 i]
    constructor
    · rintro ⟨x, y, z⟩; rw [← hW f hf, ← hW i x]; exact ⟨x, y, z⟩
    · rintro ⟨x, y, z⟩; rw [hW f hf, hW i x]; exact ⟨x, y, z⟩
  rcases Bool.eq_false_or_eq_true ((rg f).testBit i) with b | b
  · rw [b, a.mp b]
  · rcases Bool.eq_false_or_eq_true ((rg' f).testBit i) with c | c
    · rw [a.mpr c] at b; cases b
    · rw [b, c])
/-- RINGS are one, on both sides -/
theorem pd_lr_one {nf : Nat} {P : Nat → Nat → Prop} {cal cal' rg rg' : Nat → Nat} (h : ∀ f, f < nf → ∀ g, (cal f).testBit g = true ↔ P f g) (h' : ∀ f, f < nf → ∀ g, (cal' f).testBit g = true ↔ P f g) (r : pf_rg nf (pf_ws cal nf) rg) (r' : pf_rg nf (pf_ws cal' nf) rg') : pf_lr (pf_ws cal nf) rg nf = pf_lr (pf_ws cal' nf) rg' nf := by
  have e := pf_ws_cong (pd_cal_one h h') nf (Nat.le_refl _)
  exact pf_lr_cong e (pd_rg_one e r r') nf (Nat.le_refl _)
theorem px_callRing {sc : Nat} {gs : ps_G} {t : pt_T} {la li si nd mk : Nat} {ins os : List Nat} {fb : Nat → pt_T} {sb : pf_sT} {w : fa_W} {a : Int} (h6 : fa_sc (w 0 6) = sc) (h : px_SC sc gs t la li si nd ins os fb sb mk w) (b1 : -2147483648 ≤ a ∧ a < 2147483648) : ∃ cal rg : Nat → Nat, (∀ f, f < gs.length + la → ∀ g, (cal f).testBit g = true ↔ pf_ca fb t sb si f g) ∧ pf_rg (gs.length + la) (pf_ws cal (gs.length + la)) rg ∧ (¬ pa_in (pf_lr (pf_ws cal (gs.length + la)) rg (gs.length + la)).length a → fm_Face_ring a w = some (1, 0, w)) ∧ ∀ i : Nat, a = (i : Int) → i < (pf_lr (pf_ws cal (gs.length + la)) rg (gs.length + la)).length → fm_Face_ring a w = some (0, (((pf_lr (pf_ws cal (gs.length + la)) rg (gs.length + la)).getD i 0 : Nat) : Int), w) := by
  obtain ⟨z, tb, cal, rg, _, xc, ok, lz, _, c5, c6, cb, cc, _, _, r1, r2, r3, r4⟩ := h.2.2.1
  have s := px_sK_sc (w 0 6)
  obtain ⟨_, _, hFo, _, _, _, _, rr, _⟩ := px_sK_all s
  rw [h6] at hFo rr
  have q4 := hFo.1.2.2.2.2
  have q5 := hFo.2.1.2.2.2.2
  have q6 := hFo.2.2.2.2.2.2
  have e2 : fa_wr a = a := fa_wr_id (by omega) (by omega)
  refine ⟨cal, rg, cc, r1, fun q => ?_, fun i ei hi => ?_⟩
  · unfold pa_in at q
    unfold fm_Face_ring fm_Row_size
    rw [h6, rr, q4, r2, e2, pb_wr (by omega)]
    by_cases c : a < 0
    · rw [if_pos c]; rfl
    · rw [if_neg c, if_neg (by omega)]; rfl
  · unfold fm_Face_ring fm_Row_size
    rw [h6, rr, q4, ei, pb_bits r2 hi (by rw [q6]; exact r3), q5, r2, pb_wr (by omega), pb_wr (by omega), if_neg (by omega), if_pos (by omega)]
    show some ((0 : Int), w (sc + 45 + 10) i, w) = _
    rw [(r4 i hi).1]
theorem pm_callRing {gs : ps_G} {t : pt_T} {la li si nd mk : Nat} {fb : Nat → pt_T} {sb : pf_sT} {w : fa_W} {a : Int} (hV : pn_V gs t la li si nd) (h : pm_AN gs t la li si nd fb sb mk w) (b1 : -2147483648 ≤ a ∧ a < 2147483648) : ∃ cal rg : Nat → Nat, (∀ f, f < gs.length + la → ∀ g, (cal f).testBit g = true ↔ pf_ca fb t sb si f g) ∧ pf_rg (gs.length + la) (pf_ws cal (gs.length + la)) rg ∧ (¬ pa_in (pf_lr (pf_ws cal (gs.length + la)) rg (gs.length + la)).length a → fm_Mod_ring a w = some (0, fa_st (fa_st w 181 0 0) 181 0 1)) ∧ ∀ i : Nat, a = (i : Int) → i < (pf_lr (pf_ws cal (gs.length + la)) rg (gs.length + la)).length → fm_Mod_ring a w = some ((((pf_lr (pf_ws cal (gs.length + la)) rg (gs.length + la)).getD i 0 : Nat) : Int), fa_st w 181 0 0) := by
  have h24 : gs.length + la ≤ 24 := by have := hV.1; have := hV.2.1; omega
  obtain ⟨_, _, _, _, _, _, cal, rg, c6, cb, cc, r1, m64, _, m220⟩ := h
  have len := pf_lr_len (pf_ws cal (gs.length + la)) rg (gs.length + la)
  have e0 : fa_wr 0 = 0 := fa_wr_id (by omega) (by omega)
  have e2 : fa_wr a = a := fa_wr_id (by omega) (by omega)
  have m64' : fa_st w 181 0 0 181 64 = ((pf_lr (pf_ws cal (gs.length + la)) rg (gs.length + la)).length : Int) := (fa_st_ne (by omega)).trans m64
  have e1 : fa_wr (((pf_lr (pf_ws cal (gs.length + la)) rg (gs.length + la)).length : Int) - 1) = ((pf_lr (pf_ws cal (gs.length + la)) rg (gs.length + la)).length : Int) - 1 := fa_wr_id (by omega) (by omega)
  refine ⟨cal, rg, cc, r1, fun q => ?_, fun i ei hi => ?_⟩
  · unfold pa_in at q
    have y : fm_Mod_in a 0 (((pf_lr (pf_ws cal (gs.length + la)) rg (gs.length + la)).length : Int) - 1) (fa_st w 181 0 0) = false := by
      unfold fm_Mod_in
      rw [e0, e1, e2]
      by_cases c : a < 0
      · rw [if_pos c]
      · rw [if_neg c, if_pos (by omega)]
    unfold fm_Mod_ring
    rw [pf_let_eq, m64', y, if_neg (by decide)]
    rfl
  · have y : fm_Mod_in a 0 (((pf_lr (pf_ws cal (gs.length + la)) rg (gs.length + la)).length : Int) - 1) (fa_st w 181 0 0) = true := by
      unfold fm_Mod_in
      rw [e0, e1, e2, if_neg (show ¬ a < 0 by omega), if_neg (by omega)]
    unfold fm_Mod_ring
    rw [pf_let_eq, m64', y, if_pos rfl]
    show ((fa_ix a 24).bind fun j8 => some (fa_st w 181 0 0 220 j8, fa_st w 181 0 0)) = _
    rw [ei, pb_ix (show i < 24 by omega) (by omega), Option.bind_some, fa_st_ne (by omega), m220 i hi]
