/-! the reference's analyses, up to its code -/
theorem pf_done_ob {nf : Nat} {fb : Nat → pt_T} {sb : pf_sT} {t : pt_T} {z : pf_s} {w w' : fa_W} (e : ∀ i j, (i = 207 ∨ i = 208 ∨ (209 ≤ i ∧ i ≤ 212) ∨ (i = 181 ∧ 52 ≤ j ∧ j ≤ 55)) → w' i j = w i j) (h : pf_done nf fb sb t z w) : pf_done nf fb sb t z w' := by
  obtain ⟨h1, h2, ⟨fo, m1, m2, m3, m4, m5⟩, ⟨x, x1, x2, x3⟩, h5⟩ := h
  exact ⟨h1, h2, ⟨fo, fun v hv => (e _ _ (by omega)).trans (m1 v hv), fun f hf => (e _ _ (by omega)).trans (m2 f hf), (e _ _ (by omega)).trans m3, (e _ _ (by omega)).trans m4, (e _ _ (by omega)).trans m5⟩, ⟨x, (e _ _ (by omega)).trans x1, x2, x3⟩, fun s q => pf_X_fr (fun i p q => e _ _ (by omega)) (h5 s q)⟩
/-- all that the reference keeps of a program, but its code -/
def pm_AN (gs : ps_G) (t : pt_T) (la li si nd : Nat) (fb : Nat → pt_T) (sb : pf_sT) (mk : Nat) (w : fa_W) : Prop := pm_Pw gs t la li si nd w ∧ pm_TV gs t (gs.length + la) nd w ∧ pm_SV (gs.length + la) si fb t sb w ∧ (∀ f, f < gs.length + la → pm_FL f (pd_fl f (fb f)) w) ∧ (∀ sp, sp < 3 → pm_GL (gs.length + la) sp (pg_g gs t (pf_A fb t sb (gs.length + la)) si (gs.length + la) mk sp) w) ∧ (∃ z : pf_s, z.2.2.2 = mk ∧ pf_done (gs.length + la) fb sb t z w ∧ pf_lz fb t z) ∧ ∃ cal rg : Nat → Nat, (∀ f, f < gs.length + la → w 217 f = (cal f : Int)) ∧ (∀ f, cal f < 2 ^ (gs.length + la)) ∧ (∀ f, f < gs.length + la → ∀ g, (cal f).testBit g = true ↔ pf_ca fb t sb si f g) ∧ pf_rg (gs.length + la) (pf_ws cal (gs.length + la)) rg ∧ pm_Rg (pf_ws cal (gs.length + la)) rg (gs.length + la) (gs.length + la) w
theorem pm_analyses1 {gs : ps_G} {t : pt_T} {la li si nd : Nat} {fb : Nat → pt_T} {sb : pf_sT} {w : fa_W} (hV : pn_V gs t la li si nd) (hG : pf_G gs t la li si fb sb) (hW : pm_Pw gs t la li si nd w) (hTV : pm_TV gs t (gs.length + la) nd w) : ∃ w' mk, fm_Mod_analyses w = ((fm_Mod_compilesAll w').bind fun w9 => some w9) ∧ (mk < 2 ^ (gs.length + la) ∧ ∀ f, mk.testBit f = true ↔ pf_M fb t f) ∧ pm_AN gs t la li si nd fb sb mk w' ∧ ∀ i j, ¬ (207 ≤ i ∧ i ≤ 220) → ¬ (i = 181 ∧ ((52 ≤ j ∧ j ≤ 55) ∨ j = 64)) → w' i j = w i j := by
  obtain ⟨v1, v2, v3, v4, v5, _⟩ := id hV
  have h24 : gs.length + la ≤ 24 := by omega
  obtain ⟨FU, hFU⟩ : ∃ F, F = fa_FU := ⟨_, rfl⟩
  have hF2 : 1000 < FU := by rw [hFU]; unfold fa_FU; omega
  obtain ⟨F4, hF4⟩ : ∃ F, FU = F + 4 := ⟨FU - 4, by omega⟩
  obtain ⟨w1, z, e1, D1, lz, zero, fz⟩ := pm_comes (pf_Y_of hV hG) (pf_PB_of hV hG hW)
  have W1 : pm_Pw gs t la li si nd w1 := pm_Pw_ob hV (fun i j p q => fz i j (by omega) (by omega) (fun y => by omega)) (fun j p q => fz _ _ (by omega) (by omega) (fun y => by omega)) hW
  have TV1 : pm_TV gs t (gs.length + la) nd w1 := pm_TV_of hTV (fun i j q => fz i j (by omega) (by omega) (fun y => by omega))
  have SV1 : pm_SV (gs.length + la) si fb t sb w1 := pm_SV_of v4 hG (pf_PB_of hV hG W1) D1 lz W1.2.2.2.2.1 zero (fun f hf s q => pf_ss_home _ (hG.2.1 f) (hG.2.2.1 f hf).2.2 s q) (fun s q => pf_ss_home _ hG.2.2.2.1.1 hG.2.2.2.1.2.2.2 s q)
  obtain ⟨w2, e2, f2, FL2⟩ := pm_fields_l hV hG W1 (gs.length + la) 0 FU w1 (by omega) (by omega) (fun _ _ _ _ => rfl) (fun f hf => absurd hf (Nat.not_lt_zero f))
  have W2 : pm_Pw gs t la li si nd w2 := pm_Pw_ob hV (fun i j p q => f2 i j (by omega) (by omega)) (fun j p q => f2 _ _ (by omega) (by omega)) W1
  have TV2 : pm_TV gs t (gs.length + la) nd w2 := pm_TV_of TV1 (fun i j q => f2 i j (by omega) (by omega))
  have SV2 : pm_SV (gs.length + la) si fb t sb w2 := pm_SV_of_fr SV1 (fun i j q => f2 i j (by omega) (by omega))
  have D2 : pf_done (gs.length + la) fb sb t z w2 := pf_done_ob (fun i j q => f2 i j (by omega) (by omega)) D1
  have ok := D2.1
  have mkM : ∀ f, z.2.2.2.testBit f = true ↔ pf_M fb t f := fun f => by
    rw [← lz.2.2.2]; exact Iff.rfl
  have h17 : w2 181 17 + w2 181 18 = ((gs.length + la : Nat) : Int) := by rw [W2.2.1, W2.2.2.1]; omega
  have h52 : w2 181 52 = (z.2.2.2 : Int) := by
    obtain ⟨_, _, ⟨fo, _, _, _, m4, _⟩, _⟩ := D2
    exact m4
  obtain ⟨w3, e3, gf, GL3⟩ := pm_groups3 (mk := z.2.2.2) h24 v4 ok.2.2.2 h17 h52 TV2 SV2 (fun s hs a q => (mkM a).mpr (pf_A_M hG hs q).2)
  have W3 : pm_Pw gs t la li si nd w3 := pm_Pw_ob hV (fun i j p q => gf i j (by omega) (by omega)) (fun j p q => gf _ _ (by omega) (by omega)) W2
  have D3 : pf_done (gs.length + la) fb sb t z w3 := pf_done_ob (fun i j q => gf i j (by omega) (by omega)) D2
  obtain ⟨w4, cal, rg, e4, f4, r1, r2, r3, r4, r5⟩ := pm_laysRings h24 v4 hG (pf_PB_of hV hG W3) D3 lz W3.2.2.2.2.1
  refine ⟨w4, z.2.2.2, ?_, ⟨ok.2.2.2, mkM⟩, ⟨pm_Pw_ob hV (fun i j p q => f4 i j (by omega) (by omega)) (fun j p q => f4 _ _ (by omega) (by omega)) W3, pm_TV_of TV2 (fun i j q => (f4 i j (by omega) (by omega)).trans (gf i j (by omega) (by omega))), pm_SV_of_fr SV2 (fun i j q => (f4 i j (by omega) (by omega)).trans (gf i j (by omega) (by omega))), fun f hf => pm_FL_ob (pd_fl_len hG v5 hf) ((f4 _ _ (by omega) (by omega)).trans (gf _ _ (by omega) (by omega))) (fun j p q => (f4 _ _ (by omega) (by omega)).trans (gf _ _ (by omega) (by omega))) (FL2 f hf), fun sp hsp => ⟨(f4 _ _ (by omega) (by omega)).trans (GL3 sp hsp).1, fun f hf => (f4 _ _ (by omega) (by omega)).trans ((GL3 sp hsp).2 f hf)⟩, ⟨z, rfl, pf_done_ob (fun i j q => f4 i j (by omega) (by omega)) D3, lz⟩, cal, rg, r1, r2, r3, r4, r5⟩, fun i j p q => ?_⟩
  · unfold fm_Mod_analyses
    have q2 : fm_Mod_analyses_l6 FU 0 w1 = fm_Mod_analyses_l40 fa_FU 0 w2 := e2
    rw [e1, Option.bind_some, ← hFU, q2, ← hFU, hF4, e3 F4, e4, Option.bind_some]
  · rw [f4 i j (by omega) (by omega), gf i j (by omega) (by omega), f2 i j (by omega) (by omega)]
    exact fz i j (by omega) (by omega) (fun y => by omega)
