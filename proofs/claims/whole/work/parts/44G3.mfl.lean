/-! the reference's FIELDS of all FUNCTIONS -/
theorem pm_GH_ob {B : Nat} {w w' : fa_W} (e : pm_ob w w') : ∀ (gs : ps_G) (gl : List Nat) (k k' : pk_K) (g a : Nat), pn_GW B gs gl k k' → pm_GH gs g a w → pm_GH gs g a w' := by
  intro gs
  induction gs with
  | nil => intro gl k k' g a _ _; trivial
  | cons x r ih =>
    intro gl k k' g a h H
    obtain ⟨y, v, t⟩ := x
    obtain ⟨_, _, _, h4, _, k1, _, h7⟩ := h
    obtain ⟨H1, H2, H3, H4, H5, H6, H7⟩ := H
    exact ⟨(e _ _ (by omega) (by omega)).trans H1, (e _ _ (by omega) (by omega)).trans H2, (e _ _ (by omega) (by omega)).trans H3, (e _ _ (by omega) (by omega)).trans H4, (e _ _ (by omega) (by omega)).trans H5, pm_H_ob e t h4 _ _ H6, ih _ _ _ _ _ h7 H7⟩
theorem pm_Pw_ob {gs : ps_G} {t : pt_T} {la li si nd : Nat} {w w' : fa_W} (hV : pn_V gs t la li si nd) (e : pm_ob w w') (e2 : ∀ j, 16 ≤ j → j ≤ 35 → w' 181 j = w 181 j) (h : pm_Pw gs t la li si nd w) : pm_Pw gs t la li si nd w' := by
  obtain ⟨v1, v2, v3, v4, v5, v6, v7, k1, v8, v9⟩ := hV
  obtain ⟨w1, w2, w3, w4, w5, w6, w7, w8, b, w9, w10⟩ := h
  exact ⟨(e2 _ (by omega) (by omega)).trans w1, (e2 _ (by omega) (by omega)).trans w2, (e2 _ (by omega) (by omega)).trans w3, (e2 _ (by omega) (by omega)).trans w4, (e2 _ (by omega) (by omega)).trans w5, (e2 _ (by omega) (by omega)).trans w6, (e2 _ (by omega) (by omega)).trans w7, pm_GH_ob e gs _ _ _ _ _ v8 w8, b, w9, pm_H_ob e t v6 _ _ w10⟩
theorem pm_FL_ob {f : Nat} {l : List Nat} {w w' : fa_W} (h124 : l.length ≤ 124) (e1 : w' 214 f = w 214 f) (e2 : ∀ j, 124 * f ≤ j → j < 124 * f + 124 → w' 213 j = w 213 j) (h : pm_FL f l w) : pm_FL f l w' := by
  refine ⟨e1.trans h.1, fun i x q => ?_⟩
  obtain ⟨hi, _⟩ := List.getElem?_eq_some_iff.mp q
  exact (e2 _ (by omega) (by omega)).trans (h.2 i x q)
theorem pd_fl_len {gs : ps_G} {t : pt_T} {la li si : Nat} {fb : Nat → pt_T} {sb : pf_sT} (hG : pf_G gs t la li si fb sb) (hli : li ≤ 100) {f : Nat} (hf : f < gs.length + la) : (pd_fl f (fb f)).length ≤ 124 := by
  have tf := hG.2.1 f
  have gW := (hG.2.2.1 f hf).2.1
  exact pb_nodup_le 124 _ (pd_fl_nodup f _) (fun v hv => by have := pd_oc_W _ tf gW v (pd_fl_oc hv); omega)
theorem pm_fields_l {gs : ps_G} {t : pt_T} {la li si nd : Nat} {fb : Nat → pt_T} {sb : pf_sT} {w0 : fa_W} (hV : pn_V gs t la li si nd) (hG : pf_G gs t la li si fb sb) (hW : pm_Pw gs t la li si nd w0) : ∀ (d k F : Nat) (w : fa_W), gs.length + la = k + d → d < F → (∀ i j, i ≠ 213 → i ≠ 214 → w i j = w0 i j) → (∀ f, f < k → pm_FL f (pd_fl f (fb f)) w) → ∃ w', fm_Mod_analyses_l6 F (k : Int) w = fm_Mod_analyses_l40 fa_FU 0 w' ∧ (∀ i j, i ≠ 213 → i ≠ 214 → w' i j = w0 i j) ∧ ∀ f, f < gs.length + la → pm_FL f (pd_fl f (fb f)) w' := by
  obtain ⟨v1, v2, v3, v4, v5, _⟩ := id hV
  obtain ⟨FU, hFU⟩ : ∃ F, F = fa_FU := ⟨_, rfl⟩
  rw [← hFU]
  have w17 := hW.2.1
  have w18 := hW.2.2.1
  intro d
  induction d with
  | zero =>
    intro k F w hk hF hw hL
    obtain ⟨F, rfl⟩ : ∃ H, F = H + 1 := ⟨F - 1, by omega⟩
    refine ⟨w, ?_, hw, fun f hf => hL f (by omega)⟩
    unfold fm_Mod_analyses_l6 fm_Mod_functions
    rw [hw 181 17 (by omega) (by omega), hw 181 18 (by omega) (by omega), w17, w18, pb_wr (by omega), show (gs.length : Int) + (la : Int) = ((gs.length + la : Nat) : Int) by omega, pb_wr (by omega), if_pos (by omega), hFU]
  | succ d ih =>
    intro k F w hk hF hw hL
    obtain ⟨F, rfl⟩ : ∃ H, F = H + 1 := ⟨F - 1, by omega⟩
    have ob : pm_ob w0 (fa_st w 214 k 0) := fun i j p q => by rw [fa_st_ne (by omega)]; exact hw i j (by omega) (by omega)
    have W1 : pm_Pw gs t la li si nd (fa_st w 214 k 0) := pm_Pw_ob hV ob (fun j p q => by rw [fa_st_ne (by omega)]; exact hw _ _ (by omega) (by omega)) hW
    obtain ⟨w2, e2, f2, L2⟩ := pm_fields (f := k) hV hG W1 (by omega) (fa_st_eq _ _ _ _)
    unfold fm_Mod_analyses_l6 fm_Mod_functions
    rw [hw 181 17 (by omega) (by omega), hw 181 18 (by omega) (by omega), w17, w18, pb_wr (by omega), show (gs.length : Int) + (la : Int) = ((gs.length + la : Nat) : Int) by omega, pb_wr (by omega), if_neg (by omega), pb_ix (show k < 24 by omega) (by omega), Option.bind_some, pf_let_eq, Option.bind_some, e2, Option.bind_some, pf_let_eq, show (k : Int) + 1 = ((k + 1 : Nat) : Int) by omega]
    refine ih (k + 1) F w2 (by omega) (by omega) (fun i j p q => ?_) (fun f hf => ?_)
    · rw [f2 i j (by omega) (by omega), fa_st_ne (by omega)]; exact hw i j p q
    · by_cases e : f = k
      · rw [e]; exact L2
      · refine pm_FL_ob (pd_fl_len hG v5 (by omega)) ?_ (fun j p q => ?_) (hL f (by omega))
        · rw [f2 _ _ (by omega) (by omega), fa_st_ne (by omega)]
        · rw [f2 _ _ (by omega) (by omega), fa_st_ne (by omega)]
