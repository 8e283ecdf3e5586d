/-! the class's scene, settled -/
def px_sK (sc : Nat) : Prop := sc = 55 ∨ sc = 118
theorem px_sK_all {sc : Nat} (h : px_sK sc) : px_po (sc + 1) ∧ px_to (sc + 28) ∧ px_Fo (sc + 45) ∧ px_Go (sc + 56) ∧ px_oe (sc + 1) ∧ fa_rf sc 0 = sc + 1 ∧ fa_rf sc 1 = sc + 28 ∧ fa_rf sc 2 = sc + 45 ∧ fa_rf sc 3 = sc + 56 := by
  rcases h with rfl | rfl
  · refine ⟨px_po_56, by unfold px_to; decide, by unfold px_Fo; decide, by unfold px_Go; decide, Or.inl rfl, by decide, by decide, by decide, by decide⟩
  · refine ⟨px_po_119, by unfold px_to; decide, by unfold px_Fo; decide, by unfold px_Go; decide, Or.inr rfl, by decide, by decide, by decide, by decide⟩
/-- all of FLOW that the class keeps -/
def px_FW (o oP : Nat) (gs : ps_G) (t : pt_T) (la li si nd : Nat) (ins : List Nat) (fb : Nat → pt_T) (sb : pf_sT) (mk : Nat) (w : fa_W) : Prop := ∃ (z : pf_s) (tb : pf_TB) (cal rg : Nat → Nat), z.2.2.2 = mk ∧ px_xc o nd z false w ∧ pf_ok (gs.length + la) z ∧ px_lz nd (gs.length + la) (24 + li) fb t ins tb z ∧ pf_XT oP nd (gs.length + la) (24 + li) si fb sb t ins tb w ∧ w (o + 5) 1 = ((gs.length + la : Nat) : Int) ∧ (∀ f, f < gs.length + la → w (o + 6) f = (cal f : Int)) ∧ (∀ f, cal f < 2 ^ (gs.length + la)) ∧ (∀ f, f < gs.length + la → ∀ g, (cal f).testBit g = true ↔ pf_ca fb t sb si f g) ∧ w (o + 7) 1 = ((gs.length + la : Nat) : Int) ∧ (∀ f, f < gs.length + la → w (o + 8) f = (pf_ws cal (gs.length + la) f : Int)) ∧ pf_rg (gs.length + la) (pf_ws cal (gs.length + la)) rg ∧ px_Rg o (gs.length + la) (pf_lr (pf_ws cal (gs.length + la)) rg (gs.length + la)) w
theorem px_FW_ob {o oP : Nat} {gs : ps_G} {t : pt_T} {la li si nd mk : Nat} {ins : List Nat} {fb : Nat → pt_T} {sb : pf_sT} {w w' : fa_W} (e : ∀ i j, (o ≤ i ∧ i ≤ o + 10) → w' i j = w i j) (eP : px_vo oP w w') (h : px_FW o oP gs t la li si nd ins fb sb mk w) : px_FW o oP gs t la li si nd ins fb sb mk w' := by
  obtain ⟨z, tb, cal, rg, h0, ⟨⟨c1, c2⟩, c3, c4, c5, c6, c7⟩, h2, h3, h4, h5, h6, h7, h8, h9, h10, h11, r1, r2, r3⟩ := h
  exact ⟨z, tb, cal, rg, h0, ⟨⟨(e _ _ (by omega)).trans c1, (e _ _ (by omega)).trans c2⟩, fun i hi => (e _ _ (by omega)).trans (c3 i hi), fun v hv => (e _ _ (by omega)).trans (c4 v hv), (e _ _ (by omega)).trans c5, (e _ _ (by omega)).trans c6, (e _ _ (by omega)).trans c7⟩, h2, h3, pf_XT_ob eP h4, (e _ _ (by omega)).trans h5, fun f hf => (e _ _ (by omega)).trans (h6 f hf), h7, h8, (e _ _ (by omega)).trans h9, fun f hf => (e _ _ (by omega)).trans (h10 f hf), h11, (e _ _ (by omega)).trans r1, r2, fun k hk => ⟨(e _ _ (by omega)).trans (r3 k hk).1, (r3 k hk).2⟩⟩
/-- what the class knows of SITES -/
theorem px_FW_SV {o oP : Nat} {gs : ps_G} {t : pt_T} {la li si nd mk : Nat} {ins os : List Nat} {fb : Nat → pt_T} {sb : pf_sT} {w : fa_W} (ho : px_Fo o) (hp : px_po oP) (hV : pn_V gs t la li si nd) (hG : pf_G gs t la li si fb sb) (hX : px_V oP gs t la li si nd ins os w) (h : px_FW o oP gs t la li si nd ins fb sb mk w) : px_SV o oP (gs.length + la) si fb t sb w := by
  obtain ⟨z, tb, cal, rg, h0, h1, h2, h3, h4, _⟩ := h
  obtain ⟨g1, g2, g3, g4, g5⟩ := hG
  have v := hV
  obtain ⟨v1, v2, v3, v4, v5, _⟩ := v
  exact px_sitev ho hp (by omega) v3 v4 g4.1 g2 h4 g5 (px_V_pz hX v3) h1 h2 h3 hX.1.2.2.2.2.2.1 hX.2.1.2.2
/-- a settled scene -/
def px_SC (sc : Nat) (gs : ps_G) (t : pt_T) (la li si nd : Nat) (ins os : List Nat) (fb : Nat → pt_T) (sb : pf_sT) (mk : Nat) (w : fa_W) : Prop := px_V (sc + 1) gs t la li si nd ins os w ∧ px_TV (sc + 28) (sc + 1) gs t (gs.length + la) nd w ∧ px_FW (sc + 45) (sc + 1) gs t la li si nd ins fb sb mk w ∧ (mk < 2 ^ (gs.length + la) ∧ ∀ f, mk.testBit f = true ↔ pf_M fb t f) ∧ (w (sc + 57) 1 = ((72 : Nat) : Int) ∧ w (sc + 59) 1 = ((3 : Nat) : Int)) ∧ ∀ sp, sp < 3 → px_GL (sc + 56) sp (pg_g gs t (pf_A fb t sb (gs.length + la)) si (gs.length + la) mk sp) w
theorem px_SC_ob {sc : Nat} {gs : ps_G} {t : pt_T} {la li si nd mk : Nat} {ins os : List Nat} {fb : Nat → pt_T} {sb : pf_sT} {w w' : fa_W} (hV : pn_V gs t la li si nd) (e : ∀ i j, sc + 1 ≤ i → i ≤ sc + 62 → w' i j = w i j) (h : px_SC sc gs t la li si nd ins os fb sb mk w) : px_SC sc gs t la li si nd ins os fb sb mk w' := by
  obtain ⟨v1, v2, v3, v4, v5, v6, v7, k1, v8, v9⟩ := hV
  have tw : ∀ g, pt_tw (pn_tr gs t g) := pn_tr_tw v6 gs _ _ _ v8
  obtain ⟨h1, h2, h3, h4, h5, h6⟩ := h
  have eP : px_vo (sc + 1) w w' := fun i j p q => e i j (by omega) (by omega)
  exact ⟨px_V_ob tw eP h1, px_TV_of h2 (fun i j q => e i j (by omega) (by omega)), px_FW_ob (fun i j q => e i j (by omega) (by omega)) eP h3, h4, ⟨(e _ _ (by omega) (by omega)).trans h5.1, (e _ _ (by omega) (by omega)).trans h5.2⟩, fun sp hsp => ⟨(e _ _ (by omega) (by omega)).trans (h6 sp hsp).1, fun i hi => (e _ _ (by omega) (by omega)).trans ((h6 sp hsp).2 i hi)⟩⟩
theorem px_settle {sc : Nat} {gs : ps_G} {t : pt_T} {la li si nd : Nat} {ins os : List Nat} {fb : Nat → pt_T} {sb : pf_sT} {w : fa_W} (hsc : px_sK sc) (hV : pn_V gs t la li si nd) (hG : pf_G gs t la li si fb sb) (hX : px_V (sc + 1) gs t la li si nd ins os w) : ∃ b w', fm_Scene_settle sc w = some (b, w') ∧ (b = true → (∃ r, pv_P r gs t) ∧ ∃ mk, px_SC sc gs t la li si nd ins os fb sb mk w') ∧ (b = false → ¬ ∃ r, pv_P r gs t) ∧ ∀ i j, (i < sc + 28 ∨ sc + 62 < i) → w' i j = w i j := by
  obtain ⟨hp, hto, hFo, hGo, hoe, r0, r1, r2, r3⟩ := px_sK_all hsc
  obtain ⟨v1, v2, v3, v4, v5, v6, v7, k1, v8, v9⟩ := id hV
  have tw : ∀ g, pt_tw (pn_tr gs t g) := pn_tr_tw v6 gs _ _ _ v8
  obtain ⟨b, w1, e1, t1, f1, fr1⟩ := px_infer hto hp (by omega) hV hX
  unfold fm_Scene_settle
  rw [r0, r1, r2, r3, e1]
  cases b with
  | false =>
    refine ⟨false, w1, rfl, fun z => (by cases z), fun _ => f1 rfl, fun i j q => fr1 i j (by omega)⟩
  | true =>
    obtain ⟨hr, hTV⟩ := t1 rfl
    have X1 : px_V (sc + 1) gs t la li si nd ins os w1 := px_V_ob tw (fun i j p q => fr1 i j (by omega)) hX
    obtain ⟨w2, z, tb, cal, rg, e2, xc, ok, lz, XT, fr2, c1, c2, c3, c4, c5, c6, c7, c8⟩ := px_solve hFo hp (by omega) hV hG X1
    have X2 : px_V (sc + 1) gs t la li si nd ins os w2 := px_V_ob tw (fun i j p q => fr2 i j (by omega) (by omega)) X1
    have FW2 : px_FW (sc + 45) (sc + 1) gs t la li si nd ins fb sb z.2.2.2 w2 := ⟨z, tb, cal, rg, rfl, xc, ok, lz, XT, c1, c2, c3, c4, c5, c6, c7, c8⟩
    have TV2 : px_TV (sc + 28) (sc + 1) gs t (gs.length + la) nd w2 := px_TV_of hTV (fun i j q => fr2 i j (by omega) (by omega))
    have mkM : ∀ f, z.2.2.2.testBit f = true ↔ pf_M fb t f := fun f => by
      have := lz.2.2.1
      rw [← this]; exact Iff.rfl
    obtain ⟨w3, e3, fr3, s1, s2, s3⟩ := px_sort (nf := gs.length + la) (si := si) (mk := z.2.2.2) (A := pf_A fb t sb (gs.length + la)) hGo hp hto (by omega) (by omega) (by omega) (by omega) v4 ok.2.2.2 X2.2.1.2.1 X2.2.1.2.2 xc.2.2.2.2.1 TV2 (fun s hs a q => (mkM a).mpr (pf_A_M hG hs q).2) (fun w' hw' s hs => by
      have eP : px_vo (sc + 1) w2 w' := fun i j p q => hw' i j (by omega)
      have SV := px_FW_SV hFo hp hV hG (px_V_ob tw eP X2) (px_FW_ob (fun i j q => hw' i j (by omega)) eP FW2)
      obtain ⟨i, i1, i2, _⟩ := SV.2 s hs
      exact ⟨pf_num_lt _ _, i, i1, i2⟩)
    have eP3 : px_vo (sc + 1) w2 w3 := fun i j p q => fr3 i j (by omega)
    refine ⟨true, w3, ?_, fun _ => ⟨hr, z.2.2.2, px_V_ob tw eP3 X2, px_TV_of TV2 (fun i j q => fr3 i j (by omega)), px_FW_ob (fun i j q => fr3 i j (by omega)) eP3 FW2, ⟨ok.2.2.2, mkM⟩, ⟨s1, s2⟩, s3⟩, fun q => (by cases q), fun i j q => ?_⟩
    · show ((fm_Flow_solve (sc + 45) (sc + 1) w1).bind fun w6 => (fm_Groups_sort (sc + 56) (sc + 1) (sc + 28) (sc + 45) w6).bind fun w8 => some (true, w8)) = _
      rw [e2, Option.bind_some, e3, Option.bind_some]
    · rw [fr3 i j (by omega), fr2 i j (by omega) (by omega)]
      exact fr1 i j (by omega)
