/-! all of the class's flow -/
theorem pf_rg_ex {nf : Nat} (W : Nat → Nat) (H : ∀ f, f < nf → ∃ r : Nat, r < 2 ^ nf ∧ ∀ g, r.testBit g = true ↔ g < nf ∧ (W f).testBit g = true ∧ (W g).testBit f = true) : ∃ rg, pf_rg nf W rg := by
  have : ∀ n, n ≤ nf → ∃ rg : Nat → Nat, ∀ f, f < n → rg f < 2 ^ nf ∧ ∀ g, (rg f).testBit g = true ↔ g < nf ∧ (W f).testBit g = true ∧ (W g).testBit f = true := by
    intro n
    induction n with
    | zero => intro _; exact ⟨fun _ => 0, fun f hf => by omega⟩
    | succ n ih =>
      intro hn
      obtain ⟨rg, h⟩ := ih (by omega)
      obtain ⟨r, r1⟩ := H n (by omega)
      refine ⟨pu_set rg n r, fun f hf => ?_⟩
      by_cases e : f = n
      · rw [e, pu_set_eq]; exact r1
      · rw [pu_set_ne _ _ e]; exact h f (by omega)
  exact this nf (Nat.le_refl _)
theorem px_solve {o oP : Nat} {gs : ps_G} {t : pt_T} {la li si nd : Nat} {ins os : List Nat} {w : fa_W} {fb : Nat → pt_T} {sb : pf_sT} (ho : px_Fo o) (hp : px_po oP) (hd : oP + 26 < o) (hV : pn_V gs t la li si nd) (hG : pf_G gs t la li si fb sb) (hX : px_V oP gs t la li si nd ins os w) : ∃ (w' : fa_W) (z : pf_s) (tb : pf_TB) (cal rg : Nat → Nat), fm_Flow_solve o oP w = some w' ∧ px_xc o nd z false w' ∧ pf_ok (gs.length + la) z ∧ px_lz nd (gs.length + la) (24 + li) fb t ins tb z ∧ pf_XT oP nd (gs.length + la) (24 + li) si fb sb t ins tb w' ∧ (∀ i j, ¬ (i = o ∧ 5 ≤ j ∧ j ≤ 7) → ¬ (o + 1 ≤ i ∧ i ≤ o + 10) → w' i j = w i j) ∧ w' (o + 5) 1 = ((gs.length + la : Nat) : Int) ∧ (∀ f, f < gs.length + la → w' (o + 6) f = (cal f : Int)) ∧ (∀ f, cal f < 2 ^ (gs.length + la)) ∧ (∀ f, f < gs.length + la → ∀ g, (cal f).testBit g = true ↔ pf_ca fb t sb si f g) ∧ w' (o + 7) 1 = ((gs.length + la : Nat) : Int) ∧ (∀ f, f < gs.length + la → w' (o + 8) f = (pf_ws cal (gs.length + la) f : Int)) ∧ pf_rg (gs.length + la) (pf_ws cal (gs.length + la)) rg ∧ px_Rg o (gs.length + la) (pf_lr (pf_ws cal (gs.length + la)) rg (gs.length + la)) w' := by
  obtain ⟨v1, v2, v3, v4, v5, v6, v7, kk, v8, v9⟩ := id hV
  have tw := pn_tr_tw v6 gs _ _ _ v8
  obtain ⟨w1, z, tb, a1, a2, a3, a4, a5, a6⟩ := px_solve1 ho hp hd hV hG hX
  have tf := hG.2.1
  have hs := hG.2.2.2.2
  have vo : px_vo oP w w1 := fun i j p q => a6 i j (by omega) (by omega)
  have X1 := px_V_ob tw vo hX
  have z1 := px_V_pz X1 v3
  have h11 := X1.1.2.2.2.2.2.1
  have h14 := X1.2.1.2.1
  have h15 := X1.2.1.2.2
  have h24 : gs.length + la ≤ 24 := by omega
  obtain ⟨w2, cal, b1, b2, b3, b4, b5, b6⟩ := px_calls ho hp hd h24 v3 v4 v6 tf a5 hs z1 a2 a3 a4 h11 h14 h15
  obtain ⟨w3, c1, c2, c3, c4⟩ := px_closeCalls (oP := oP) ho hd h24 ((b2 _ _ (by omega) (by omega)).trans h14) b5 b3 b4
  have h14c : w3 oP 14 = ((gs.length + la : Nat) : Int) := (c2 _ _ (by omega) (by omega)).trans ((b2 _ _ (by omega) (by omega)).trans h14)
  have hW := pf_ws_lt b5 (gs.length + la)
  obtain ⟨rg, hrg⟩ := pf_rg_ex (nf := gs.length + la) (pf_ws cal (gs.length + la)) (fun f hf => by
    obtain ⟨r, _, r2, r3⟩ := px_ringFrom (oP := oP) ho h24 h14c hf c3 c4 hW
    exact ⟨r, r2, r3⟩)
  obtain ⟨w4, d1, d2, d3⟩ := px_listRings ho hd h24 h14c c3 c4 hW hrg
  have fr : ∀ i j, ¬ (o + 5 ≤ i ∧ i ≤ o + 10) → w4 i j = w1 i j := fun i j p => (d2 i j (by omega) (by omega)).trans ((c2 i j (by omega) (by omega)).trans (b2 i j (by omega) (by omega)))
  refine ⟨w4, z, tb, cal, rg, ?_, ?_, a3, a4, pf_XT_ob (fun i j p q => fr i j (by omega)) a5, fun i j p q => (fr i j (by omega)).trans (a6 i j p (by omega)), ?_, fun f hf => ?_, b5, b6, ?_, fun f hf => ?_, hrg, d3⟩
  · rw [a1]
    unfold fm_Flow_solve_j97
    rw [b1, Option.bind_some, c1, Option.bind_some, d1, Option.bind_some]
  · obtain ⟨⟨c1, c2⟩, c3, c4, c5, c6, c7⟩ := a2
    exact ⟨⟨(fr _ _ (by omega)).trans c1, (fr _ _ (by omega)).trans c2⟩, fun i hi => (fr _ _ (by omega)).trans (c3 i hi), fun v hv => (fr _ _ (by omega)).trans (c4 v hv), (fr _ _ (by omega)).trans c5, (fr _ _ (by omega)).trans c6, (fr _ _ (by omega)).trans c7⟩
  · exact (d2 _ _ (by omega) (by omega)).trans ((c2 _ _ (by omega) (by omega)).trans b3)
  · exact (d2 _ _ (by omega) (by omega)).trans ((c2 _ _ (by omega) (by omega)).trans (b4 f hf))
  · exact (d2 _ _ (by omega) (by omega)).trans c3
  · exact (d2 _ _ (by omega) (by omega)).trans (c4 f hf)
