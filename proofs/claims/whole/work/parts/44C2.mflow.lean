/-! CALLS and RINGS, by the reference, at the end of its looks -/
theorem pf_k_nf {nf nv ns : Nat} {H R : Nat → Nat → Prop} (hH : ∀ v f, H v f → f < nf) (hR : ∀ v f, R v f → f < nf) (t : pt_T) (tt : pt_tw t) : pf_W nf nv ns t → ∀ f, pf_k H R t f → f < nf := by
  induction t, tt using pt_indh with
  | num v => intro _ f k; exact False.elim k
  | var v x => intro _ f k; exact hH v f k
  | glo g x => intro W f k; have e : f = g := k; rw [e]; exact W
  | dead d => intro _ f k; exact False.elim k
  | lam g x b tb ih => intro W f k; have e : f = g := k; rw [e]; exact W.1
  | ife a b c ta tb tc iha ihb ihc => intro W f k; exact k.elim (ihb W.2.1 f) (ihc W.2.2 f)
  | lt v x a b ta tb iha ihb => intro W f k; exact ihb W.2.2 f k
  | op s a b ta tb iha ihb => intro _ f k; exact False.elim k
  | site s a b ta tb iha ihb => intro W f k; obtain ⟨g, _, k⟩ := k; exact hR g f k
theorem pf_ss_W {nf nv ns : Nat} {sb : pf_sT} {h : Int} (t : pt_T) (tt : pt_tw t) : pf_W nf nv ns t → pf_S sb h t → ∀ s, pf_ss t s → (sb s).1 = h ∧ pt_tw (sb s).2.1 ∧ pt_tw (sb s).2.2 ∧ pf_W nf nv ns (sb s).2.1 ∧ pf_W nf nv ns (sb s).2.2 ∧ s < ns := by
  induction t, tt using pt_indh with
  | num v => intro _ _ s k; exact False.elim k
  | var v x => intro _ _ s k; exact False.elim k
  | glo g x => intro _ _ s k; exact False.elim k
  | dead d => intro _ _ s k; exact False.elim k
  | lam g x b tb ih => intro _ _ s k; exact False.elim k
  | ife a b c ta tb tc iha ihb ihc =>
    intro W S s k
    rcases k with k | k | k
    · exact iha W.1 S.1 s k
    · exact ihb W.2.1 S.2.1 s k
    · exact ihc W.2.2 S.2.2 s k
  | lt v x a b ta tb iha ihb =>
    intro W S s k
    rcases k with k | k
    · exact iha W.2.1 S.1 s k
    · exact ihb W.2.2 S.2 s k
  | op v a b ta tb iha ihb =>
    intro W S s k
    rcases k with k | k
    · exact iha W.1 S.1 s k
    · exact ihb W.2 S.2 s k
  | site v a b ta tb iha ihb =>
    intro W S s k
    rcases k with k | k | k
    · rw [k, S.2.2]; exact ⟨rfl, ta, tb, W.2.1, W.2.2, W.1⟩
    · exact iha W.2.1 S.1 s k
    · exact ihb W.2.2 S.2.1 s k
theorem pf_X_lt {nf : Nat} {x : Nat} (hx : x < 2 ^ 24) (h : ∀ f, x.testBit f = true → f < nf) : x < 2 ^ nf := by
  refine Nat.lt_pow_two_of_testBit x (fun i hi => ?_)
  cases e : x.testBit i with
  | false => rfl
  | true => have := h i e; omega
/-- the SITES of the whole program as the reference knows them at the end -/
theorem pm_sx_of {gs : ps_G} {t : pt_T} {la li si : Nat} {fb : Nat → pt_T} {sb : pf_sT} {z : pf_s} {w : fa_W} (hG : pf_G gs t la li si fb sb) (hP : pf_PB (gs.length + la) fb t w) (hD : pf_done (gs.length + la) fb sb t z w) : pm_sx (gs.length + la) si (fun s => (sb s).1) z.2.2.1 (fun s => (w 209 s).toNat) w ∧ ∀ s, s < si → ∀ f : Nat, (sb s).1 = (f : Int) → z.2.2.1.testBit f = true → ∀ g, (w 209 s).toNat.testBit g = true ↔ pf_k (pf_b z.1) (pf_b z.2.1) (sb s).2.1 g := by
  obtain ⟨g1, g2, g3, ⟨g4, g5, g6, g7⟩, g8⟩ := hG
  obtain ⟨d1, d2, d3, d4, d5⟩ := hD
  obtain ⟨p1, ⟨b, p2, p3, p4⟩, p5⟩ := hP
  have key : ∀ s, s < si → ∀ f : Nat, (sb s).1 = (f : Int) → z.2.2.1.testBit f = true → pf_X z (sb s) s w ∧ pt_tw (sb s).2.1 ∧ pf_W (gs.length + la) (24 + li) si (sb s).2.1 := fun s hs f e c => by
    rcases g8 s hs with ⟨y1, y2⟩ | ⟨f', y1, y2, y3⟩
    · rw [e] at y1; omega
    · have : f' = f := by rw [e] at y2; omega
      rw [this] at y1 y3
      have q := pf_ss_W (fb f) (g2 f) (g3 f y1).2.1 (g3 f y1).2.2 s y3
      exact ⟨d5 s (Or.inr ⟨f, y1, c, y3⟩), q.2.1, q.2.2.2.1⟩
  refine ⟨fun s hs => ⟨?_, ?_, fun f e c => ?_⟩, fun s hs f e c g => ?_⟩
  · rcases g8 s hs with ⟨y1, y2⟩ | ⟨f', y1, y2, y3⟩
    · dsimp only; rw [y1]; exact pm_ss_home t g4 _ _ p4 s y2
    · obtain ⟨a, _, _, a3⟩ := p5 f' y1
      dsimp only; rw [y2]; exact pm_ss_home (fb f') (g2 f') _ _ a3 s y3
  · rcases g8 s hs with ⟨y1, y2⟩ | ⟨f', y1, y2, y3⟩
    · exact Or.inl y1
    · exact Or.inr ⟨f', y1, y2⟩
  · obtain ⟨⟨x1, x, y, r, x2, x3, x4, ⟨x5, _, _⟩, x6, _, _⟩, tw, W⟩ := key s hs f e c
    refine ⟨by rw [x1]; decide, by dsimp only; rw [x2, Int.toNat_natCast], ?_⟩
    try dsimp only
    rw [x2, Int.toNat_natCast]
    exact pf_X_lt x5 (fun f q => pf_k_nf (fun v f q => pf_tb_lt (d1.1 v) q) (fun v f q => pf_tb_lt (d1.2.1 v) q) _ tw W f ((x6 f).mp q))
  · obtain ⟨⟨x1, x, y, r, x2, x3, x4, _, x6, _, _⟩, _, _⟩ := key s hs f e c
    rw [x2, Int.toNat_natCast]
    exact x6 g
theorem pf_ws_cong {nf : Nat} {cal cal' : Nat → Nat} (h : ∀ f, f < nf → cal f = cal' f) : ∀ k, k ≤ nf → ∀ f, f < nf → pf_ws cal k f = pf_ws cal' k f := by
  intro k
  induction k with
  | zero => intro _ f hf; exact h f hf
  | succ k ih =>
    intro hk f hf
    unfold pf_ws
    rw [ih (by omega) f hf, ih (by omega) k (by omega)]
theorem pf_lr_cong {nf : Nat} {W W' rg rg' : Nat → Nat} (h : ∀ f, f < nf → W f = W' f) (h2 : ∀ f, f < nf → rg f = rg' f) : ∀ k, k ≤ nf → pf_lr W rg k = pf_lr W' rg' k := by
  intro k
  induction k with
  | zero => intro _; rfl
  | succ k ih =>
    intro hk
    rw [pf_lr_s, pf_lr_s, ih (by omega), h k (by omega), h2 k (by omega)]
theorem pm_laysRings {gs : ps_G} {t : pt_T} {la li si : Nat} {fb : Nat → pt_T} {sb : pf_sT} {z : pf_s} {w : fa_W} (h24 : gs.length + la ≤ 24) (hsi : si ≤ 100) (hG : pf_G gs t la li si fb sb) (hP : pf_PB (gs.length + la) fb t w) (hD : pf_done (gs.length + la) fb sb t z w) (hlz : pf_lz fb t z) (h20 : w 181 20 = (si : Int)) : ∃ (w' : fa_W) (cal rg : Nat → Nat), fm_Mod_laysRings w = some w' ∧ (∀ i j, ¬ (217 ≤ i ∧ i ≤ 220) → ¬ (i = 181 ∧ j = 64) → w' i j = w i j) ∧ (∀ f, f < gs.length + la → w' 217 f = (cal f : Int)) ∧ (∀ f, cal f < 2 ^ (gs.length + la)) ∧ (∀ f, f < gs.length + la → ∀ g, (cal f).testBit g = true ↔ pf_ca fb t sb si f g) ∧ pf_rg (gs.length + la) (pf_ws cal (gs.length + la)) rg ∧ pm_Rg (pf_ws cal (gs.length + la)) rg (gs.length + la) (gs.length + la) w' := by
  obtain ⟨FU, hFU⟩ : ∃ F, F = fa_FU := ⟨_, rfl⟩
  have hF2 : 1000 < FU := by rw [hFU]; unfold fa_FU; omega
  obtain ⟨s1, s2⟩ := pm_sx_of hG hP hD
  obtain ⟨d1, d2, ⟨fo, d3⟩, d4, d5⟩ := hD
  have h17 := hP.1
  have z0 : ((0 : Nat) : Int) = 0 := rfl
  unfold fm_Mod_laysRings
  rw [← hFU]
  obtain ⟨w1, cal0, a1, a2, a3⟩ := pm_rc_2 hFU h24 hsi h17 h20 d3.2.2.1 d1.2.2.1 s1 (gs.length + la) 0 FU (fun _ => 0) w (by omega) (by omega) (fun _ _ _ => rfl) (fun f hf => by omega)
  rw [z0] at a1
  rw [a1]
  have hex : ∃ cal : Nat → Nat, (∀ f, f < gs.length + la → cal f = cal0 f) ∧ ∀ f, cal f < 2 ^ (gs.length + la) := ⟨fun f => if f < gs.length + la then cal0 f else 0, fun f hf => if_pos hf, fun f => by
    try dsimp only
    split
    · rename_i hf; exact (a3 f hf).2.2.2.1
    · exact Nat.two_pow_pos _⟩
  obtain ⟨cal, e1, e2⟩ := hex
  have h17' : w1 181 17 + w1 181 18 = ((gs.length + la : Nat) : Int) := by rw [a2 _ _ (by omega), a2 _ _ (by omega)]; exact h17
  obtain ⟨w2, b1, b2, b3⟩ := pm_cc_105 (w0 := w1) (cal := cal) hFU h24 h17' e2 (gs.length + la) 0 FU w1 (by omega) (by omega) (fun _ _ _ => rfl) (fun f hf => by show _ = ((cal f : Nat) : Int); rw [e1 f hf]; exact (a3 f hf).2.1)
  rw [z0] at b1
  rw [b1]
  have hW := pf_ws_lt e2 (gs.length + la)
  have htr : ∀ f g h, (pf_ws cal (gs.length + la) f).testBit g = true → (pf_ws cal (gs.length + la) g).testBit h = true → (pf_ws cal (gs.length + la) f).testBit h = true := fun f g h p q => by
    rw [pf_ws_re e2] at p q ⊢
    exact pf_re_tr p q
  obtain ⟨rg, hrg⟩ := pf_rg_ex (nf := gs.length + la) (pf_ws cal (gs.length + la)) (fun f hf => by
    have : ∀ n, ∃ r : Nat, r < 2 ^ (gs.length + la) ∧ ∀ g, r.testBit g = true ↔ g < n ∧ g < gs.length + la ∧ (pf_ws cal (gs.length + la) f).testBit g = true ∧ (pf_ws cal (gs.length + la) g).testBit f = true := by
      intro n
      induction n with
      | zero => exact ⟨0, Nat.two_pow_pos _, fun g => ⟨fun q => (by rw [Nat.zero_testBit] at q; cases q), fun q => by omega⟩⟩
      | succ n ih =>
        obtain ⟨r, r1, r2⟩ := ih
        by_cases c : n < gs.length + la ∧ (pf_ws cal (gs.length + la) f).testBit n = true ∧ (pf_ws cal (gs.length + la) n).testBit f = true
        · refine ⟨r ||| 2 ^ n, Nat.or_lt_two_pow r1 (Nat.pow_lt_pow_right (by decide) c.1), fun g => ?_⟩
          rw [Nat.testBit_or, Bool.or_eq_true, r2 g, pf_one]
          constructor
          · rintro (⟨p, q⟩ | p)
            · exact ⟨by omega, q⟩
            · rw [p]; exact ⟨by omega, c⟩
          · rintro ⟨p, q⟩
            by_cases e : g = n
            · exact Or.inr e
            · exact Or.inl ⟨by omega, q⟩
        · refine ⟨r, r1, fun g => (r2 g).trans ⟨fun ⟨p, q⟩ => ⟨by omega, q⟩, fun ⟨p, q⟩ => ?_⟩⟩
          by_cases e : g = n
          · rw [e] at q; exact absurd q c
          · exact ⟨by omega, q⟩
    obtain ⟨r, r1, r2⟩ := this (gs.length + la)
    exact ⟨r, r1, fun g => (r2 g).trans ⟨fun q => q.2, fun q => ⟨q.1, q⟩⟩⟩)
  have fr : ∀ i j, ¬ (217 ≤ i ∧ i ≤ 219) → w2 i j = w i j := fun i j p => (b2 i j (by omega)).trans (a2 i j p)
  obtain ⟨w3, c1, c2, c3⟩ := pm_rr_170 (w0 := fa_st w2 181 64 0) hFU h24 (by rw [fa_st_ne (by omega), fa_st_ne (by omega), b2 _ _ (by omega), b2 _ _ (by omega)]; exact h17') (fun f hf => by rw [fa_st_ne (by omega)]; exact b3 f hf) hW htr hrg (gs.length + la) 0 FU (fa_st w2 181 64 0) (by omega) (by omega) (fun _ _ _ _ => rfl) ⟨fa_st_eq _ _ _ _, fun f hf => by rw [fa_st_ne (by omega), b2 _ _ (by omega)]; exact (a3 f hf).2.2.1, fun i hi => by cases hi⟩
  rw [z0] at c1
  refine ⟨w3, cal, rg, c1, fun i j p q => (c2 i j (by omega) q).trans ((fa_st_ne (by omega)).trans (fr i j (by omega))), fun f hf => ?_, e2, fun f hf g => ?_, hrg, c3⟩
  · rw [c2 _ _ (by omega) (by omega), fa_st_ne (by omega), b2 _ _ (by omega), e1 f hf]; exact (a3 f hf).1
  · rw [e1 f hf]
    refine ((a3 f hf).2.2.2.2 g).trans ?_
    unfold pf_ca
    rw [← hlz.2.2.1, ← hlz.1, ← hlz.2.1]
    exact and_congr_right (fun c => ⟨fun ⟨s, q1, q2, q3⟩ => ⟨s, q1, q2, (s2 s q1 f q2 c g).mp q3⟩, fun ⟨s, q1, q2, q3⟩ => ⟨s, q1, q2, (s2 s q1 f q2 c g).mpr q3⟩⟩)
