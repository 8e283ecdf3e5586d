/-! the RINGS, by the reference -/
def pm_fr2 (w w' : fa_W) : Prop := ∀ i j, ¬ (219 ≤ i ∧ i ≤ 220) → ¬ (i = 181 ∧ j = 64) → w' i j = w i j
def pf_mb (W : Nat → Nat) (f g : Nat) : Bool := (W f).testBit g && (W g).testBit f
theorem pm_rr_216 {nf f c : Nat} {W : Nat → Nat} {fi : Nat → Int} {w0 : fa_W} {K : Int → fa_W → Option fa_W} (h24 : nf ≤ 24) (hf : f < nf) (hc : c < 24) (h17 : w0 181 17 + w0 181 18 = (nf : Int)) (h8 : ∀ f, f < nf → w0 218 f = (W f : Int)) (hb : ∀ f, W f < 2 ^ nf) (h64 : w0 181 64 = (c : Int)) : ∀ (d x F acc : Nat) (w : fa_W), nf = x + d → f ≤ x → d < F → (∀ i j, ¬ (219 ≤ i ∧ i ≤ 220) → w i j = w0 i j) → w 220 c = (acc : Int) → acc < 2 ^ nf → (∀ g, g < nf → w 219 g = if f ≤ g ∧ g < x ∧ pf_mb W f g = true then (c : Int) else fi g) → ∃ (w' : fa_W) (r : Nat), fm_Mod_laysRings_l216 K F (f : Int) (x : Int) w = K ((f : Int) + 1) w' ∧ pm_fr2 w0 w' ∧ w' 181 64 = ((c + 1 : Nat) : Int) ∧ w' 220 c = (r : Int) ∧ r < 2 ^ nf ∧ (∀ g, r.testBit g = true ↔ acc.testBit g = true ∨ (x ≤ g ∧ g < nf ∧ pf_mb W f g = true)) ∧ (∀ g, g < nf → w' 219 g = if f ≤ g ∧ pf_mb W f g = true then (c : Int) else fi g) ∧ ∀ j, j ≠ c → w' 220 j = w 220 j := by
  have jf : fa_ix (f : Int) 24 = some f := pb_ix (by omega) (by omega)
  intro d
  induction d with
  | zero =>
    intro x F acc w hx hfx hF hw hac ha hg
    obtain ⟨F, rfl⟩ : ∃ G, F = G + 1 := ⟨F - 1, by omega⟩
    refine ⟨fa_st w 181 64 ((c + 1 : Nat) : Int), acc, ?_, fun i j p q => (fa_st_ne (by omega)).trans (hw i j p), fa_st_eq _ _ _ _, (fa_st_ne (by omega)).trans hac, ha, fun g => ⟨Or.inl, fun h => ?_⟩, fun g hl => ?_, fun j _ => fa_st_ne (by omega)⟩
    · unfold fm_Mod_laysRings_l216 fm_Mod_functions
      rw [hw _ _ (by omega), hw _ _ (by omega), h17, pb_wr (by omega), pb_wr (by omega), if_pos (by omega), hw 181 64 (by omega), h64, pf_let_eq, pf_let_eq]
      rfl
    · rcases h with h | ⟨p, q, _⟩
      · exact h
      · omega
    · rw [fa_st_ne (by omega), hg g hl]
      by_cases e : f ≤ g ∧ pf_mb W f g = true
      · rw [if_pos ⟨e.1, by omega, e.2⟩, if_pos e]
      · rw [if_neg (fun q => e ⟨q.1, q.2.2⟩), if_neg e]
  | succ d ih =>
    intro x F acc w hx hfx hF hw hac ha hg
    obtain ⟨F, rfl⟩ : ∃ G, F = G + 1 := ⟨F - 1, by omega⟩
    have jx : fa_ix (x : Int) 24 = some x := pb_ix (by omega) (by omega)
    have jc : fa_ix (c : Int) 24 = some c := pb_ix (by omega) (by omega)
    have nx : ((x : Nat) : Int) + 1 = ((x + 1 : Nat) : Int) := by omega
    have gg : ∀ y, y < nf → w 218 y = ((W y : Nat) : Int) := fun y hy => (hw _ _ (by omega)).trans (h8 y hy)
    have skip : ¬ pf_mb W f x = true → (∃ (w' : fa_W) (r : Nat), fm_Mod_laysRings_l216 K F (f : Int) ((x + 1 : Nat) : Int) w = K ((f : Int) + 1) w' ∧ pm_fr2 w0 w' ∧ w' 181 64 = ((c + 1 : Nat) : Int) ∧ w' 220 c = (r : Int) ∧ r < 2 ^ nf ∧ (∀ g, r.testBit g = true ↔ acc.testBit g = true ∨ (x ≤ g ∧ g < nf ∧ pf_mb W f g = true)) ∧ (∀ g, g < nf → w' 219 g = if f ≤ g ∧ pf_mb W f g = true then (c : Int) else fi g) ∧ ∀ j, j ≠ c → w' 220 j = w 220 j) := fun no => by
      obtain ⟨w', r, q1, q2, q3, q4, q5, q6, q7, q8⟩ := ih (x + 1) F acc w (by omega) (by omega) (by omega) hw hac ha (fun g hl => by
        rw [hg g hl]
        by_cases eg : g = x
        · rw [eg, if_neg (fun q => by omega), if_neg (fun q => no q.2.2)]
        · by_cases e : f ≤ g ∧ g < x ∧ pf_mb W f g = true
          · rw [if_pos e, if_pos ⟨e.1, by omega, e.2.2⟩]
          · rw [if_neg e, if_neg (fun q => e ⟨q.1, by omega, q.2.2⟩)])
      refine ⟨w', r, q1, q2, q3, q4, q5, fun g => (q6 g).trans ⟨fun y => ?_, fun y => ?_⟩, q7, q8⟩
      · rcases y with y | ⟨p, y⟩
        · exact Or.inl y
        · exact Or.inr ⟨by omega, y⟩
      · rcases y with y | ⟨p, q, y⟩
        · exact Or.inl y
        · have : g ≠ x := fun es => no (by rw [← es]; exact y)
          exact Or.inr ⟨by omega, q, y⟩
    have hone : ∀ g, (2 ^ x).testBit g = true ↔ g = x := fun g => pf_one
    have hlt : 2 ^ x < 2 ^ nf := Nat.pow_lt_pow_right (by decide) (by omega)
    have hbit : fa_ishl 1 (x : Int) = ((2 ^ x : Nat) : Int) := pf_shl1 (by omega)
    generalize 2 ^ x = y at hone hlt hbit
    unfold fm_Mod_laysRings_l216 fm_Mod_functions
    rw [hw 181 17 (by omega), hw 181 18 (by omega), h17, pb_wr (by omega), pb_wr (by omega), if_neg (by omega), jf, Option.bind_some, gg f hf, pf_hd (pf_lt24 (pf_two h24 (hb f))) (by omega)]
    cases e1 : (W f).testBit x with
    | false =>
      rw [if_neg (by decide), pf_let_eq, nx]
      exact skip (fun q => by unfold pf_mb at q; rw [e1] at q; cases q)
    | true =>
      rw [if_pos rfl, jx, Option.bind_some, gg x (by omega), pf_hd (pf_lt24 (pf_two h24 (hb x))) (by omega)]
      cases e2 : (W x).testBit f with
      | false =>
        rw [if_neg (by decide), pf_let_eq, nx]
        exact skip (fun q => by unfold pf_mb at q; rw [e1, e2] at q; cases q)
      | true =>
        have em : pf_mb W f x = true := by unfold pf_mb; rw [e1, e2]; rfl
        have c1 : fa_st w 219 x (c : Int) 181 64 = (c : Int) := by rw [fa_st_ne (by omega), hw _ _ (by omega)]; exact h64
        have c2 : fa_st w 219 x (c : Int) 220 c = (acc : Int) := by rw [fa_st_ne (by omega)]; exact hac
        rw [if_pos rfl, Option.bind_some, hw 181 64 (by omega), h64, pf_let_eq, c1, jc, Option.bind_some, Option.bind_some, c2, hbit, pb_or (pf_lt24 (pf_two h24 ha)) (pf_lt24 (pf_two h24 hlt)), pf_let_eq, pf_let_eq, nx]
        obtain ⟨w', r, q1, q2, q3, q4, q5, q6, q7, q8⟩ := ih (x + 1) F (acc ||| y) (fa_st (fa_st w 219 x (c : Int)) 220 c ((acc ||| y : Nat) : Int)) (by omega) (by omega) (by omega) (fun i j p => (fa_st_ne (by omega)).trans ((fa_st_ne (by omega)).trans (hw i j p))) (fa_st_eq _ _ _ _) (Nat.or_lt_two_pow ha hlt) (fun g hl => by
          rw [fa_st_ne (by omega)]
          by_cases eg : g = x
          · rw [eg, fa_st_eq]
            rw [if_pos ⟨hfx, by omega, em⟩]
          · rw [fa_st_ne (by omega), hg g hl]
            by_cases e : f ≤ g ∧ g < x ∧ pf_mb W f g = true
            · rw [if_pos e, if_pos ⟨e.1, by omega, e.2.2⟩]
            · rw [if_neg e, if_neg (fun q => e ⟨q.1, by omega, q.2.2⟩)])
        refine ⟨w', r, q1, q2, q3, q4, q5, fun g => (q6 g).trans ?_, q7, fun j hj => (q8 j hj).trans ((fa_st_ne (by omega)).trans (fa_st_ne (by omega)))⟩
        rw [Nat.testBit_or, Bool.or_eq_true, hone]
        constructor
        · rintro ((k | k) | ⟨p, k⟩)
          · exact Or.inl k
          · rw [k]; exact Or.inr ⟨Nat.le_refl _, by omega, em⟩
          · exact Or.inr ⟨by omega, k⟩
        · rintro (k | ⟨p, q, k⟩)
          · exact Or.inl (Or.inl k)
          · by_cases eg : g = x
            · exact Or.inl (Or.inr eg)
            · exact Or.inr ⟨by omega, q, k⟩
theorem pf_fi_in {f : Nat} : ∀ (l : List Nat) (k : Nat), pf_fi f l k ≠ -1 → ∃ m ∈ l, m.testBit f = true := by
  intro l
  induction l with
  | nil => intro k h; exact absurd rfl h
  | cons m r ih =>
    intro k h
    by_cases e : m.testBit f = true
    · exact ⟨m, List.mem_cons_self .., e⟩
    · have : pf_fi f (m :: r) k = pf_fi f r (k + 1) := if_neg e
      rw [this] at h
      obtain ⟨x, x1, x2⟩ := ih _ h
      exact ⟨x, List.mem_cons_of_mem _ x1, x2⟩
theorem pf_fi_ne {f : Nat} : ∀ (l : List Nat) (k : Nat) (m : Nat), m ∈ l → m.testBit f = true → pf_fi f l k ≠ -1 := by
  intro l
  induction l with
  | nil => intro k m h; cases h
  | cons x r ih =>
    intro k m h hm
    show (if x.testBit f = true then (k : Int) else pf_fi f r (k + 1)) ≠ -1
    by_cases e : x.testBit f = true
    · rw [if_pos e]; omega
    · rw [if_neg e]
      rcases List.mem_cons.mp h with rfl | h
      · exact absurd hm e
      · exact ih _ m h hm
theorem pf_fi_snoc {f m : Nat} : ∀ (l : List Nat) (k : Nat), pf_fi f (l ++ [m]) k = if pf_fi f l k = -1 then (if m.testBit f = true then ((k + l.length : Nat) : Int) else -1) else pf_fi f l k := by
  intro l
  induction l with
  | nil =>
    intro k
    show (if m.testBit f = true then (k : Int) else -1) = if (-1 : Int) = -1 then _ else _
    rw [if_pos rfl]
    rfl
  | cons x r ih =>
    intro k
    show (if x.testBit f = true then (k : Int) else pf_fi f (r ++ [m]) (k + 1)) = if (if x.testBit f = true then (k : Int) else pf_fi f r (k + 1)) = -1 then _ else (if x.testBit f = true then (k : Int) else pf_fi f r (k + 1))
    by_cases e : x.testBit f = true
    · rw [if_pos e, if_pos e, if_neg (by omega)]
    · rw [if_neg e, if_neg e, ih (k + 1), List.length_cons, show k + 1 + r.length = k + (r.length + 1) by omega]
/-- the RINGS so far: each is one of a FUNCTION, and those before have theirs -/
def pf_ri (W rg : Nat → Nat) (nf k : Nat) : Prop := (∀ m ∈ pf_lr W rg k, ∃ g, g < nf ∧ m = rg g) ∧ ∀ g, g < k → (W g).testBit g = true → pf_fi g (pf_lr W rg k) 0 ≠ -1
theorem pf_lr_s (W rg : Nat → Nat) (k : Nat) : pf_lr W rg (k + 1) = if (W k).testBit k = true ∧ pf_fi k (pf_lr W rg k) 0 = -1 then pf_lr W rg k ++ [rg k] else pf_lr W rg k := rfl
theorem pf_ri_of {W rg : Nat → Nat} {nf : Nat} (hrg : pf_rg nf W rg) : ∀ k, k ≤ nf → pf_ri W rg nf k := by
  intro k
  induction k with
  | zero => intro _; exact ⟨fun m hm => (by cases hm), fun g hg => by omega⟩
  | succ k ih =>
    intro hk
    obtain ⟨i1, i2⟩ := ih (by omega)
    unfold pf_ri
    rw [pf_lr_s]
    by_cases e : (W k).testBit k = true ∧ pf_fi k (pf_lr W rg k) 0 = -1
    · rw [if_pos e]
      refine ⟨fun m hm => ?_, fun g hg hw => ?_⟩
      · rcases List.mem_append.mp hm with hm | hm
        · exact i1 m hm
        · rw [List.mem_singleton] at hm; exact ⟨k, by omega, hm⟩
      · rw [pf_fi_snoc]
        by_cases eg : g = k
        · rw [eg, if_pos e.2, if_pos (((hrg k (by omega)).2 k).mpr ⟨by omega, e.1, e.1⟩)]; omega
        · have := i2 g (by omega) hw
          rw [if_neg this]; exact this
    · rw [if_neg e]
      refine ⟨i1, fun g hg hw => ?_⟩
      by_cases eg : g = k
      · rw [eg] at hw ⊢
        exact fun q => e ⟨hw, q⟩
      · exact i2 g (by omega) hw
def pm_Rg (W rg : Nat → Nat) (nf k : Nat) (w : fa_W) : Prop := w 181 64 = ((pf_lr W rg k).length : Int) ∧ (∀ f, f < nf → w 219 f = pf_fi f (pf_lr W rg k) 0) ∧ ∀ i, i < (pf_lr W rg k).length → w 220 i = (((pf_lr W rg k).getD i 0 : Nat) : Int)
theorem pm_rr_170 {nf : Nat} {W rg : Nat → Nat} {w0 : fa_W} {FU : Nat} (hFU : FU = fa_FU) (h24 : nf ≤ 24) (h17 : w0 181 17 + w0 181 18 = (nf : Int)) (h8 : ∀ f, f < nf → w0 218 f = (W f : Int)) (hb : ∀ f, W f < 2 ^ nf) (htr : ∀ f g h, (W f).testBit g = true → (W g).testBit h = true → (W f).testBit h = true) (hrg : pf_rg nf W rg) : ∀ (d k F : Nat) (w : fa_W), nf = k + d → d < F → pm_fr2 w0 w → pm_Rg W rg nf k w → ∃ w', fm_Mod_laysRings_l170 F (k : Int) w = some w' ∧ pm_fr2 w0 w' ∧ pm_Rg W rg nf nf w' := by
  have hF2 : 1000 < FU := by rw [hFU]; unfold fa_FU; omega
  intro d
  induction d with
  | zero =>
    intro k F w hk hF hw hc
    obtain ⟨F, rfl⟩ : ∃ G, F = G + 1 := ⟨F - 1, by omega⟩
    have ek : k = nf := by omega
    rw [ek] at hc
    refine ⟨w, ?_, hw, hc⟩
    unfold fm_Mod_laysRings_l170 fm_Mod_functions
    rw [hw _ _ (by omega) (by omega), hw _ _ (by omega) (by omega), h17, pb_wr (by omega), pb_wr (by omega), if_pos (by omega)]
  | succ d ih =>
    intro k F w hk hF hw hc
    obtain ⟨F, rfl⟩ : ∃ G, F = G + 1 := ⟨F - 1, by omega⟩
    have jk : fa_ix (k : Int) 24 = some k := pb_ix (by omega) (by omega)
    have nx : ((k : Nat) : Int) + 1 = ((k + 1 : Nat) : Int) := by omega
    have gk : w 218 k = ((W k : Nat) : Int) := (hw _ _ (by omega) (by omega)).trans (h8 k (by omega))
    obtain ⟨c1, c2, c3⟩ := id hc
    have len := pf_lr_len W rg k
    unfold fm_Mod_laysRings_l170 fm_Mod_functions
    rw [← hFU, hw _ _ (by omega) (by omega), hw _ _ (by omega) (by omega), h17, pb_wr (by omega), pb_wr (by omega), if_neg (by omega), jk, Option.bind_some, gk, pf_hd (pf_lt24 (pf_two h24 (hb k))) (by omega)]
    have nextv := pf_lr_s W rg k
    by_cases e1 : (W k).testBit k = true
    · rw [if_pos e1, Option.bind_some, c2 k (by omega)]
      rcases pf_fi_cases k (pf_lr W rg k) 0 with ⟨e2, no⟩ | ⟨i, i1, e2, _⟩
      · have jl : fa_ix ((pf_lr W rg k).length : Int) 24 = some (pf_lr W rg k).length := pb_ix (by omega) (by omega)
        rw [e2, pb_wr1, if_pos rfl, c1, jl, Option.bind_some, pf_let_eq]
        rw [if_pos ⟨e1, e2⟩] at nextv
        obtain ⟨r1, r2⟩ := pf_ri_of hrg k (by omega)
        have below : ∀ g, g < k → ¬ pf_mb W k g = true := fun g hg hm => by
          unfold pf_mb at hm
          rw [Bool.and_eq_true] at hm
          have hgg := htr g k g hm.2 hm.1
          obtain ⟨m, m1, m2⟩ := pf_fi_in _ _ (r2 g hg hgg)
          obtain ⟨g', g1, g2⟩ := r1 m m1
          rw [g2, (hrg g' g1).2 g] at m2
          refine no m m1 ?_
          rw [g2, (hrg g' g1).2 k]
          exact ⟨by omega, htr _ _ _ m2.2.1 hm.2, htr _ _ _ hm.1 m2.2.2⟩
        have fresh : ∀ g, g < nf → pf_mb W k g = true → pf_fi g (pf_lr W rg k) 0 = -1 := fun g hg hm => by
          rcases pf_fi_cases g (pf_lr W rg k) 0 with ⟨e, _⟩ | ⟨i, i1, _, i3⟩
          · exact e
          · exfalso
            unfold pf_mb at hm
            rw [Bool.and_eq_true] at hm
            have hmem : (pf_lr W rg k).getD i 0 ∈ pf_lr W rg k := by
              rw [List.getD_eq_getElem?_getD, List.getElem?_eq_getElem i1]; exact List.getElem_mem i1
            obtain ⟨g', g1, g2⟩ := r1 _ hmem
            rw [g2, (hrg g' g1).2 g] at i3
            refine no _ hmem ?_
            rw [g2, (hrg g' g1).2 k]
            exact ⟨by omega, htr _ _ _ i3.2.1 hm.2, htr _ _ _ hm.1 i3.2.2⟩
        obtain ⟨w1, r, q1, q2, q3, q4, q5, q6, q7, q8⟩ := pm_rr_216 (f := k) (c := (pf_lr W rg k).length) (fi := fun g => pf_fi g (pf_lr W rg k) 0) (w0 := fa_st w 220 (pf_lr W rg k).length 0) (K := fun x1 w9 => fm_Mod_laysRings_l170 F x1 w9) h24 (by omega) (by omega) (by rw [fa_st_ne (by omega), fa_st_ne (by omega), hw _ _ (by omega) (by omega), hw _ _ (by omega) (by omega)]; exact h17) (fun f hf => by rw [fa_st_ne (by omega), hw _ _ (by omega) (by omega)]; exact h8 f hf) hb (by rw [fa_st_ne (by omega)]; exact c1) d.succ k FU 0 (fa_st w 220 (pf_lr W rg k).length 0) (by omega) (Nat.le_refl _) (by omega) (fun _ _ _ => rfl) (fa_st_eq _ _ _ _) (Nat.two_pow_pos _) (fun g hl => by
          rw [fa_st_ne (by omega), if_neg (fun q => by omega)]; exact c2 g hl)
        rw [q1]
        try dsimp only
        rw [nx]
        have er : r = rg k := Nat.eq_of_testBit_eq (fun g => Bool.eq_iff_iff.mpr ((q6 g).trans (Iff.trans ?_ ((hrg k (by omega)).2 g).symm)))
        · refine ih (k + 1) F w1 (by omega) (by omega) (fun i j p q => (q2 i j p q).trans ((fa_st_ne (by omega)).trans (hw i j p q))) ?_
          unfold pm_Rg
          rw [nextv, List.length_append]
          refine ⟨q3, fun g hg => ?_, fun i hi => ?_⟩
          · rw [q7 g hg, pf_fi_snoc]
            by_cases em : pf_mb W k g = true
            · have kg : k ≤ g := Nat.le_of_not_lt (fun q => below g q em)
              rw [if_pos ⟨kg, em⟩, if_pos (fresh g hg em), if_pos (by
                rw [(hrg k (by omega)).2 g]
                unfold pf_mb at em
                rw [Bool.and_eq_true] at em
                exact ⟨hg, em⟩), Nat.zero_add]
            · rw [if_neg (fun q => em q.2)]
              split
              · rename_i e3
                rw [if_neg (fun q => em (by
                  rw [(hrg k (by omega)).2 g] at q
                  unfold pf_mb
                  rw [q.2.1, q.2.2]; rfl)), e3]
              · rfl
          · change i < (pf_lr W rg k).length + 1 at hi
            by_cases ei : i = (pf_lr W rg k).length
            · rw [ei, List.getD_eq_getElem?_getD, List.getElem?_append_right (Nat.le_refl _), Nat.sub_self, q4, er]; rfl
            · rw [List.getD_eq_getElem?_getD, List.getElem?_append_left (by omega), ← List.getD_eq_getElem?_getD, q8 i ei, fa_st_ne (by omega)]
              exact c3 i (by omega)
        · constructor
          · rintro (y | ⟨p, q, y⟩)
            · rw [Nat.zero_testBit] at y; cases y
            · unfold pf_mb at y; rw [Bool.and_eq_true] at y; exact ⟨q, y⟩
          · rintro ⟨p, y⟩
            have em : pf_mb W k g = true := by unfold pf_mb; rw [y.1, y.2]; rfl
            exact Or.inr ⟨Nat.le_of_not_lt (fun q => below g q em), p, em⟩
      · rw [e2, pb_wr (by omega), if_neg (by omega), pf_let_eq, nx]
        refine ih (k + 1) F w (by omega) (by omega) hw ?_
        rw [if_neg (fun q => by rw [e2] at q; have := q.2; omega)] at nextv
        unfold pm_Rg
        rw [nextv]; exact hc
    · rw [if_neg e1, pf_let_eq, nx]
      refine ih (k + 1) F w (by omega) (by omega) hw ?_
      rw [if_neg (fun q => e1 q.1)] at nextv
      unfold pm_Rg
      rw [nextv]; exact hc
