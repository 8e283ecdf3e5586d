/-! what the reference tells of GROUPS -/
def pm_GX (nf sp : Nat) (l : List Nat) (w : fa_W) : Prop := nf ≤ 24 ∧ sp < 3 ∧ l.length ≤ nf ∧ (∀ k, k < l.length → l.getD k 0 < 2 ^ nf) ∧ pg_dj l ∧ w 181 17 + w 181 18 = (nf : Int) ∧ pm_GL nf sp l w
theorem pm_groupAt {nf sp f : Nat} {l : List Nat} {w : fa_W} (h : pm_GX nf sp l w) (hf : f < nf) : fm_Mod_groupAt (sp : Int) (f : Int) w = some (pf_fi f l 0) := by
  obtain ⟨h24, hsp, hl, hb, hd, h17, hG⟩ := h
  unfold fm_Mod_groupAt
  rw [show (24 : Int) * (sp : Int) + (f : Int) = ((24 * sp + f : Nat) : Int) by omega, pb_ix (by omega) (by omega), Option.bind_some, hG.2 f hf]
theorem pf_fi_wr {f : Nat} {l : List Nat} (hl : l.length ≤ 24) : fa_wr (pf_fi f l 0) = pf_fi f l 0 := by
  rcases pf_fi_cases f l 0 with ⟨e, _⟩ | ⟨i, i1, e, _⟩
  · rw [e, pb_wr1]
  · rw [e, pb_wr (by omega)]
theorem pm_groupSet_l {nf sp k : Nat} {l : List Nat} {w : fa_W} (h : pm_GX nf sp l w) (hk : k < l.length) : ∀ (d j F acc : Nat), nf = j + d → d < F → acc < 2 ^ nf → (∀ f, acc.testBit f = true ↔ f < j ∧ (l.getD k 0).testBit f = true) → fm_Mod_groupSet_l5 (sp : Int) (k : Int) w F (acc : Int) (j : Int) = some ((l.getD k 0 : Nat) : Int) := by
  have h24 := h.1
  have hl := h.2.2.1
  have lk := h.2.2.2.1 k hk
  have h17 := h.2.2.2.2.2.1
  intro d
  induction d with
  | zero =>
    intro j F acc hj hF ha hb
    obtain ⟨F, rfl⟩ : ∃ G, F = G + 1 := ⟨F - 1, by omega⟩
    unfold fm_Mod_groupSet_l5 fm_Mod_functions
    have e : acc = l.getD k 0 := Nat.eq_of_testBit_eq (fun i => Bool.eq_iff_iff.mpr ((hb i).trans ⟨fun q => q.2, fun q => ⟨by have := pf_tb_lt lk q; omega, q⟩⟩))
    rw [h17, pb_wr (by omega), pb_wr (by omega), if_pos (by omega), e]
  | succ d ih =>
    intro j F acc hj hF ha hb
    obtain ⟨F, rfl⟩ : ∃ G, F = G + 1 := ⟨F - 1, by omega⟩
    have nx : ((j : Nat) : Int) + 1 = ((j + 1 : Nat) : Int) := by omega
    have iff := pg_fi_iff (f := j) h.2.2.2.2.1 hk
    have hone : ∀ g, (2 ^ j).testBit g = true ↔ g = j := fun g => pf_one
    have hlt : 2 ^ j < 2 ^ nf := Nat.pow_lt_pow_right (by decide) (by omega)
    have hbit : fa_ishl 1 (j : Int) = ((2 ^ j : Nat) : Int) := pf_shl1 (by omega)
    generalize 2 ^ j = y at hone hlt hbit
    unfold fm_Mod_groupSet_l5 fm_Mod_functions
    rw [h17, pb_wr (by omega), pb_wr (by omega), if_neg (by omega), pm_groupAt h (by omega), Option.bind_some, pf_fi_wr (by omega), pb_wr (n := k) (by omega)]
    by_cases e : pf_fi j l 0 = (k : Int)
    · rw [if_pos e, hbit, pb_or (pf_lt24 (pf_two h24 ha)) (pf_lt24 (pf_two h24 hlt)), pf_let_eq, pf_let_eq, nx]
      refine ih (j + 1) F _ (by omega) (by omega) (Nat.or_lt_two_pow ha hlt) (fun f => ?_)
      rw [Nat.testBit_or, Bool.or_eq_true, hone, hb]
      constructor
      · rintro (⟨p, q⟩ | p)
        · exact ⟨by omega, q⟩
        · rw [p]; exact ⟨by omega, iff.mpr e⟩
      · rintro ⟨p, q⟩
        by_cases ef : f = j
        · exact Or.inr ef
        · exact Or.inl ⟨by omega, q⟩
    · rw [if_neg e, pf_let_eq, nx]
      refine ih (j + 1) F acc (by omega) (by omega) ha (fun f => (hb f).trans ⟨fun q => ⟨by omega, q.2⟩, fun q => ⟨?_, q.2⟩⟩)
      have : f ≠ j := fun ef => e (iff.mp (by rw [← ef]; exact q.2))
      omega
theorem pm_groupSet {nf sp k : Nat} {l : List Nat} {w : fa_W} (h : pm_GX nf sp l w) (hk : k < l.length) : fm_Mod_groupSet (sp : Int) (k : Int) w = some ((l.getD k 0 : Nat) : Int) := by
  obtain ⟨FU, hFU⟩ : ∃ F, F = fa_FU := ⟨_, rfl⟩
  have hF2 : 1000 < FU := by rw [hFU]; unfold fa_FU; omega
  have h24 := h.1
  unfold fm_Mod_groupSet
  rw [← hFU]
  exact pm_groupSet_l h hk nf 0 FU 0 (by omega) (by omega) (Nat.two_pow_pos _) (fun f => ⟨fun q => (by rw [Nat.zero_testBit] at q; cases q), fun q => by omega⟩)
theorem pm_split_l {nf sp C mk wh : Nat} {l : List Nat} {w : fa_W} (h : pm_GX nf sp l w) (hC : C < 2 ^ nf) (hmk : mk < 2 ^ nf) (h53 : w 181 53 = (C : Int)) (h52 : w 181 52 = (mk : Int)) (hwh : wh < 5) : ∀ (r : List Nat) (k F x3 x4 x5 : Nat), l.drop k = r → k ≤ l.length → r.length < F → x5 ≤ 24 → fm_Mod_split_l49 (sp : Int) (wh : Int) F (x3 : Int) (x4 : Int) (x5 : Int) (k : Int) w = some ((((if wh = 0 then l.length else if wh = 1 then x3 + pg_w C r else if wh = 2 then x4 + pg_s C r else if wh = 3 then pg_x C x5 r else pf_pop (pf_an mk C) : Nat)) : Int), w) := by
  have h24 := h.1
  have hl := h.2.2.1
  have jsp : fa_ix (sp : Int) 3 = some sp := pb_ix h.2.1 (by omega)
  have h216 := h.2.2.2.2.2.2.1
  have lc := pf_lt24 (pf_two h24 hC)
  intro r
  induction r with
  | nil =>
    intro k F x3 x4 x5 hd hk hF hx
    obtain ⟨F, rfl⟩ : ∃ G, F = G + 1 := ⟨F - 1, by omega⟩
    have e := pb_drop_nil hd hk
    have la : pf_an mk C < 2 ^ 24 := Nat.lt_of_le_of_lt (pf_an_le _ _) (pf_two h24 hmk)
    unfold fm_Mod_split_l49
    rw [jsp, Option.bind_some, h216, pb_wr (by omega), pb_wr (by omega), if_pos (by omega), pb_wr (n := wh) (by omega), Option.bind_some, h216, h52, h53, pf_iand_not (pf_lt24 (pf_two h24 hmk)) lc, pf_bits la, Option.bind_some]
    show _ = some ((((if wh = 0 then l.length else if wh = 1 then x3 + 0 else if wh = 2 then x4 + 0 else if wh = 3 then x5 else pf_pop (pf_an mk C) : Nat)) : Int), w)
    obtain rfl | rfl | rfl | rfl | rfl : wh = 0 ∨ wh = 1 ∨ wh = 2 ∨ wh = 3 ∨ wh = 4 := by omega
    all_goals rfl
  | cons m r ih =>
    intro k F x3 x4 x5 hd hk hF hx
    rw [List.length_cons] at hF
    obtain ⟨F, rfl⟩ : ∃ G, F = G + 1 := ⟨F - 1, by omega⟩
    obtain ⟨c1, c2, c3⟩ := pb_drop_cons (d := 0) hd
    have lm := h.2.2.2.1 k c1
    have la : m &&& C < 2 ^ 24 := Nat.lt_of_le_of_lt Nat.and_le_right (pf_two h24 hC)
    have pl := pf_pop_le (m &&& C)
    have pz := pf_pop_zero la
    have go : ∀ (a b c : Nat), a = x3 + (if m &&& C = 0 then 0 else 1) → b = x4 + pf_pop (m &&& C) → c = max x5 (pf_pop (m &&& C)) → fm_Mod_split_l49 (sp : Int) (wh : Int) F (a : Int) (b : Int) (c : Int) ((k + 1 : Nat) : Int) w = some ((((if wh = 0 then l.length else if wh = 1 then x3 + pg_w C (m :: r) else if wh = 2 then x4 + pg_s C (m :: r) else if wh = 3 then pg_x C x5 (m :: r) else pf_pop (pf_an mk C) : Nat)) : Int), w) := fun a b c ea eb ec => by
      rw [ih (k + 1) F a b c c3 (by omega) (by omega) (by rw [ec]; omega)]
      have n1 : pg_w C (m :: r) = (if m &&& C = 0 then 0 else 1) + pg_w C r := rfl
      have n2 : pg_s C (m :: r) = pf_pop (m &&& C) + pg_s C r := rfl
      have n3 : pg_x C x5 (m :: r) = pg_x C (max x5 (pf_pop (m &&& C))) r := rfl
      rw [n1, n2, n3, ea, eb, ec, Nat.add_assoc, Nat.add_assoc]
    unfold fm_Mod_split_l49 fm_Mod_split_j88
    rw [jsp, Option.bind_some, h216, pb_wr (by omega), pb_wr (by omega), if_neg (by omega), pm_groupSet h c1, Option.bind_some, h53, pb_and (pf_lt24 (pf_two h24 lm)) lc, c2, pf_bits la, Option.bind_some, pb_wr (by omega)]
    by_cases e : m &&& C = 0
    · have e0 : pf_pop (m &&& C) = 0 := pz.mpr e
      rw [if_pos (by omega), pf_let_eq, pf_let_eq, pb_wr (n := x5) (by omega), if_pos (by omega), pf_let_eq]
      exact go (x3 + 0) (x4 + pf_pop (m &&& C)) x5 (by rw [if_pos e]) rfl (by omega)
    · have e0 : ¬ pf_pop (m &&& C) = 0 := fun q => e (pz.mp q)
      rw [if_neg (by omega), pf_let_eq, pf_let_eq, pb_wr (n := x5) (by omega)]
      by_cases e2 : pf_pop (m &&& C) ≤ x5
      · rw [if_pos (by omega), pf_let_eq]
        exact go (x3 + 1) (x4 + pf_pop (m &&& C)) x5 (by rw [if_neg e]) rfl (by omega)
      · rw [if_neg (by omega), pf_let_eq]
        exact go (x3 + 1) (x4 + pf_pop (m &&& C)) (pf_pop (m &&& C)) (by rw [if_neg e]) rfl (by omega)
