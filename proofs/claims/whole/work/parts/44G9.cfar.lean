/-! far(), on both sides -/
theorem pd_u_cong {nf S : Nat} {cal cal' : Nat → Nat} (h : ∀ f, f < nf → cal f = cal' f) : ∀ k, k ≤ nf → pd_u cal S k = pd_u cal' S k := by
  intro k
  induction k with
  | zero => intro _; rfl
  | succ k ih =>
    intro hk
    show pd_u cal S k ||| (if S.testBit k = true then cal k else 0) = pd_u cal' S k ||| (if S.testBit k = true then cal' k else 0)
    rw [ih (by omega), h k (by omega)]
theorem pd_d_cong {nf g : Nat} {cal cal' : Nat → Nat} (h : ∀ f, f < nf → cal f = cal' f) : ∀ d n S, pd_d cal nf g d n S = pd_d cal' nf g d n S := by
  intro d
  induction d with
  | zero => intro n S; rfl
  | succ d ih =>
    intro n S
    show (if S.testBit g = true then (n : Int) else pd_d cal nf g d (n + 1) (S ||| pd_u cal S nf)) = (if S.testBit g = true then (n : Int) else pd_d cal' nf g d (n + 1) (S ||| pd_u cal' S nf))
    rw [pd_u_cong h nf (Nat.le_refl _), ih]
/-- CALLS are one, on both sides -/
theorem pd_cal_one {nf : Nat} {P : Nat → Nat → Prop} {cal cal' : Nat → Nat} (h : ∀ f, f < nf → ∀ g, (cal f).testBit g = true ↔ P f g) (h' : ∀ f, f < nf → ∀ g, (cal' f).testBit g = true ↔ P f g) : ∀ f, f < nf → cal f = cal' f := fun f hf => Nat.eq_of_testBit_eq (fun i => by
  have a := (h f hf i).trans (h' f hf i).symm
  rcases Bool.eq_false_or_eq_true ((cal f).testBit i) with b | b
  · rw [b, a.mp b]
  · rcases Bool.eq_false_or_eq_true ((cal' f).testBit i) with c | c
    · rw [a.mpr c] at b; cases b
    · rw [b, c])
theorem px_callFar {sc : Nat} {gs : ps_G} {t : pt_T} {la li si nd mk : Nat} {ins os : List Nat} {fb : Nat → pt_T} {sb : pf_sT} {w : fa_W} {a1 a2 : Int} (hV : pn_V gs t la li si nd) (h6 : fa_sc (w 0 6) = sc) (h : px_SC sc gs t la li si nd ins os fb sb mk w) (b1 : -2147483648 ≤ a1 ∧ a1 < 2147483648) (b2 : -2147483648 ≤ a2 ∧ a2 < 2147483648) : (¬ (pa_in (gs.length + la) a1 ∧ pa_in (gs.length + la) a2) → fm_Face_far a1 a2 w = some (1, 0, w)) ∧ ∃ cal : Nat → Nat, (∀ f, f < gs.length + la → ∀ g, (cal f).testBit g = true ↔ pf_ca fb t sb si f g) ∧ ∀ f g : Nat, f < gs.length + la → g < gs.length + la → a1 = (f : Int) → a2 = (g : Int) → (pf_lL fb t f ∧ pf_lL fb t g → fm_Face_far a1 a2 w = some (0, pd_d cal (gs.length + la) g 24 0 (2 ^ f), w)) ∧ (¬ (pf_lL fb t f ∧ pf_lL fb t g) → fm_Face_far a1 a2 w = some (0, -1, w)) := by
  have h24 : gs.length + la ≤ 24 := by have := hV.1; have := hV.2.1; omega
  have h14 := px_SC_14 h6 h
  have n1 := px_need h24 h14 b1
  have n2 := px_need h24 h14 b2
  refine ⟨fun q => ?_, ?_⟩
  · unfold fm_Face_far
    by_cases c : pa_in (gs.length + la) a1
    · rw [n1.1 c, pb_bds, if_pos rfl, n2.2 (fun z => q ⟨c, z⟩), pb_bds, if_neg (by decide)]
    · rw [n1.2 c, pb_bds, if_neg (by decide)]
  · obtain ⟨z, tb, cal, rg, _, xc, ok, lz, _, c5, c6, cb, cc, _⟩ := h.2.2.1
    refine ⟨cal, cc, fun f g hf hg e1 e2 => ?_⟩
    have s := px_sK_sc (w 0 6)
    obtain ⟨_, _, hFo, _, _, _, _, r2, _⟩ := px_sK_all s
    rw [h6] at hFo r2
    have D := px_distance hFo h24 hf hg xc ok c5 c6 cb
    have i1 : pa_in (gs.length + la) a1 := by unfold pa_in; omega
    have i2 : pa_in (gs.length + la) a2 := by unfold pa_in; omega
    have st : fm_Face_far a1 a2 w = some (0, (if z.2.2.1.testBit f = true ∧ z.2.2.1.testBit g = true then pd_d cal (gs.length + la) g 24 0 (2 ^ f) else -1), w) := by
      unfold fm_Face_far
      rw [n1.1 i1, pb_bds, if_pos rfl, n2.1 i2, pb_bds, if_pos rfl, h6, r2, e1, e2, D, Option.bind_some]
    have L : ∀ f, z.2.2.1.testBit f = true ↔ pf_lL fb t f := fun f => by
      rw [← lz.2.1]; exact Iff.rfl
    rw [st]
    exact ⟨fun q => by rw [if_pos ⟨(L f).mpr q.1, (L g).mpr q.2⟩], fun q => by rw [if_neg (fun y => q ⟨(L f).mp y.1, (L g).mp y.2⟩)]⟩
theorem pm_callFar {gs : ps_G} {t : pt_T} {la li si nd mk : Nat} {fb : Nat → pt_T} {sb : pf_sT} {w : fa_W} {a1 a2 : Int} (hV : pn_V gs t la li si nd) (h : pm_AN gs t la li si nd fb sb mk w) (b1 : -2147483648 ≤ a1 ∧ a1 < 2147483648) (b2 : -2147483648 ≤ a2 ∧ a2 < 2147483648) : (¬ (pa_in (gs.length + la) a1 ∧ pa_in (gs.length + la) a2) → ∃ x, fm_Mod_far a1 a2 w = some (x, fa_st (fa_st w 181 0 0) 181 0 1)) ∧ ∃ cal : Nat → Nat, (∀ f, f < gs.length + la → ∀ g, (cal f).testBit g = true ↔ pf_ca fb t sb si f g) ∧ ∀ f g : Nat, f < gs.length + la → g < gs.length + la → a1 = (f : Int) → a2 = (g : Int) → (pf_lL fb t f ∧ pf_lL fb t g → fm_Mod_far a1 a2 w = some (pd_d cal (gs.length + la) g 24 0 (2 ^ f), fa_st w 181 0 0)) ∧ (¬ (pf_lL fb t f ∧ pf_lL fb t g) → fm_Mod_far a1 a2 w = some (-1, fa_st w 181 0 0)) := by
  have h24 : gs.length + la ≤ 24 := by have := hV.1; have := hV.2.1; omega
  have h17 : fa_st w 181 0 0 181 17 + fa_st w 181 0 0 181 18 = ((gs.length + la : Nat) : Int) := by
    rw [fa_st_ne (by omega), fa_st_ne (by omega), h.1.2.1, h.1.2.2.1]; omega
  have n1 := pm_noF h24 h17 b1
  have n2 := pm_noF h24 h17 b2
  have j1 : ∀ a b : Int, ∃ x, fm_Mod_far_j43 a b (fa_st (fa_st w 181 0 0) 181 0 1) = some (x, fa_st (fa_st w 181 0 0) 181 0 1) := fun a b => by
    unfold fm_Mod_far_j43
    rw [fa_st_eq, if_neg (by decide)]
    exact ⟨_, rfl⟩
  have j0 : ∀ a b : Int, fm_Mod_far_j43 a b (fa_st w 181 0 0) = some (-1, fa_st w 181 0 0) := fun a b => by
    unfold fm_Mod_far_j43
    rw [fa_st_eq, if_pos (by decide)]
  refine ⟨fun q => ?_, ?_⟩
  · unfold fm_Mod_far
    by_cases c : pa_in (gs.length + la) a1
    · rw [pf_let_eq, n1.1 c, pf_l2_eq, if_neg (by decide), n2.2 (fun z => q ⟨c, z⟩), pf_l2_eq, if_pos rfl]
      exact j1 a1 a2
    · rw [pf_let_eq, n1.2 c, pf_l2_eq, if_pos rfl]
      exact j1 a1 a2
  · obtain ⟨_, _, _, _, _, ⟨z, _, D, lz⟩, cal, rg, c6, cb, cc, _⟩ := h
    refine ⟨cal, cc, fun f g hf hg e1 e2 => ?_⟩
    obtain ⟨ok, _, ⟨fo, _, _, m3, _⟩, _⟩ := D
    have i1 : pa_in (gs.length + la) a1 := by unfold pa_in; omega
    have i2 : pa_in (gs.length + la) a2 := by unfold pa_in; omega
    have lt := pf_lt24 (pf_two h24 ok.2.2.1)
    have m53 : fa_st w 181 0 0 181 53 = (z.2.2.1 : Int) := (fa_st_ne (by omega)).trans m3
    have F := pm_far_set (a1 := (f : Int)) (w := fa_st w 181 0 0) h24 hf hg h17 (fun f hf => (fa_st_ne (by omega)).trans (c6 f hf)) cb
    have st : fm_Mod_far a1 a2 w = (if z.2.2.1.testBit f = true then (if z.2.2.1.testBit g = true then some (pd_d cal (gs.length + la) g 24 0 (2 ^ f), fa_st w 181 0 0) else some (-1, fa_st w 181 0 0)) else some (-1, fa_st w 181 0 0)) := by
      unfold fm_Mod_far
      rw [pf_let_eq, n1.1 i1, pf_l2_eq, if_neg (by decide), n2.1 i2, pf_l2_eq, if_neg (by decide), m53, e1, e2, pf_hd lt (by omega), pf_hd lt (by omega), j0, pf_let_eq, F]
    have L : ∀ f, z.2.2.1.testBit f = true ↔ pf_lL fb t f := fun f => by
      rw [← lz.2.2.1]; exact Iff.rfl
    rw [st]
    refine ⟨fun q => by rw [if_pos ((L f).mpr q.1), if_pos ((L g).mpr q.2)], fun q => ?_⟩
    by_cases x : z.2.2.1.testBit f = true
    · rw [if_pos x, if_neg (fun y => q ⟨(L f).mp x, (L g).mp y⟩)]
    · rw [if_neg x]
