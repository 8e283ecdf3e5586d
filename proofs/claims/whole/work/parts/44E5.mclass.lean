/-! a class by the reference: from one on to another until nothing is new -/
def pm_gf (w w' : fa_W) : Prop := ∀ i j, i ≠ 215 → i ≠ 216 → w' i j = w i j
def pm_gT (nf mk sp : Nat) (T : Nat → Nat → Prop) (w : fa_W) : Prop := ∀ g h, g < nf → h < nf → mk.testBit g = true → mk.testBit h = true → ∃ b, fm_Mod_goTogether (sp : Int) (g : Int) (h : Int) w = some b ∧ (b = true ↔ T g h)
theorem pm_lg_98 {nf mk sp g was x2 : Nat} {T : Nat → Nat → Prop} {w : fa_W} {K : Int → Int → Int → Int → fa_W → Option fa_W} (h24 : nf ≤ 24) (hg : g < nf) (hwas : was < 2 ^ nf) (hsub : ∀ a, was.testBit a = true → mk.testBit a = true) (hmk : mk < 2 ^ nf) (h17 : w 181 17 + w 181 18 = (nf : Int)) (h52 : w 181 52 = (mk : Int)) (hT : pm_gT nf mk sp T w) : ∀ (d k F acc : Nat), nf = k + d → d < F → acc < 2 ^ nf → ∃ acc' : Nat, fm_Mod_laysGroups_l98 (sp : Int) K F (x2 : Int) (acc : Int) (was : Int) (g : Int) (k : Int) w = K (x2 : Int) (acc' : Int) (was : Int) ((g : Int) + 1) w ∧ acc' < 2 ^ nf ∧ ∀ h, acc'.testBit h = true ↔ acc.testBit h = true ∨ (k ≤ h ∧ h < nf ∧ was.testBit g = true ∧ mk.testBit h = true ∧ T g h) := by
  intro d
  induction d with
  | zero =>
    intro k F acc hk hF ha
    obtain ⟨F, rfl⟩ : ∃ G, F = G + 1 := ⟨F - 1, by omega⟩
    refine ⟨acc, ?_, ha, fun h => ⟨Or.inl, fun q => q.elim id (fun q => by omega)⟩⟩
    unfold fm_Mod_laysGroups_l98 fm_Mod_functions
    rw [h17, pb_wr (by omega), pb_wr (by omega), if_pos (by omega), pf_let_eq]
  | succ d ih =>
    intro k F acc hk hF ha
    obtain ⟨F, rfl⟩ : ∃ G, F = G + 1 := ⟨F - 1, by omega⟩
    have nx : ((k : Nat) : Int) + 1 = ((k + 1 : Nat) : Int) := by omega
    have skip : ¬ (was.testBit g = true ∧ mk.testBit k = true ∧ T g k) → (∃ acc' : Nat, fm_Mod_laysGroups_l98 (sp : Int) K F (x2 : Int) (acc : Int) (was : Int) (g : Int) ((k + 1 : Nat) : Int) w = K (x2 : Int) (acc' : Int) (was : Int) ((g : Int) + 1) w ∧ acc' < 2 ^ nf ∧ ∀ h, acc'.testBit h = true ↔ acc.testBit h = true ∨ (k ≤ h ∧ h < nf ∧ was.testBit g = true ∧ mk.testBit h = true ∧ T g h)) := fun no => by
      obtain ⟨acc', q1, q2, q3⟩ := ih (k + 1) F acc (by omega) (by omega) ha
      refine ⟨acc', q1, q2, fun h => (q3 h).trans ⟨fun y => y.imp id (fun z => ⟨by omega, z.2⟩), fun y => y.imp id (fun z => ?_)⟩⟩
      have : h ≠ k := fun e => no (by rw [← e]; exact z.2.2)
      exact ⟨by omega, z.2⟩
    have hone : ∀ g, (2 ^ k).testBit g = true ↔ g = k := fun g => pf_one
    have hlt : 2 ^ k < 2 ^ nf := Nat.pow_lt_pow_right (by decide) (by omega)
    have hbit : fa_ishl 1 (k : Int) = ((2 ^ k : Nat) : Int) := pf_shl1 (by omega)
    generalize 2 ^ k = y at hone hlt hbit
    unfold fm_Mod_laysGroups_l98 fm_Mod_functions
    rw [h17, pb_wr (by omega), pb_wr (by omega), if_neg (by omega), pf_hd (pf_lt24 (pf_two h24 hwas)) (by omega)]
    by_cases c1 : was.testBit g = true
    · rw [if_pos c1, h52, pf_hd (pf_lt24 (pf_two h24 hmk)) (by omega)]
      by_cases c2 : mk.testBit k = true
      · obtain ⟨b, b1, b2⟩ := hT g k hg (by omega) (hsub g c1) c2
        rw [if_pos c2, b1, Option.bind_some]
        by_cases c3 : b = true
        · rw [if_pos c3, hbit, pb_or (pf_lt24 (pf_two h24 ha)) (pf_lt24 (pf_two h24 hlt)), pf_let_eq, pf_let_eq, nx]
          obtain ⟨acc', q1, q2, q3⟩ := ih (k + 1) F (acc ||| y) (by omega) (by omega) (Nat.or_lt_two_pow ha hlt)
          refine ⟨acc', q1, q2, fun h => (q3 h).trans ?_⟩
          rw [Nat.testBit_or, Bool.or_eq_true, hone]
          constructor
          · rintro ((p | p) | p)
            · exact Or.inl p
            · rw [p]; exact Or.inr ⟨Nat.le_refl _, by omega, c1, c2, b2.mp c3⟩
            · exact Or.inr ⟨by omega, p.2⟩
          · rintro (p | p)
            · exact Or.inl (Or.inl p)
            · by_cases e : h = k
              · exact Or.inl (Or.inr e)
              · exact Or.inr ⟨by omega, p.2⟩
        · rw [if_neg c3, pf_let_eq, nx]
          exact skip (fun q => c3 (b2.mpr q.2.2))
      · rw [if_neg c2, pf_let_eq, nx]
        exact skip (fun q => c2 q.2.1)
    · rw [if_neg c1, pf_let_eq, nx]
      exact skip (fun q => c1 q.1)
theorem pm_lg_86 {nf mk sp was x2 : Nat} {T : Nat → Nat → Prop} {w : fa_W} {K : Int → Int → Int → fa_W → Option fa_W} (h24 : nf ≤ 24) (hwas : was < 2 ^ nf) (hsub : ∀ a, was.testBit a = true → mk.testBit a = true) (hmk : mk < 2 ^ nf) (h17 : w 181 17 + w 181 18 = (nf : Int)) (h52 : w 181 52 = (mk : Int)) (hT : pm_gT nf mk sp T w) : ∀ (d k F acc : Nat), nf = k + d → d < F → acc < 2 ^ nf → ∃ acc' : Nat, fm_Mod_laysGroups_l86 (sp : Int) K F (x2 : Int) (acc : Int) (was : Int) (k : Int) w = K (x2 : Int) (acc' : Int) (was : Int) w ∧ acc' < 2 ^ nf ∧ ∀ h, acc'.testBit h = true ↔ acc.testBit h = true ∨ ∃ g, k ≤ g ∧ g < nf ∧ h < nf ∧ was.testBit g = true ∧ mk.testBit h = true ∧ T g h := by
  obtain ⟨FU, hFU⟩ : ∃ F, F = fa_FU := ⟨_, rfl⟩
  have hF2 : 1000 < FU := by rw [hFU]; unfold fa_FU; omega
  intro d
  induction d with
  | zero =>
    intro k F acc hk hF ha
    obtain ⟨F, rfl⟩ : ∃ G, F = G + 1 := ⟨F - 1, by omega⟩
    refine ⟨acc, ?_, ha, fun h => ⟨Or.inl, fun q => q.elim id (fun ⟨g, q⟩ => by omega)⟩⟩
    unfold fm_Mod_laysGroups_l86 fm_Mod_functions
    rw [h17, pb_wr (by omega), pb_wr (by omega), if_pos (by omega)]
  | succ d ih =>
    intro k F acc hk hF ha
    obtain ⟨F, rfl⟩ : ∃ G, F = G + 1 := ⟨F - 1, by omega⟩
    have nx : ((k : Nat) : Int) + 1 = ((k + 1 : Nat) : Int) := by omega
    obtain ⟨a1, q1, q2, q3⟩ := pm_lg_98 (x2 := x2) (K := fun x2 x3 x4 x5 w9 => fm_Mod_laysGroups_l86 (sp : Int) K F x2 x3 x4 x5 w9) h24 (show k < nf by omega) hwas hsub hmk h17 h52 hT nf 0 FU acc (by omega) (by omega) ha
    have z0 : ((0 : Nat) : Int) = 0 := rfl
    rw [z0] at q1
    unfold fm_Mod_laysGroups_l86 fm_Mod_functions
    rw [← hFU, h17, pb_wr (by omega), pb_wr (by omega), if_neg (by omega), q1]
    try dsimp only
    rw [nx]
    obtain ⟨a2, p1, p2, p3⟩ := ih (k + 1) F a1 (by omega) (by omega) q2
    refine ⟨a2, p1, p2, fun h => (p3 h).trans ?_⟩
    rw [q3]
    constructor
    · rintro ((y | y) | ⟨g, y⟩)
      · exact Or.inl y
      · exact Or.inr ⟨k, Nat.le_refl _, by omega, y.2.1, y.2.2⟩
      · exact Or.inr ⟨g, by omega, y.2⟩
    · rintro (y | ⟨g, y1, y2⟩)
      · exact Or.inl (Or.inl y)
      · by_cases e : g = k
        · rw [e] at y2; exact Or.inl (Or.inr ⟨Nat.zero_le _, y2.2⟩)
        · exact Or.inr ⟨g, by omega, y2⟩
theorem pm_lg_74 {nf mk sp f : Nat} {T r : Nat → Nat → Prop} {w : fa_W} {K : Int → fa_W → Option fa_W} {FU : Nat} (hFU : FU = fa_FU) (h24 : nf ≤ 24) (hf : f < nf) (hmf : mk.testBit f = true) (hmk : mk < 2 ^ nf) (h17 : w 181 17 + w 181 18 = (nf : Int)) (h52 : w 181 52 = (mk : Int)) (hT : pm_gT nf mk sp T w) (hsym : ∀ a b, T a b → T b a) (hr : pg_H (fun x => mk.testBit x = true) T r) : ∀ (d F set was : Nat), 25 ≤ d + pf_pop set → d + 1 < F → set < 2 ^ nf → was < 2 ^ nf → set.testBit f = true → (∀ a, set.testBit a = true → mk.testBit a = true ∧ r f a) → (∀ a, was.testBit a = true → set.testBit a = true) → (∀ a b, was.testBit a = true → mk.testBit b = true → T a b → set.testBit b = true) → fm_Mod_laysGroups_l74 (sp : Int) K F (f : Int) (set : Int) (was : Int) w = fm_Mod_laysGroups_l166 (sp : Int) K FU (f : Int) ((pg_mt (fun x => mk.testBit x = true) r nf f : Nat) : Int) 0 w := by
  have hF2 : 1000 < FU := by rw [hFU]; unfold fa_FU; omega
  intro d
  induction d with
  | zero =>
    intro F set was hd
    have := pf_pop_le set
    omega
  | succ d ih =>
    intro F set was hd hF hset hwas i1 i2 i3 i4
    obtain ⟨F, rfl⟩ : ∃ G, F = G + 1 := ⟨F - 1, by omega⟩
    have ls := pf_lt24 (pf_two h24 hset)
    have lw := pf_lt24 (pf_two h24 hwas)
    unfold fm_Mod_laysGroups_l74
    rw [← hFU, pb_wr ls, pb_wr lw]
    by_cases e : set = was
    · have es : set = pg_mt (fun x => mk.testBit x = true) r nf f := by
        refine pf_num_of hset (fun g hg => ⟨i2 g, fun ⟨q1, q2⟩ => ?_⟩)
        have P := hr.2.2 (fun a b => set.testBit a = true ↔ set.testBit b = true) ⟨fun a => Iff.rfl, fun a b p => p.symm, fun a b c p q => p.trans q⟩ (fun a b ma mb t => ⟨fun p => i4 a b (e ▸ p) mb t, fun p => i4 b a (e ▸ p) ma (hsym _ _ t)⟩) f g hmf q1 q2
        exact P.mp i1
      rw [if_pos (by omega), es]
    · rw [if_neg (by omega)]
      obtain ⟨a1, q1, q2, q3⟩ := pm_lg_86 (x2 := f) (K := fun x2 x3 x4 w9 => fm_Mod_laysGroups_l74 (sp : Int) K F x2 x3 x4 w9) h24 hset (fun a q => (i2 a q).1) hmk h17 h52 hT nf 0 FU set (by omega) (by omega) hset
      have z0 : ((0 : Nat) : Int) = 0 := rfl
      rw [z0] at q1
      rw [q1]
      have sub : ∀ k, set.testBit k = true → a1.testBit k = true := fun k q => (q3 k).mpr (Or.inl q)
      by_cases st : a1 = set
      · -- nothing new: one round more ends it
        rw [st]
        have es : set = pg_mt (fun x => mk.testBit x = true) r nf f := by
          refine pf_num_of hset (fun g hg => ⟨i2 g, fun ⟨q1, q2⟩ => ?_⟩)
          have cl : ∀ a b, set.testBit a = true → mk.testBit b = true → T a b → set.testBit b = true := fun a b p mb t => by
            rw [← st]
            exact (q3 b).mpr (Or.inr ⟨a, Nat.zero_le _, pf_tb_lt hset p, pf_tb_lt hmk mb, p, mb, t⟩)
          have P := hr.2.2 (fun a b => set.testBit a = true ↔ set.testBit b = true) ⟨fun a => Iff.rfl, fun a b p => p.symm, fun a b c p q => p.trans q⟩ (fun a b ma mb t => ⟨fun p => cl a b p mb t, fun p => cl b a p ma (hsym _ _ t)⟩) f g hmf q1 q2
          exact P.mp i1
        obtain ⟨F, rfl⟩ : ∃ G, F = G + 1 := ⟨F - 1, by omega⟩
        unfold fm_Mod_laysGroups_l74
        rw [← hFU, pb_wr ls, if_pos rfl, es]
      · have m := pf_pop_mono sub
        have ne : pf_pop a1 ≠ pf_pop set := fun q => st (pf_pop_eq sub (pf_two h24 hset) (pf_two h24 q2) q)
        refine ih F a1 set (by omega) (by omega) q2 hset (sub f i1) (fun a q => ?_) sub (fun a b p mb t => (q3 b).mpr (Or.inr ⟨a, Nat.zero_le _, pf_tb_lt hset p, pf_tb_lt hmk mb, p, mb, t⟩))
        rcases (q3 a).mp q with q | ⟨g, _, g2, g3, g4, g5, g6⟩
        · exact i2 a q
        · exact ⟨g5, hr.1.2.2 _ _ _ (i2 g g4).2 (hr.2.1 g a (i2 g g4).1 g5 g6)⟩
