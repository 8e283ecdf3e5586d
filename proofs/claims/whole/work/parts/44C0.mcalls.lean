/-! CALLS, by the reference -/
theorem pm_ss_home {w : fa_W} (t : pt_T) (tt : pt_tw t) : ∀ (h : Int) (a : Nat), pm_H t h a w → ∀ s, pf_ss t s → w 195 s = h := by
  induction t, tt using pt_indh with
  | num v => intro h a _ s k; exact False.elim k
  | var v x => intro h a _ s k; exact False.elim k
  | glo g x => intro h a _ s k; exact False.elim k
  | dead d => intro h a _ s k; exact False.elim k
  | lam f x b tb ih => intro h a _ s k; exact False.elim k
  | ife ta t2 tc wa wb wc iha ihb ihc =>
    intro h a H s k
    rcases k with k | k | k
    · exact iha _ _ H.1 s k
    · exact ihb _ _ H.2.1 s k
    · exact ihc _ _ H.2.2.1 s k
  | lt v x ta t2 wa wb iha ihb =>
    intro h a H s k
    rcases k with k | k
    · exact iha _ _ H.1 s k
    · exact ihb _ _ H.2.1 s k
  | op v ta t2 wa wb iha ihb =>
    intro h a H s k
    rcases k with k | k
    · exact iha _ _ H.1 s k
    · exact ihb _ _ H.2.1 s k
  | site v ta t2 wa wb iha ihb =>
    intro h a H s k
    rcases k with k | k | k
    · rw [k]; exact H.2.2.2.2.2.2.2
    · exact iha _ _ H.1 s k
    · exact ihb _ _ H.2.1 s k
/-- what the reference knows of SITES when it lays CALLS -/
def pm_sx (nf si : Nat) (ow : Nat → Int) (cl : Nat) (ap : Nat → Nat) (w : fa_W) : Prop := ∀ s, s < si → w 195 s = ow s ∧ (ow s = -1 ∨ ∃ f : Nat, f < nf ∧ ow s = (f : Int)) ∧ ∀ f : Nat, ow s = (f : Int) → cl.testBit f = true → w 212 s ≠ 0 ∧ w 209 s = (ap s : Int) ∧ ap s < 2 ^ nf
def pm_fc (w w' : fa_W) : Prop := ∀ i j, ¬ (217 ≤ i ∧ i ≤ 219) → w' i j = w i j
theorem pm_rc_19 {nf si f cl : Nat} {ow : Nat → Int} {ap : Nat → Nat} {w0 : fa_W} {K : Int → fa_W → Option fa_W} (h24 : nf ≤ 24) (hsi : si ≤ 100) (hf : f < nf) (h20 : w0 181 20 = (si : Int)) (h53 : w0 181 53 = (cl : Int)) (hcl : cl < 2 ^ nf) (hs : pm_sx nf si ow cl ap w0) : ∀ (d k F acc : Nat) (w : fa_W), si = k + d → d < F → pm_fc w0 w → w 217 f = (acc : Int) → acc < 2 ^ nf → ∃ (w' : fa_W) (a' : Nat), fm_Mod_laysRings_l19 K F (f : Int) (k : Int) w = K ((f : Int) + 1) w' ∧ (∀ i j, ¬ (217 ≤ i ∧ i ≤ 219 ∧ j = f) → w' i j = w i j) ∧ w' 217 f = (a' : Int) ∧ w' 218 f = (a' : Int) ∧ w' 219 f = -1 ∧ a' < 2 ^ nf ∧ ∀ g, a'.testBit g = true ↔ acc.testBit g = true ∨ (cl.testBit f = true ∧ ∃ s, k ≤ s ∧ s < si ∧ ow s = (f : Int) ∧ (ap s).testBit g = true) := by
  have jf : fa_ix (f : Int) 24 = some f := pb_ix (by omega) (by omega)
  intro d
  induction d with
  | zero =>
    intro k F acc w hk hF hw hac ha
    obtain ⟨F, rfl⟩ : ∃ G, F = G + 1 := ⟨F - 1, by omega⟩
    refine ⟨fa_st (fa_st w 218 f (w 217 f)) 219 f (-1), acc, ?_, fun i j p => ?_, ?_, ?_, fa_st_eq _ _ _ _, ha, fun g => ⟨Or.inl, fun h => ?_⟩⟩
    · unfold fm_Mod_laysRings_l19
      rw [hw _ _ (by omega), h20, pb_wr (by omega), pb_wr (by omega), if_pos (by omega), jf, Option.bind_some, Option.bind_some, pf_let_eq, Option.bind_some, pf_let_eq, pf_let_eq]
    · rw [fa_st_ne (by omega), fa_st_ne (by omega)]
    · rw [fa_st_ne (by omega), fa_st_ne (by omega)]; exact hac
    · rw [fa_st_ne (by omega), fa_st_eq]; exact hac
    · rcases h with h | ⟨_, s, p, q, _⟩
      · exact h
      · omega
  | succ d ih =>
    intro k F acc w hk hF hw hac ha
    obtain ⟨F, rfl⟩ : ∃ G, F = G + 1 := ⟨F - 1, by omega⟩
    have jk : fa_ix (k : Int) 101 = some k := pb_ix (by omega) (by omega)
    have nx : ((k : Nat) : Int) + 1 = ((k + 1 : Nat) : Int) := by omega
    obtain ⟨s1, s2, s3⟩ := hs k (by omega)
    have skip : ¬ (cl.testBit f = true ∧ ow k = (f : Int)) → (∃ (w' : fa_W) (a' : Nat), fm_Mod_laysRings_l19 K F (f : Int) ((k + 1 : Nat) : Int) w = K ((f : Int) + 1) w' ∧ (∀ i j, ¬ (217 ≤ i ∧ i ≤ 219 ∧ j = f) → w' i j = w i j) ∧ w' 217 f = (a' : Int) ∧ w' 218 f = (a' : Int) ∧ w' 219 f = -1 ∧ a' < 2 ^ nf ∧ ∀ g, a'.testBit g = true ↔ acc.testBit g = true ∨ (cl.testBit f = true ∧ ∃ s, k ≤ s ∧ s < si ∧ ow s = (f : Int) ∧ (ap s).testBit g = true)) := fun no => by
      obtain ⟨w', a', q1, q2, q3, q4, q5, q6, q7⟩ := ih (k + 1) F acc w (by omega) (by omega) hw hac ha
      refine ⟨w', a', q1, q2, q3, q4, q5, q6, fun g => (q7 g).trans ⟨fun y => ?_, fun y => ?_⟩⟩
      · rcases y with y | ⟨c, s, p, y⟩
        · exact Or.inl y
        · exact Or.inr ⟨c, s, by omega, y⟩
      · rcases y with y | ⟨c, s, p, q, e, y⟩
        · exact Or.inl y
        · have : s ≠ k := fun es => no ⟨c, by rw [← es]; exact e⟩
          exact Or.inr ⟨c, s, by omega, q, e, y⟩
    unfold fm_Mod_laysRings_l19
    rw [hw 181 20 (by omega), h20, pb_wr (by omega), pb_wr (by omega), if_neg (by omega), jk, Option.bind_some]
    by_cases e1 : decide (w 212 k ≠ 0) = true
    · rw [if_pos e1, Option.bind_some, hw 195 k (by omega), s1, pb_wr (n := f) (by omega)]
      by_cases e2 : ow k = (f : Int)
      · rw [e2, pb_wr (n := f) (by omega), if_pos rfl, hw 181 53 (by omega), h53, pf_hd (pf_lt24 (pf_two h24 hcl)) (by omega)]
        by_cases e3 : cl.testBit f = true
        rotate_left
        · rw [if_neg e3, pf_let_eq, nx]
          exact skip (fun q => e3 q.1)
        · obtain ⟨t1, t2, t3⟩ := s3 f e2 e3
          rw [if_pos e3, jf, Option.bind_some, Option.bind_some, Option.bind_some, hac, hw 209 k (by omega), t2, pb_or (pf_lt24 (pf_two h24 ha)) (pf_lt24 (pf_two h24 t3)), pf_let_eq, pf_let_eq, nx]
          obtain ⟨w', a', q1, q2, q3, q4, q5, q6, q7⟩ := ih (k + 1) F (acc ||| ap k) (fa_st w 217 f ((acc ||| ap k : Nat) : Int)) (by omega) (by omega) (fun i j p => (fa_st_ne (by omega)).trans (hw i j p)) (fa_st_eq _ _ _ _) (Nat.or_lt_two_pow ha t3)
          refine ⟨w', a', q1, fun i j p => (q2 i j p).trans (fa_st_ne (by omega)), q3, q4, q5, q6, fun g => (q7 g).trans ?_⟩
          rw [Nat.testBit_or, Bool.or_eq_true]
          constructor
          · rintro ((y | y) | ⟨c, s, p, y⟩)
            · exact Or.inl y
            · exact Or.inr ⟨e3, k, Nat.le_refl _, by omega, e2, y⟩
            · exact Or.inr ⟨e3, s, by omega, y⟩
          · rintro (y | ⟨c, s, p, q, e, y⟩)
            · exact Or.inl (Or.inl y)
            · by_cases es : s = k
              · rw [es] at y; exact Or.inl (Or.inr y)
              · exact Or.inr ⟨e3, s, by omega, q, e, y⟩
      · have ne : ¬ fa_wr (ow k) = (f : Int) := by
          rcases s2 with s2 | ⟨g, g1, g2⟩
          · rw [s2, pb_wr1]; omega
          · rw [g2, pb_wr (by omega)]; rw [g2] at e2; exact e2
        rw [if_neg ne, pf_let_eq, nx]
        exact skip (fun q => e2 q.2)
    · rw [if_neg e1, pf_let_eq, nx]
      refine skip (fun q => ?_)
      have := (s3 f q.2 q.1).1
      rw [← hw 212 k (by omega)] at this
      exact e1 (decide_eq_true this)
theorem pm_rc_2 {nf si cl : Nat} {ow : Nat → Int} {ap : Nat → Nat} {w0 : fa_W} {FU : Nat} (hFU : FU = fa_FU) (h24 : nf ≤ 24) (hsi : si ≤ 100) (h17 : w0 181 17 + w0 181 18 = (nf : Int)) (h20 : w0 181 20 = (si : Int)) (h53 : w0 181 53 = (cl : Int)) (hcl : cl < 2 ^ nf) (hs : pm_sx nf si ow cl ap w0) : ∀ (d k F : Nat) (cal : Nat → Nat) (w : fa_W), nf = k + d → d < F → pm_fc w0 w → (∀ f, f < k → w 217 f = (cal f : Int) ∧ w 218 f = (cal f : Int) ∧ w 219 f = -1 ∧ cal f < 2 ^ nf ∧ ∀ g, (cal f).testBit g = true ↔ (cl.testBit f = true ∧ ∃ s, s < si ∧ ow s = (f : Int) ∧ (ap s).testBit g = true)) → ∃ (w' : fa_W) (cal : Nat → Nat), fm_Mod_laysRings_l2 F (k : Int) w = fm_Mod_laysRings_l105 FU 0 w' ∧ pm_fc w0 w' ∧ (∀ f, f < nf → w' 217 f = (cal f : Int) ∧ w' 218 f = (cal f : Int) ∧ w' 219 f = -1 ∧ cal f < 2 ^ nf ∧ ∀ g, (cal f).testBit g = true ↔ (cl.testBit f = true ∧ ∃ s, s < si ∧ ow s = (f : Int) ∧ (ap s).testBit g = true)) := by
  have hF2 : 1000 < FU := by rw [hFU]; unfold fa_FU; omega
  intro d
  induction d with
  | zero =>
    intro k F cal w hk hF hw hc
    obtain ⟨F, rfl⟩ : ∃ G, F = G + 1 := ⟨F - 1, by omega⟩
    have ek : nf = k := by omega
    refine ⟨w, cal, ?_, hw, by rw [ek] at hc ⊢; exact hc⟩
    unfold fm_Mod_laysRings_l2 fm_Mod_functions
    rw [← hFU, hw _ _ (by omega), hw _ _ (by omega), h17, pb_wr (by omega), pb_wr (by omega), if_pos (by omega)]
  | succ d ih =>
    intro k F cal w hk hF hw hc
    obtain ⟨F, rfl⟩ : ∃ G, F = G + 1 := ⟨F - 1, by omega⟩
    have jk : fa_ix (k : Int) 24 = some k := pb_ix (by omega) (by omega)
    unfold fm_Mod_laysRings_l2 fm_Mod_functions
    rw [← hFU, hw _ _ (by omega), hw _ _ (by omega), h17, pb_wr (by omega), pb_wr (by omega), if_neg (by omega), jk, Option.bind_some, pf_let_eq]
    have z0 : ((0 : Nat) : Int) = 0 := rfl
    obtain ⟨w1, a', q1, q2, q3, q4, q5, q6, q7⟩ := pm_rc_19 (f := k) (K := fun x1 w9 => fm_Mod_laysRings_l2 F x1 w9) h24 hsi (by omega) h20 h53 hcl hs si 0 FU 0 (fa_st w 217 k 0) (by omega) (by omega) (fun i j p => (fa_st_ne (by omega)).trans (hw i j p)) (fa_st_eq _ _ _ _) (Nat.two_pow_pos _)
    rw [z0] at q1
    rw [q1]
    have nx : ((k : Nat) : Int) + 1 = ((k + 1 : Nat) : Int) := by omega
    try dsimp only
    rw [nx]
    have q2' : ∀ i j, ¬ (217 ≤ i ∧ i ≤ 219 ∧ j = k) → w1 i j = w i j := fun i j p => (q2 i j p).trans (fa_st_ne (by omega))
    refine ih (k + 1) F (pu_set cal k a') w1 (by omega) (by omega) (fun i j p => (q2' i j (by omega)).trans (hw i j p)) (fun f hf => ?_)
    by_cases ef : f = k
    · rw [ef, pu_set_eq]
      refine ⟨q3, q4, q5, q6, fun g => (q7 g).trans ⟨fun y => ?_, fun ⟨c, s, y⟩ => Or.inr ⟨c, s, Nat.zero_le _, y⟩⟩⟩
      rcases y with y | ⟨c, s, _, y⟩
      · rw [Nat.zero_testBit] at y; cases y
      · exact ⟨c, s, y⟩
    · rw [pu_set_ne _ _ ef, q2' 217 f (by omega), q2' 218 f (by omega), q2' 219 f (by omega)]
      exact hc f (by omega)
