/-! what goes together, by the reference -/
theorem pm_go_l {nf si g h : Nat} {fb : Nat → pt_T} {t : pt_T} {sb : pf_sT} {a1 : Int} {w : fa_W} (h24 : nf ≤ 24) (hsi : si ≤ 100) (hg : g < nf) (hh : h < nf) (hS : pm_SV nf si fb t sb w) : ∀ (d k F : Nat), si = k + d → d < F → ∃ b, fm_Mod_goTogether_l31 a1 (g : Int) (h : Int) w F (k : Int) = some b ∧ (b = true ↔ ∃ s, k ≤ s ∧ s < si ∧ (pf_A fb t sb nf s).testBit g = true ∧ (pf_A fb t sb nf s).testBit h = true) := by
  intro d
  induction d with
  | zero =>
    intro k F hk hF
    obtain ⟨F, rfl⟩ : ∃ G, F = G + 1 := ⟨F - 1, by omega⟩
    refine ⟨false, ?_, ⟨fun q => (by cases q), fun ⟨s, q⟩ => by omega⟩⟩
    unfold fm_Mod_goTogether_l31
    rw [hS.1, pb_wr (by omega), pb_wr (by omega), if_pos (by omega)]
  | succ d ih =>
    intro k F hk hF
    obtain ⟨F, rfl⟩ : ∃ G, F = G + 1 := ⟨F - 1, by omega⟩
    have nx : ((k : Nat) : Int) + 1 = ((k + 1 : Nat) : Int) := by omega
    obtain ⟨_, q2, _, _, q5⟩ := hS.2 k (by omega)
    have lA : pf_A fb t sb nf k < 2 ^ nf := pf_num_lt _ nf
    have jk : fa_ix (k : Int) 101 = some k := pb_ix (by omega) (by omega)
    have skip : ¬ ((pf_A fb t sb nf k).testBit g = true ∧ (pf_A fb t sb nf k).testBit h = true) → (∃ b, fm_Mod_goTogether_l31 a1 (g : Int) (h : Int) w F ((k + 1 : Nat) : Int) = some b ∧ (b = true ↔ ∃ s, k ≤ s ∧ s < si ∧ (pf_A fb t sb nf s).testBit g = true ∧ (pf_A fb t sb nf s).testBit h = true)) := fun no => by
      obtain ⟨b, b1, b2⟩ := ih (k + 1) F (by omega) (by omega)
      refine ⟨b, b1, b2.trans ⟨fun ⟨s, y⟩ => ⟨s, by omega, y.2⟩, fun ⟨s, y⟩ => ⟨s, ?_, y.2⟩⟩⟩
      have : s ≠ k := fun e => no (by rw [← e]; exact y.2.2)
      omega
    unfold fm_Mod_goTogether_l31
    rw [hS.1, pb_wr (by omega), pb_wr (by omega), if_neg (by omega), jk, Option.bind_some, q5, Option.bind_some, q2, pf_hd (pf_lt24 (pf_two h24 lA)) (by omega), Option.bind_some, q2, pf_hd (pf_lt24 (pf_two h24 lA)) (by omega)]
    cases e : pf_lkb fb t sb k with
    | false =>
      have z := pf_A_0 (nf := nf) e
      exact skip (fun q => by rw [z, Nat.zero_testBit] at q; cases q.1)
    | true =>
      by_cases c1 : (pf_A fb t sb nf k).testBit g = true
      · by_cases c2 : (pf_A fb t sb nf k).testBit h = true
        · rw [c1, c2]
          exact ⟨true, rfl, ⟨fun _ => ⟨k, Nat.le_refl _, by omega, c1, c2⟩, fun _ => rfl⟩⟩
        · have c2' : (pf_A fb t sb nf k).testBit h = false := by
            cases z : (pf_A fb t sb nf k).testBit h with
            | false => rfl
            | true => exact absurd z c2
          rw [c1, c2']
          exact skip (fun q => c2 q.2)
      · have c1' : (pf_A fb t sb nf k).testBit g = false := by
          cases z : (pf_A fb t sb nf k).testBit g with
          | false => rfl
          | true => exact absurd z c1
        rw [c1']
        exact skip (fun q => c1 q.1)
def pg_T (gs : ps_G) (t : pt_T) (A : Nat → Nat) (si : Nat) : Nat → Nat → Nat → Prop
  | 0 => fun _ _ => True
  | 1 => pv_al gs t
  | _ + 2 => fun a b => ∃ s, s < si ∧ (A s).testBit a = true ∧ (A s).testBit b = true
theorem pg_T_sym (gs : ps_G) (t : pt_T) (A : Nat → Nat) (si sp : Nat) : ∀ a b, pg_T gs t A si sp a b → pg_T gs t A si sp b a := by
  rcases sp with _ | _ | sp
  · intro a b _; trivial
  · intro a b q; exact (pg_eq_al gs t).2.1 a b q
  · intro a b ⟨s, s1, s2, s3⟩; exact ⟨s, s1, s3, s2⟩
theorem pg_T_H {gs : ps_G} {t : pt_T} {A : Nat → Nat} {si mk : Nat} (hA : ∀ s, s < si → ∀ a, (A s).testBit a = true → mk.testBit a = true) (sp : Nat) : pg_H (fun x => mk.testBit x = true) (pg_T gs t A si sp) (pg_r gs t A si sp) := by
  rcases sp with _ | _ | sp
  · exact pg_H_self pg_eq_1
  · exact pg_H_self (pg_eq_al gs t)
  · exact pg_j_H hA
theorem pm_SV_of_fr {nf si : Nat} {fb : Nat → pt_T} {t : pt_T} {sb : pf_sT} {w w' : fa_W} (h : pm_SV nf si fb t sb w) (e : ∀ i j, (i = 195 ∨ (209 ≤ i ∧ i ≤ 212) ∨ (i = 181 ∧ j = 20)) → w' i j = w i j) : pm_SV nf si fb t sb w' := ⟨(e _ _ (by omega)).trans h.1, fun s hs => by
  obtain ⟨q1, q2, q3, q4, q5⟩ := h.2 s hs
  exact ⟨(e _ _ (by omega)).trans q1, (e _ _ (by omega)).trans q2, (e _ _ (by omega)).trans q3, (e _ _ (by omega)).trans q4, (e _ _ (by omega)).trans q5⟩⟩
theorem pm_goTogether {gs : ps_G} {t : pt_T} {nf nd si mk sp : Nat} {fb : Nat → pt_T} {sb : pf_sT} {w : fa_W} (h24 : nf ≤ 24) (hsi : si ≤ 100) (hsp : sp < 3) (hTV : pm_TV gs t nf nd w) (hS : pm_SV nf si fb t sb w) : ∀ w', pm_gf w w' → pm_gT nf mk sp (pg_T gs t (pf_A fb t sb nf) si sp) w' := by
  intro w' hw g h hg hh _ _
  have z0 : ((0 : Nat) : Int) = 0 := rfl
  unfold fm_Mod_goTogether
  rcases sp with _ | _ | _ | sp
  · rw [pb_wr (by omega), if_pos z0]
    exact ⟨true, rfl, ⟨fun _ => trivial, fun _ => rfl⟩⟩
  · have TV := pm_TV_of hTV (w' := w') (fun i j p => hw i j (by omega) (by omega))
    obtain ⟨b, b1, b2⟩ := pm_alike TV hg hh
    rw [pb_wr (by omega), if_neg (by decide), if_pos (by decide), pb_ix (by omega) (by omega), Option.bind_some, pb_ix (by omega) (by omega), Option.bind_some, b1]
    exact ⟨b, rfl, b2⟩
  · have S := pm_SV_of_fr hS (w' := w') (fun i j p => hw i j (by omega) (by omega))
    obtain ⟨FU, hFU⟩ : ∃ F, F = fa_FU := ⟨_, rfl⟩
    have hF2 : 1000 < FU := by rw [hFU]; unfold fa_FU; omega
    obtain ⟨b, b1, b2⟩ := pm_go_l (a1 := ((0 + 1 + 1 : Nat) : Int)) h24 hsi hg hh S si 0 FU (by omega) (by omega)
    rw [z0] at b1
    rw [← hFU, pb_wr (by omega), if_neg (by decide), if_neg (by decide), b1]
    exact ⟨b, rfl, b2.trans ⟨fun ⟨s, _, q⟩ => ⟨s, q⟩, fun ⟨s, q⟩ => ⟨s, Nat.zero_le _, q⟩⟩⟩
  · omega
theorem pm_GL_fr {nf sp : Nat} {l : List Nat} {w w' : fa_W} (h24 : nf ≤ 24) (h : pm_GL nf sp l w) (e1 : w' 216 sp = w 216 sp) (e2 : ∀ j, 24 * sp ≤ j → j < 24 * sp + 24 → w' 215 j = w 215 j) : pm_GL nf sp l w' := ⟨e1.trans h.1, fun f hf => (e2 _ (by omega) (by omega)).trans (h.2 f hf)⟩
/-- the three splits, one after another -/
theorem pm_groups3 {gs : ps_G} {t : pt_T} {nf nd si mk : Nat} {fb : Nat → pt_T} {sb : pf_sT} {w : fa_W} (h24 : nf ≤ 24) (hsi : si ≤ 100) (hmk : mk < 2 ^ nf) (h17 : w 181 17 + w 181 18 = (nf : Int)) (h52 : w 181 52 = (mk : Int)) (hTV : pm_TV gs t nf nd w) (hS : pm_SV nf si fb t sb w) (hA : ∀ s, s < si → ∀ a, (pf_A fb t sb nf s).testBit a = true → mk.testBit a = true) : ∃ w', (∀ F, fm_Mod_analyses_l40 (F + 4) 0 w = (fm_Mod_laysRings w').bind fun w7 => (fm_Mod_compilesAll w7).bind fun w9 => some w9) ∧ pm_gf w w' ∧ ∀ sp, sp < 3 → pm_GL nf sp (pg_g gs t (pf_A fb t sb nf) si nf mk sp) w' := by
  have st : ∀ (sp : Nat) (w1 : fa_W), sp < 3 → pm_gf w w1 → ∃ w2, fm_Mod_laysGroups (sp : Int) w1 = some w2 ∧ pm_gs sp w1 w2 ∧ pm_GL nf sp (pg_g gs t (pf_A fb t sb nf) si nf mk sp) w2 := fun sp w1 hsp hw1 =>
    pm_laysGroups h24 hsp hmk (by rw [hw1 _ _ (by omega) (by omega), hw1 _ _ (by omega) (by omega)]; exact h17) ((hw1 _ _ (by omega) (by omega)).trans h52) (fun w' h => pm_goTogether h24 hsi hsp hTV hS w' (fun i j p q => (h i j p q).trans (hw1 i j p q))) (pg_T_sym gs t _ si sp) (pg_T_H hA sp)
  obtain ⟨w1, a1, a2, a3⟩ := st 0 w (by decide) (fun _ _ _ _ => rfl)
  have f1 : pm_gf w w1 := fun i j p q => a2 i j (by omega) (by omega)
  obtain ⟨w2, b1, b2, b3⟩ := st 1 w1 (by decide) f1
  have f2 : pm_gf w w2 := fun i j p q => (b2 i j (by omega) (by omega)).trans (f1 i j p q)
  obtain ⟨w3, c1, c2, c3⟩ := st 2 w2 (by decide) f2
  have f3 : pm_gf w w3 := fun i j p q => (c2 i j (by omega) (by omega)).trans (f2 i j p q)
  refine ⟨w3, fun F => ?_, f3, fun sp hs => ?_⟩
  · have z0 : ((0 : Nat) : Int) = 0 := rfl
    have z1 : ((1 : Nat) : Int) = 1 := rfl
    have z2 : ((2 : Nat) : Int) = 2 := rfl
    rw [z0] at a1
    rw [z1] at b1
    rw [z2] at c1
    have s0 : fm_Mod_analyses_l40 (F + 4) 0 w = fm_Mod_analyses_l40 (F + 3) 1 w1 := by
      show (if 3 ≤ fa_wr 0 then _ else _) = _
      rw [if_neg (by decide), a1, Option.bind_some, pf_let_eq]
      rfl
    have s1 : fm_Mod_analyses_l40 (F + 3) 1 w1 = fm_Mod_analyses_l40 (F + 2) 2 w2 := by
      show (if 3 ≤ fa_wr 1 then _ else _) = _
      rw [if_neg (by decide), b1, Option.bind_some, pf_let_eq]
      rfl
    have s2 : fm_Mod_analyses_l40 (F + 2) 2 w2 = fm_Mod_analyses_l40 (F + 1) 3 w3 := by
      show (if 3 ≤ fa_wr 2 then _ else _) = _
      rw [if_neg (by decide), c1, Option.bind_some, pf_let_eq]
      rfl
    rw [s0, s1, s2]
    show (if 3 ≤ fa_wr 3 then _ else _) = _
    rw [if_pos (by decide)]
  · rcases sp with _ | _ | _ | sp
    · exact pm_GL_fr h24 a3 ((c2 _ _ (by omega) (by omega)).trans (b2 _ _ (by omega) (by omega))) (fun j p q => (c2 _ _ (by omega) (by omega)).trans (b2 _ _ (by omega) (by omega)))
    · exact pm_GL_fr h24 b3 (c2 _ _ (by omega) (by omega)) (fun j p q => c2 _ _ (by omega) (by omega))
    · exact c3
    · omega
