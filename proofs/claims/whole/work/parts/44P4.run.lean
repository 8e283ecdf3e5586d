/-! run() and blame() in the law -/
theorem rv_eln_in {ap : Nat → Bool} {n : Nat} {en : Nat → rv_V → Int → rv_I → rv_S → rv_O} (hen : ∀ f b up il s e s', en f b up il s = (.error e, s') → e.2.length ≤ il.length + n) (t : pt_T) (tt : pt_tw t) : ∀ (il : rv_I) (s : rv_S) e s', rv_bt ap en t il s = (.error e, s') → e.2.length ≤ il.length + n := by
  induction t, tt using pt_indh with
  | num v => intro il s e s' h; cases h
  | var v x => intro il s e s' h; cases h
  | glo g x => intro il s e s' h; cases h
  | dead d => intro il s e s' h; cases h; exact Nat.le_add_right _ _
  | lam f x b tb ih => intro il s e s' h; cases h
  | ife a b c ta tb tc iha ihb ihc =>
    intro il s e s' h
    rcases rv_bd_err (x := rv_bt ap en a il s) (k := fun v s1 => if fa_wr v.1 = 0 then rv_bt ap en c il s1 else rv_bt ap en b il s1) h with h | ⟨x, s1, h1, h2⟩
    · exact iha il s e s' h
    · by_cases z : fa_wr x.1 = 0
      · rw [if_pos z] at h2; exact ihc il s1 e s' h2
      · rw [if_neg z] at h2; exact ihb il s1 e s' h2
  | lt u x a b ta tb iha ihb =>
    intro il s e s' h
    rcases rv_bd_err (x := rv_bt ap en a il s) (k := fun a s1 => rv_bt ap en b il (rv_put s1 (rv_j il) u a)) h with h | ⟨x, s1, h1, h2⟩
    · exact iha il s e s' h
    · exact ihb il _ e s' h2
  | op sg a b ta tb iha ihb =>
    intro il s e s' h
    rcases rv_bd_err (x := rv_bt ap en a il s) (k := fun a s1 => rv_bd (rv_bt ap en b il s1) fun b s2 => rv_oo sg il a.1 b.1 s2) h with h | ⟨x, s1, h1, h2⟩
    · exact iha il s e s' h
    · rcases rv_bd_err h2 with h | ⟨y, s2, h3, h4⟩
      · exact ihb il s1 e s' h
      · unfold rv_oo at h4
        cases z : rv_op sg x.1 y.1 with
        | some n => rw [z] at h4; cases h4
        | none => rw [z] at h4; cases h4; exact Nat.le_add_right _ _
  | site sg a b ta tb iha ihb =>
    intro il s e s' h
    rcases rv_bd_err (x := rv_bt ap en a il s) (k := fun a s1 => rv_bd (rv_bt ap en b il s1) fun b s2 => rv_sx ap en il a b s2) h with h | ⟨x, s1, h1, h2⟩
    · exact iha il s e s' h
    · rcases rv_bd_err h2 with h | ⟨y, s2, h3, h4⟩
      · exact ihb il s1 e s' h
      · unfold rv_sx at h4
        by_cases z : ap x.2.1.toNat = false
        · rw [if_pos z] at h4; cases h4; exact Nat.le_add_right _ _
        · rw [if_neg z] at h4
          by_cases z2 : s2.1 = 100
          · rw [if_pos z2] at h4; cases h4; exact Nat.le_add_right _ _
          · rw [if_neg z2] at h4; exact hen _ _ _ _ _ e s' h4
theorem rv_eln {fb : Nat → pt_T} {ap : Nat → Bool} (tf : ∀ f, pt_tw (fb f)) : ∀ (d : Nat) (t : pt_T) (tt : pt_tw t) (il : rv_I) (s : rv_S) e s', rv_ev fb ap d t il s = (.error e, s') → e.2.length ≤ il.length + d := by
  intro d
  induction d with
  | zero => exact fun t tt => rv_eln_in (fun f b up il s e s' h => by cases h; exact Nat.le_refl _) t tt
  | succ d ih =>
    intro t tt
    refine rv_eln_in (fun f b up il s e s' h => ?_) t tt
    have := ih (fb f) (tf f) _ _ e s' h
    rw [List.length_cons] at this
    omega
theorem rv_E_len {fb : Nat → pt_T} {ap : Nat → Bool} (tf : ∀ f, pt_tw (fb f)) (t : pt_T) (tt : pt_tw t) : (rv_E (rv_ev fb ap 100 t [] rv_0)).2.2.2.2.2.length ≤ 100 ∧ ((rv_E (rv_ev fb ap 100 t [] rv_0)).1 ≤ 1 → (rv_E (rv_ev fb ap 100 t [] rv_0)).2.2.2.2.2 = []) ∧ (rv_E (rv_ev fb ap 100 t [] rv_0)).1 ≤ 5 := by
  cases hx : rv_ev fb ap 100 t [] rv_0 with
  | mk z s =>
    cases z with
    | ok a =>
      refine ⟨Nat.zero_le _, fun _ => rfl, ?_⟩
      show (if a.2.1 = -1 then 0 else 1) ≤ 5
      by_cases q : a.2.1 = -1
      · rw [if_pos q]; omega
      · rw [if_neg q]; omega
    | error e =>
      have h1 := rv_err tf 100 t tt [] rv_0 e s hx
      have h2 := rv_eln tf 100 t tt [] rv_0 e s hx
      refine ⟨?_, fun q => ?_, h1.2⟩
      · show (e.2.map (fun p => p.1)).length ≤ 100
        rw [List.length_map]
        rw [List.length_nil] at h2
        omega
      · have : e.1 ≤ 1 := q
        omega
/-- RUN on both sides -/
theorem lw_runs {w : fa_W} {how : Nat} {gs : ps_G} {t : pt_T} {la li si nd : Nat} {fb : Nat → pt_T} {sb : pf_sT} {mk : Nat} {bs tp : List Nat} {flt : Int} (hh : how ≤ 3) (hP : pf_PR gs t la li si nd fb sb mk) (hX : lw_X gs t la li si nd fb sb mk bs tp flt w) (hM : lw_M gs t la li si nd fb sb mk bs tp flt w) : ∃ e : Nat × Int × Nat × Nat × Nat × List Nat, (e.2.2.2.2.2.length ≤ 100 ∧ (e.1 ≤ 1 → e.2.2.2.2.2 = []) ∧ e.1 ≤ 5) ∧ (∃ w1, fm_Machine_perform (fa_sc (w 0 6)) (how : Int) w = some w1 ∧ px_rR e w1 ∧ lw_X gs t la li si nd fb sb mk bs tp flt w1 ∧ ∀ i j, ¬ (44 ≤ i ∧ i ≤ 54) → w1 i j = w i j) ∧ ∀ w1 : fa_W, pm_IM gs t la li si nd fb sb mk w1 → ∃ w2, fm_Mod_runs (how : Int) w1 = some w2 ∧ pm_rR e w2 ∧ ∀ i j, ¬ (226 ≤ i ∧ i ≤ 236) → ¬ (i = 181 ∧ 86 ≤ j ∧ j ≤ 93) → w2 i j = w1 i j := by
  obtain ⟨hV, hG, hr0, hmk, hMk⟩ := id hP
  have v1 := hV.1
  have v2 := hV.2.1
  have v3 := hV.2.2.1
  have v5 := hV.2.2.2.2.1
  have p24 : 2 ^ (gs.length + la) ≤ 2 ^ 24 := Nat.pow_le_pow_right (by omega) (by omega)
  obtain ⟨⟨ins, os, hS⟩, h67, x3, x4, x5, x6⟩ := id hX
  have hsc := px_sK_sc (w 0 6)
  have s54 : 54 < fa_sc (w 0 6) := by rcases hsc with h | h <;> omega
  have s62 := (lw_s62 w).2.1
  obtain ⟨a1, a2, a3, a4, a5, a6, a7, a8, a9⟩ := px_sK_all hsc
  obtain ⟨cl, hC, m1, m2⟩ := px_masks hS
  have sub : ∀ f, cl.testBit f = true → mk.testBit f = true := fun f hf => (hMk f).mpr ((pf_lM hG.2.2.2.1.1 hG.2.1).2.2 f ((hC.2 f).mp hf))
  have cc := hC.1
  obtain ⟨sz1, sz2⟩ := pn_sz_all hV hG
  obtain ⟨r, hr, hri⟩ : ∃ r, pv_P r gs t ∧ (pv_t r t = pv_int ↔ ∀ r', pv_P r' gs t → pv_t r' t = pv_int) := by
    by_cases z : ∀ r', pv_P r' gs t → pv_t r' t = pv_int
    · obtain ⟨r, hr⟩ := hr0
      exact ⟨r, hr, fun _ => z, fun _ => z r hr⟩
    · obtain ⟨r', q⟩ := Classical.not_forall.mp z
      obtain ⟨q1, q2⟩ := Classical.not_imp.mp q
      exact ⟨r', q1, fun h => absurd h q2, fun h => absurd (h r' q1) q2⟩
  refine ⟨rv_E (rv_ev fb (lw_ap cl how) 100 t [] rv_0), rv_E_len hG.2.1 t hG.2.2.2.1.1, ?_, fun w1 hI => ?_⟩
  · have hK : (∃ w1, fm_Machine_perform (fa_sc (w 0 6)) (how : Int) w = some w1 ∧ w1 = w ∧ w 44 5 = (how : Int) ∧ px_rR (rv_E (rv_ev fb (lw_ap cl how) 100 t [] rv_0)) w) ∨ (fa_wr (w 44 5) ≠ (how : Int)) := by
      rcases x6.2 with z | ⟨how', cl', y1, y2, y3, y4⟩
      · exact Or.inr (by rw [z, pb_wr1]; omega)
      · by_cases y : how' = how
        · subst y
          have e := bk_C_one y3 hC
          subst e
          refine Or.inl ⟨w, ?_, rfl, y2, y4⟩
          unfold fm_Machine_perform
          rw [y2, if_pos rfl]
        · exact Or.inr (by rw [y2, pb_wr (by omega)]; omega)
    rcases hK with ⟨w1, k1, k2, k3, k4⟩ | hK
    · subst k2
      exact ⟨w1, k1, k4, hX, fun i j p => rfl⟩
    obtain ⟨v, hv⟩ : ∃ v, v = fa_st w 44 5 (how : Int) := ⟨_, rfl⟩
    have ov : ∀ i j, ¬ (i = 44 ∧ j = 5) → v i j = w i j := fun i j q => by rw [hv, fa_st_ne q]
    have v5h : v 44 5 = (how : Int) := by rw [hv, fa_st_eq]
    have hP0 : fm_Machine_perform (fa_sc (w 0 6)) (how : Int) w = (if how = 0 then fm_Machine_perform_j44 (fa_sc (w 0 6)) (how : Int) (-1) (fm_Machine_clear v) else (fm_Groups_allCases (fa_rf (fa_sc (w 0 6)) 3) ((how : Int) - 1) (fm_Machine_clear v (fa_rf (fa_sc (w 0 6)) 2) 6) (fm_Machine_clear v)).bind fun A => fm_Machine_perform_j44 (fa_sc (w 0 6)) (how : Int) A (fm_Machine_clear v)) := by
      unfold fm_Machine_perform
      rw [pb_wr (show how < 2147483648 by omega), if_neg hK, pf_let_eq, ← hv, pf_let_eq]
      by_cases z : how = 0
      · rw [if_pos (by omega), if_pos z]
      · rw [if_neg (by omega), if_neg z]
    have hSv : px_SC (fa_sc (w 0 6)) gs t la li si nd ins os fb sb mk v := px_SC_ob hV (fun i j p q => ov i j (by omega)) hS
    have hPM := rv_PM_of hV hG hM.1.1.1 hr
    obtain ⟨ex1, c, ex2, ex3, ex4⟩ := px_expr_at hV hG hSv
    obtain ⟨⟨z1, z2, z3, z4, z5, z6, z7, z8, z9, z10⟩, _, _, _, _, _, _, i1, i2, i3⟩ := id hSv.1
    obtain ⟨A, hA, hAb⟩ : ∃ A : Int, fm_Machine_perform (fa_sc (w 0 6)) (how : Int) w = fm_Machine_perform_j44 (fa_sc (w 0 6)) (how : Int) A (fm_Machine_clear v) ∧ ∀ f, f < gs.length + la → ∀ w, fm_Face_hasBit A (f : Int) w = lw_ap cl how f := by
      by_cases z : how = 0
      · refine ⟨-1, ?_, fun f hf w => ?_⟩
        · rw [hP0, if_pos z]
        · unfold lw_ap
          rw [if_pos z]
          exact pf_hb_all (by omega) w
      · refine ⟨(cl : Int), ?_, fun f hf w => ?_⟩
        · obtain ⟨wc, hwc⟩ : ∃ wc, wc = fm_Machine_clear v := ⟨_, rfl⟩
          have ec : wc = fa_st (fa_st (fa_st (fa_st (fa_st (fa_st (fa_st (fa_st (fa_st v 47 1 0) 49 1 0) 51 1 0) 53 1 0) 44 7 (-1)) 44 8 0) 44 9 0) 44 10 0) 44 11 0 := hwc
          have oc : ∀ i j, 55 ≤ i → wc i j = w i j := fun i j q => by
            rw [ec]
            repeat rw [fa_st_ne (by omega)]
            exact ov i j (by omega)
          have Sc := px_SC_ob (w' := wc) hV (fun i j p q => oc i j (by omega)) hS
          have GX := px_GX_SC hsc hV Sc (sp := how - 1) (by omega)
          have eo := pg_cases (pg_g_E gs t (pf_A fb t sb (gs.length + la)) si (gs.length + la) mk (how - 1)) hmk sub
          have ac := px_allCases GX cc
          have eo2 : pg_o (pg_g gs t (pf_A fb t sb (gs.length + la)) si (gs.length + la) mk (how - 1)) &&& cl = cl := eo
          rw [eo2] at ac
          have em : (how : Int) - 1 = ((how - 1 : Nat) : Int) := by omega
          rw [hP0, if_neg z, ← hwc, a8, a9, oc _ _ (by omega), m2, em, ac, Option.bind_some]
        · unfold lw_ap
          rw [if_neg z]
          exact pf_hb (by omega) (by omega) w
    have rP : px_rP (fa_sc (w 0 6)) (fa_sc (w 0 6) + 1) nd (gs.length + la) (24 + li) ins fb A (lw_ap cl how) v := ⟨a6, a1, by omega, ⟨z1, z2, z3, z4, z5, v3⟩, ⟨by rw [i3], i2, i1⟩, z10, ex1, by omega, hAb⟩
    obtain ⟨w1, q1, q2, q3, q5, q4⟩ := px_perf (how := (how : Int)) hsc rP (fun f hf => by have := sz2 f hf; omega) (by rw [ov _ _ (by omega)]; exact x6.1) hG.2.1 hPM ex2 ex3 ex4 hSv.2.1 hri
    have q2w : ∀ i j, ¬ (44 ≤ i ∧ i ≤ 54) → w1 i j = w i j := fun i j p => (q2 i j p).trans (ov i j (by omega))
    refine ⟨w1, hA.trans q1, q4, ⟨⟨ins, os, ?_⟩, ?_, lw_RL x3 (q2w _ _ (by omega)) (fun j => q2w _ _ (by omega)), lw_RL x4 (q2w _ _ (by omega)) (fun j => q2w _ _ (by omega)), (q2w _ _ (by omega)).trans x5, q3, Or.inr ⟨how, cl, hh, q5.trans v5h, hC, q4⟩⟩, q2w⟩
    · rw [q2w 0 6 (by omega)]
      exact px_SC_ob hV (fun i j p q => q2w i j (by omega)) hS
    · rw [q2w 0 6 (by omega), q2w 0 7 (by omega)]
      exact h67
  · have hPM := rv_PM_of hV hG hI.1.1 hr
    obtain ⟨cl', hC', m3, m4⟩ := pm_masks hI.1
    have e := bk_C_one hC' hC
    subst e
    have cd := hI.2
    obtain ⟨p16, p17, p18, _⟩ := id hI.1.1
    have rP : pm_rP (how : Int) (gs.length + la) (24 + li) fb (fun v => w1 193 v) (lw_ap cl' how) w1 := ⟨by omega, fun f hf => by
      obtain ⟨c, c1, c2, c3, c4⟩ := cd f (by omega)
      have eu : pm_cuq (gs.length + la) fb t f = fb f := by unfold pm_cuq; rw [if_pos hf]
      rw [eu] at c1 c3 c4
      exact ⟨c, c1, c2, c3, c4⟩, fun v _ => rfl, by omega, by omega, fun h f hf => by unfold lw_ap; rw [if_pos (by omega)], fun h f hf w => by
      unfold lw_ap
      rw [if_neg (by omega), m3, m4, pb_and (by omega) (by omega), pf_hd (Nat.lt_of_le_of_lt Nat.and_le_left (by omega)) (by omega), Nat.testBit_and]
      cases y : cl'.testBit f
      · rfl
      · rw [sub f y]; rfl⟩
    obtain ⟨c, c1, c2, c3, c4⟩ := cd (gs.length + la) (Nat.le_refl _)
    have eu : pm_cuq (gs.length + la) fb t (gs.length + la) = t := by unfold pm_cuq; rw [if_neg (by omega)]
    rw [eu] at c1 c3 c4
    obtain ⟨w2, q1, q2, q3⟩ := pm_runs rP (fun f hf => by have := sz2 f hf; omega) (by omega) hG.2.1 hPM (by rw [p17, p18]; omega) c1 c2 c3 c4
    exact ⟨w2, q1, q3, q2⟩
