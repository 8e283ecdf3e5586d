/-! the reference's code -/
def pm_cz : pt_T → Nat := pt_rec (fun _ => 1) (fun _ _ => 1) (fun _ _ => 1) (fun _ => 1) (fun _ _ _ _ => 1) (fun _ _ _ a b c => a + 1 + b + 1 + c) (fun _ _ _ _ a b => a + 1 + b) (fun _ _ _ a b => a + b + 1) (fun _ _ _ a b => a + b + 1) 1
def pm_cd : pt_T → Nat → fa_W → Prop := pt_rec
  (fun v c w => w 221 c = 0 ∧ w 222 c = (v : Int))
  (fun v _ c w => w 221 c = 1 ∧ w 222 c = (v : Int))
  (fun g _ c w => w 221 c = 2 ∧ w 222 c = (g : Int))
  (fun _ c w => w 221 c = 3)
  (fun f _ _ _ c w => w 221 c = 4 ∧ w 222 c = (f : Int))
  (fun a b d ra rb rc c w => ra c w ∧ w 221 (c + pm_cz a) = 9 ∧ w 222 (c + pm_cz a) = ((c + pm_cz a + 1 + pm_cz b + 1 : Nat) : Int) ∧ rb (c + pm_cz a + 1) w ∧ w 221 (c + pm_cz a + 1 + pm_cz b) = 10 ∧ w 222 (c + pm_cz a + 1 + pm_cz b) = ((c + pm_cz a + 1 + pm_cz b + 1 + pm_cz d : Nat) : Int) ∧ rc (c + pm_cz a + 1 + pm_cz b + 1) w)
  (fun v _ a _ ra rb c w => ra c w ∧ w 221 (c + pm_cz a) = 6 ∧ w 222 (c + pm_cz a) = (v : Int) ∧ rb (c + pm_cz a + 1) w)
  (fun s a b ra rb c w => ra c w ∧ rb (c + pm_cz a) w ∧ w 221 (c + pm_cz a + pm_cz b) = 7 ∧ w 222 (c + pm_cz a + pm_cz b) = (s : Int))
  (fun _ a b ra rb c w => ra c w ∧ rb (c + pm_cz a) w ∧ w 221 (c + pm_cz a + pm_cz b) = 8)
  (fun _ _ => False)
theorem pm_cz_pos (t : pt_T) (tt : pt_tw t) : 0 < pm_cz t ∧ pm_cz t ≤ 2 * pt_sz t := by
  induction t, tt using pt_indh with
  | num v => exact ⟨by show 0 < 1; omega, by show 1 ≤ 2 * 1; omega⟩
  | var v x => exact ⟨by show 0 < 1; omega, by show 1 ≤ 2 * 1; omega⟩
  | glo g x => exact ⟨by show 0 < 1; omega, by show 1 ≤ 2 * 1; omega⟩
  | dead d => exact ⟨by show 0 < 1; omega, by show 1 ≤ 2 * 1; omega⟩
  | lam f x b tb ih => exact ⟨by show 0 < 1; omega, by show 1 ≤ 2 * (pt_sz b + 1); omega⟩
  | ife a b c ta tb tc iha ihb ihc =>
    have e1 : pm_cz (pt_ife a b c) = pm_cz a + 1 + pm_cz b + 1 + pm_cz c := rfl
    have e2 : pt_sz (pt_ife a b c) = pt_sz a + pt_sz b + pt_sz c + 1 := rfl
    omega
  | lt v x a b ta tb iha ihb =>
    have e1 : pm_cz (pt_let v x a b) = pm_cz a + 1 + pm_cz b := rfl
    have e2 : pt_sz (pt_let v x a b) = pt_sz a + pt_sz b + 1 := rfl
    omega
  | op s a b ta tb iha ihb =>
    have e1 : pm_cz (pt_op s a b) = pm_cz a + pm_cz b + 1 := rfl
    have e2 : pt_sz (pt_op s a b) = pt_sz a + pt_sz b + 1 := rfl
    omega
  | site s a b ta tb iha ihb =>
    have e1 : pm_cz (pt_site s a b) = pm_cz a + pm_cz b + 1 := rfl
    have e2 : pt_sz (pt_site s a b) = pt_sz a + pt_sz b + 1 := rfl
    omega
theorem pm_cd_ob {w w' : fa_W} (t : pt_T) (tt : pt_tw t) : ∀ (c : Nat), (∀ i j, (i = 221 ∨ i = 222) → c ≤ j → j < c + pm_cz t → w' i j = w i j) → pm_cd t c w → pm_cd t c w' := by
  induction t, tt using pt_indh with
  | num v =>
    intro c e h
    have z : pm_cz (pt_num v) = 1 := rfl
    exact ⟨by rw [e _ _ (by omega) (by omega) (by omega)]; exact h.1, by rw [e _ _ (by omega) (by omega) (by omega)]; exact h.2⟩
  | var v x =>
    intro c e h
    have z : pm_cz (pt_var v x) = 1 := rfl
    exact ⟨by rw [e _ _ (by omega) (by omega) (by omega)]; exact h.1, by rw [e _ _ (by omega) (by omega) (by omega)]; exact h.2⟩
  | glo g x =>
    intro c e h
    have z : pm_cz (pt_glo g x) = 1 := rfl
    exact ⟨by rw [e _ _ (by omega) (by omega) (by omega)]; exact h.1, by rw [e _ _ (by omega) (by omega) (by omega)]; exact h.2⟩
  | dead d =>
    intro c e h
    have z : pm_cz (pt_dead d) = 1 := rfl
    show w' 221 c = 3
    rw [e _ _ (by omega) (by omega) (by omega)]
    exact h
  | lam f x b tb ih =>
    intro c e h
    have z : pm_cz (pt_lam f x b) = 1 := rfl
    exact ⟨by rw [e _ _ (by omega) (by omega) (by omega)]; exact h.1, by rw [e _ _ (by omega) (by omega) (by omega)]; exact h.2⟩
  | ife a b d ta tb tc iha ihb ihc =>
    intro c e h
    have z : pm_cz (pt_ife a b d) = pm_cz a + 1 + pm_cz b + 1 + pm_cz d := rfl
    have za := (pm_cz_pos d tc).1
    obtain ⟨h1, h2, h3, h4, h5, h6, h7⟩ := h
    exact ⟨iha _ (fun i j p q r => e i j p (by omega) (by omega)) h1, by rw [e _ _ (by omega) (by omega) (by omega)]; exact h2, by rw [e _ _ (by omega) (by omega) (by omega)]; exact h3, ihb _ (fun i j p q r => e i j p (by omega) (by omega)) h4, by rw [e _ _ (by omega) (by omega) (by omega)]; exact h5, by rw [e _ _ (by omega) (by omega) (by omega)]; exact h6, ihc _ (fun i j p q r => e i j p (by omega) (by omega)) h7⟩
  | lt v x a b ta tb iha ihb =>
    intro c e h
    have z : pm_cz (pt_let v x a b) = pm_cz a + 1 + pm_cz b := rfl
    obtain ⟨h1, h2, h3, h4⟩ := h
    exact ⟨iha _ (fun i j p q r => e i j p (by omega) (by omega)) h1, by rw [e _ _ (by omega) (by omega) (by omega)]; exact h2, by rw [e _ _ (by omega) (by omega) (by omega)]; exact h3, ihb _ (fun i j p q r => e i j p (by omega) (by omega)) h4⟩
  | op s a b ta tb iha ihb =>
    intro c e h
    have z : pm_cz (pt_op s a b) = pm_cz a + pm_cz b + 1 := rfl
    obtain ⟨h1, h2, h3, h4⟩ := h
    exact ⟨iha _ (fun i j p q r => e i j p (by omega) (by omega)) h1, ihb _ (fun i j p q r => e i j p (by omega) (by omega)) h2, by rw [e _ _ (by omega) (by omega) (by omega)]; exact h3, by rw [e _ _ (by omega) (by omega) (by omega)]; exact h4⟩
  | site s a b ta tb iha ihb =>
    intro c e h
    have z : pm_cz (pt_site s a b) = pm_cz a + pm_cz b + 1 := rfl
    obtain ⟨h1, h2, h3⟩ := h
    exact ⟨iha _ (fun i j p q r => e i j p (by omega) (by omega)) h1, ihb _ (fun i j p q r => e i j p (by omega) (by omega)) h2, by rw [e _ _ (by omega) (by omega) (by omega)]; exact h3⟩
/-- one code is laid -/
theorem pm_lays {c : Nat} {w : fa_W} (hc : w 181 68 = (c : Int)) (h : c < 500) (x y : Int) : ∃ w', fm_Mod_lays x y w = some ((c : Int), w') ∧ w' 221 c = x ∧ w' 222 c = y ∧ w' 181 68 = ((c + 1 : Nat) : Int) ∧ ∀ i j, ¬ ((i = 221 ∨ i = 222) ∧ j = c) → ¬ (i = 181 ∧ j = 68) → w' i j = w i j := by
  refine ⟨fa_st (fa_st (fa_st w 221 c x) 222 c y) 181 68 ((c + 1 : Nat) : Int), ?_, ?_, ?_, fa_st_eq _ _ _ _, fun i j h1 h2 => ?_⟩
  · unfold fm_Mod_lays
    rw [hc, pb_ix h (by omega), Option.bind_some, pf_let_eq, fa_st_ne (by omega), hc, pb_ix h (by omega), Option.bind_some, pf_let_eq, fa_st_ne (by omega), fa_st_ne (by omega), hc, pf_let_eq, fa_st_eq]
    have : (c : Int) + 1 - 1 = (c : Int) := by omega
    rw [this]
    rfl
  · rw [fa_st_ne (by omega), fa_st_ne (by omega), fa_st_eq]
  · rw [fa_st_ne (by omega), fa_st_eq]
  · rw [fa_st_ne (by omega), fa_st_ne (by omega), fa_st_ne (by omega)]
theorem pm_compiles {B : Nat} {w0 : fa_W} (t : pt_T) (tt : pt_tw t) : ∀ (D c a : Nat) (h : Int) (w : fa_W), pt_sz t ≤ D → pm_H t h a w0 → a + pt_sz t ≤ 101 → (∀ i j, ¬ (i = 221 ∨ i = 222) → ¬ (i = 181 ∧ j = 68) → w i j = w0 i j) → w 181 68 = (c : Int) → c + pm_cz t ≤ 500 → ∃ w', fm_Mod_compiles D ((a + pt_sz t - 1 : Nat) : Int) w = some w' ∧ pm_cd t c w' ∧ w' 181 68 = ((c + pm_cz t : Nat) : Int) ∧ ∀ i j, ¬ ((i = 221 ∨ i = 222) ∧ c ≤ j ∧ j < c + pm_cz t) → ¬ (i = 181 ∧ j = 68) → w' i j = w i j := by
  induction t, tt using pt_indh with
  | num v =>
    intro D c a h w hD H ha o hc hb
    obtain ⟨D, rfl⟩ : ∃ E, D = E + 1 := ⟨D - 1, by have : pt_sz (pt_num v) = 1 := rfl; omega⟩
    have e1 : a + pt_sz (pt_num v) - 1 = a := rfl
    have e2 : pt_sz (pt_num v) = 1 := rfl
    have e3 : pm_cz (pt_num v) = 1 := rfl
    obtain ⟨w', q1, q2, q3, q4, q5⟩ := pm_lays hc (by omega) 0 (v : Int)
    refine ⟨w', ?_, ⟨q2, q3⟩, by rw [e3]; exact q4, fun i j p q => q5 i j (by omega) q⟩
    show fm_Mod_compiles_b (fm_Mod_compiles D) _ w = _
    unfold fm_Mod_compiles_b
    rw [e1, pb_ix (by omega) (by omega), Option.bind_some, o _ _ (by omega) (by omega), H.1, if_pos (by decide), Option.bind_some, o _ _ (by omega) (by omega), H.2, q1]
    rfl
  | var v x =>
    intro D c a h w hD H ha o hc hb
    have e2 : pt_sz (pt_var v x) = 1 := rfl
    obtain ⟨D, rfl⟩ : ∃ E, D = E + 1 := ⟨D - 1, by omega⟩
    have e1 : a + pt_sz (pt_var v x) - 1 = a := rfl
    have e3 : pm_cz (pt_var v x) = 1 := rfl
    obtain ⟨w', q1, q2, q3, q4, q5⟩ := pm_lays hc (by omega) 1 (v : Int)
    refine ⟨w', ?_, ⟨q2, q3⟩, by rw [e3]; exact q4, fun i j p q => q5 i j (by omega) q⟩
    show fm_Mod_compiles_b (fm_Mod_compiles D) _ w = _
    unfold fm_Mod_compiles_b
    rw [e1, pb_ix (by omega) (by omega), Option.bind_some, o _ _ (by omega) (by omega), H.1, if_neg (by decide), if_neg (by decide), if_neg (by decide), if_neg (by decide), if_neg (by decide), Option.bind_some, Option.bind_some, o _ _ (by omega) (by omega), o _ _ (by omega) (by omega), H.1, H.2.1, q1]
    rfl
  | glo g x =>
    intro D c a h w hD H ha o hc hb
    have e2 : pt_sz (pt_glo g x) = 1 := rfl
    obtain ⟨D, rfl⟩ : ∃ E, D = E + 1 := ⟨D - 1, by omega⟩
    have e1 : a + pt_sz (pt_glo g x) - 1 = a := rfl
    have e3 : pm_cz (pt_glo g x) = 1 := rfl
    obtain ⟨w', q1, q2, q3, q4, q5⟩ := pm_lays hc (by omega) 2 (g : Int)
    refine ⟨w', ?_, ⟨q2, q3⟩, by rw [e3]; exact q4, fun i j p q => q5 i j (by omega) q⟩
    show fm_Mod_compiles_b (fm_Mod_compiles D) _ w = _
    unfold fm_Mod_compiles_b
    rw [e1, pb_ix (by omega) (by omega), Option.bind_some, o _ _ (by omega) (by omega), H.1, if_neg (by decide), if_neg (by decide), if_neg (by decide), if_neg (by decide), if_neg (by decide), Option.bind_some, Option.bind_some, o _ _ (by omega) (by omega), o _ _ (by omega) (by omega), H.1, H.2.1, q1]
    rfl
  | dead d =>
    intro D c a h w hD H ha o hc hb
    have e2 : pt_sz (pt_dead d) = 1 := rfl
    obtain ⟨D, rfl⟩ : ∃ E, D = E + 1 := ⟨D - 1, by omega⟩
    have e1 : a + pt_sz (pt_dead d) - 1 = a := rfl
    have e3 : pm_cz (pt_dead d) = 1 := rfl
    obtain ⟨w', q1, q2, q3, q4, q5⟩ := pm_lays hc (by omega) 3 (w 185 a)
    refine ⟨w', ?_, q2, by rw [e3]; exact q4, fun i j p q => q5 i j (by omega) q⟩
    show fm_Mod_compiles_b (fm_Mod_compiles D) _ w = _
    unfold fm_Mod_compiles_b
    rw [e1, pb_ix (by omega) (by omega), Option.bind_some, o 184 _ (by omega) (by omega), H.1, if_neg (by decide), if_neg (by decide), if_neg (by decide), if_neg (by decide), if_neg (by decide), Option.bind_some, Option.bind_some, o 184 _ (by omega) (by omega), H.1, q1]
    rfl
  | lam f x b tb ih =>
    intro D c a h w hD H ha o hc hb
    obtain ⟨_, n1, n2, _⟩ := H
    have e2 : pt_sz (pt_lam f x b) = pt_sz b + 1 := rfl
    obtain ⟨D, rfl⟩ : ∃ E, D = E + 1 := ⟨D - 1, by omega⟩
    have e1 : a + pt_sz (pt_lam f x b) - 1 = a + pt_sz b := by omega
    have e3 : pm_cz (pt_lam f x b) = 1 := rfl
    obtain ⟨w', q1, q2, q3, q4, q5⟩ := pm_lays hc (by omega) 4 (f : Int)
    refine ⟨w', ?_, ⟨q2, q3⟩, by rw [e3]; exact q4, fun i j p q => q5 i j (by omega) q⟩
    show fm_Mod_compiles_b (fm_Mod_compiles D) _ w = _
    unfold fm_Mod_compiles_b
    rw [e1, pb_ix (by omega) (by omega), Option.bind_some, o _ _ (by omega) (by omega), n1, if_neg (by decide), if_neg (by decide), if_neg (by decide), if_neg (by decide), if_neg (by decide), Option.bind_some, Option.bind_some, o _ _ (by omega) (by omega), o _ _ (by omega) (by omega), n1, n2, q1]
    rfl
  | ife ta tb td wa wb wd iha ihb ihd =>
    intro D c a h w hD H ha o hc hb
    obtain ⟨Ha, Hb, Hd, n1, n2, n3, n4⟩ := H
    have e2 : pt_sz (pt_ife ta tb td) = pt_sz ta + pt_sz tb + pt_sz td + 1 := rfl
    have pa := pt_sz_pos ta
    have pb := pt_sz_pos tb
    have pd := pt_sz_pos td
    have zd := (pm_cz_pos td wd).1
    obtain ⟨D, rfl⟩ : ∃ E, D = E + 1 := ⟨D - 1, by omega⟩
    have e1 : a + pt_sz (pt_ife ta tb td) - 1 = a + pt_sz ta + pt_sz tb + pt_sz td := by omega
    have e3 : pm_cz (pt_ife ta tb td) = pm_cz ta + 1 + pm_cz tb + 1 + pm_cz td := rfl
    obtain ⟨w1, a1, a2, a3, a4⟩ := iha D c a h w (by omega) Ha (by omega) o hc (by omega)
    have o1 : ∀ i j, ¬ (i = 221 ∨ i = 222) → ¬ (i = 181 ∧ j = 68) → w1 i j = w0 i j := fun i j p q => (a4 i j (fun z => p z.1) q).trans (o i j p q)
    obtain ⟨w2, b1, b2, b3, b4, b5⟩ := pm_lays a3 (by omega) 9 0
    have o2 : ∀ i j, ¬ (i = 221 ∨ i = 222) → ¬ (i = 181 ∧ j = 68) → w2 i j = w0 i j := fun i j p q => (b5 i j (fun z => p z.1) q).trans (o1 i j p q)
    obtain ⟨w3, c1, c2, c3, c4⟩ := ihb D (c + pm_cz ta + 1) (a + pt_sz ta) h w2 (by omega) Hb (by omega) o2 b4 (by omega)
    have o3 : ∀ i j, ¬ (i = 221 ∨ i = 222) → ¬ (i = 181 ∧ j = 68) → w3 i j = w0 i j := fun i j p q => (c4 i j (fun z => p z.1) q).trans (o2 i j p q)
    obtain ⟨w4, d1, d2, d3, d4, d5⟩ := pm_lays c3 (by omega) 10 0
    have o4 : ∀ i j, ¬ (i = 221 ∨ i = 222) → ¬ (i = 181 ∧ j = 68) → w4 i j = w0 i j := fun i j p q => (d5 i j (fun z => p z.1) q).trans (o3 i j p q)
    obtain ⟨w5, hw5⟩ : ∃ w5, w5 = fa_st w4 222 (c + pm_cz ta) ((c + pm_cz ta + 1 + pm_cz tb + 1 : Nat) : Int) := ⟨_, rfl⟩
    have o5 : ∀ i j, ¬ (i = 221 ∨ i = 222) → ¬ (i = 181 ∧ j = 68) → w5 i j = w0 i j := fun i j p q => by rw [hw5, fa_st_ne (fun z => p (Or.inr z.1))]; exact o4 i j p q
    obtain ⟨w6, f1, f2, f3, f4⟩ := ihd D (c + pm_cz ta + 1 + pm_cz tb + 1) (a + pt_sz ta + pt_sz tb) h w5 (by omega) Hd (by omega) o5 (by rw [hw5, fa_st_ne (by omega)]; exact d4) (by omega)
    refine ⟨fa_st w6 222 (c + pm_cz ta + 1 + pm_cz tb) (w6 181 68), ?_, ⟨?_, ?_, ?_, ?_, ?_, ?_, ?_⟩, ?_, fun i j p q => ?_⟩
    · show fm_Mod_compiles_b (fm_Mod_compiles D) _ w = _
      unfold fm_Mod_compiles_b
      rw [e1, pb_ix (by omega) (by omega), Option.bind_some, o 184 _ (by omega) (by omega), n1, if_neg (by decide), if_pos (by decide), Option.bind_some, o 185 _ (by omega) (by omega), n2, a1, Option.bind_some, b1, pf_bd_eq, Option.bind_some, o2 186 _ (by omega) (by omega), n3, c1, Option.bind_some, d1, pf_bd_eq, pb_ix (by omega) (by omega), Option.bind_some, pf_let_eq, d4, ← hw5, Option.bind_some, o5 187 _ (by omega) (by omega), n4, f1, Option.bind_some, pb_ix (by omega) (by omega), Option.bind_some]
      rfl
    · refine pm_cd_ob ta wa c (fun i j p q r => ?_) a2
      rw [fa_st_ne (by omega), f4 _ _ (by omega) (by omega), hw5, fa_st_ne (by omega), d5 _ _ (by omega) (by omega), c4 _ _ (by omega) (by omega), b5 _ _ (by omega) (by omega)]
    · rw [fa_st_ne (by omega), f4 _ _ (by omega) (by omega), hw5, fa_st_ne (by omega), d5 _ _ (by omega) (by omega), c4 _ _ (by omega) (by omega), b2]
    · rw [fa_st_ne (by omega), f4 _ _ (by omega) (by omega), hw5, fa_st_eq]
    · refine pm_cd_ob tb wb _ (fun i j p q r => ?_) c2
      rw [fa_st_ne (by omega), f4 _ _ (by omega) (by omega), hw5, fa_st_ne (by omega), d5 _ _ (by omega) (by omega)]
    · rw [fa_st_ne (by omega), f4 _ _ (by omega) (by omega), hw5, fa_st_ne (by omega), d2]
    · rw [fa_st_eq, f3]
    · refine pm_cd_ob td wd _ (fun i j p q r => ?_) f2
      rw [fa_st_ne (by omega)]
    · rw [fa_st_ne (by omega), f3, e3]
      congr 1
      omega
    · rw [fa_st_ne (by omega), f4 _ _ (by omega) (by omega), hw5, fa_st_ne (by omega), d5 _ _ (by omega) (by omega), c4 _ _ (by omega) (by omega), b5 _ _ (by omega) (by omega), a4 _ _ (by omega) (by omega)]
  | lt v x ta tb wa wb iha ihb =>
    intro D c a h w hD H ha o hc hb
    obtain ⟨Ha, Hb, n1, n2, n3, n4, _⟩ := H
    have e2 : pt_sz (pt_let v x ta tb) = pt_sz ta + pt_sz tb + 1 := rfl
    have pa := pt_sz_pos ta
    have pb := pt_sz_pos tb
    have zb := (pm_cz_pos tb wb).1
    obtain ⟨D, rfl⟩ : ∃ E, D = E + 1 := ⟨D - 1, by omega⟩
    have e1 : a + pt_sz (pt_let v x ta tb) - 1 = a + pt_sz ta + pt_sz tb := by omega
    have e3 : pm_cz (pt_let v x ta tb) = pm_cz ta + 1 + pm_cz tb := rfl
    obtain ⟨w1, a1, a2, a3, a4⟩ := iha D c a h w (by omega) Ha (by omega) o hc (by omega)
    have o1 : ∀ i j, ¬ (i = 221 ∨ i = 222) → ¬ (i = 181 ∧ j = 68) → w1 i j = w0 i j := fun i j p q => (a4 i j (fun z => p z.1) q).trans (o i j p q)
    obtain ⟨w2, b1, b2, b3, b4, b5⟩ := pm_lays a3 (by omega) 6 (v : Int)
    have o2 : ∀ i j, ¬ (i = 221 ∨ i = 222) → ¬ (i = 181 ∧ j = 68) → w2 i j = w0 i j := fun i j p q => (b5 i j (fun z => p z.1) q).trans (o1 i j p q)
    obtain ⟨w3, c1, c2, c3, c4⟩ := ihb D (c + pm_cz ta + 1) (a + pt_sz ta) h w2 (by omega) Hb (by omega) o2 b4 (by omega)
    refine ⟨w3, ?_, ⟨?_, ?_, ?_, c2⟩, ?_, fun i j p q => ?_⟩
    · show fm_Mod_compiles_b (fm_Mod_compiles D) _ w = _
      unfold fm_Mod_compiles_b
      rw [e1, pb_ix (by omega) (by omega), Option.bind_some, o 184 _ (by omega) (by omega), n1, if_neg (by decide), if_neg (by decide), if_pos (by decide), Option.bind_some, o 185 _ (by omega) (by omega), n2, a1, Option.bind_some, Option.bind_some, o1 187 _ (by omega) (by omega), n4, b1, pf_bd_eq, Option.bind_some, o2 186 _ (by omega) (by omega), n3, c1]
      rfl
    · refine pm_cd_ob ta wa c (fun i j p q r => ?_) a2
      rw [c4 _ _ (by omega) (by omega), b5 _ _ (by omega) (by omega)]
    · rw [c4 _ _ (by omega) (by omega), b2]
    · rw [c4 _ _ (by omega) (by omega), b3]
    · rw [c3, e3]
      congr 1
      omega
    · rw [c4 _ _ (by omega) (by omega), b5 _ _ (by omega) (by omega), a4 _ _ (by omega) (by omega)]
  | op s ta tb wa wb iha ihb =>
    intro D c a h w hD H ha o hc hb
    obtain ⟨Ha, Hb, n1, n2, n3, n4⟩ := H
    have e2 : pt_sz (pt_op s ta tb) = pt_sz ta + pt_sz tb + 1 := rfl
    have pa := pt_sz_pos ta
    have pb := pt_sz_pos tb
    obtain ⟨D, rfl⟩ : ∃ E, D = E + 1 := ⟨D - 1, by omega⟩
    have e1 : a + pt_sz (pt_op s ta tb) - 1 = a + pt_sz ta + pt_sz tb := by omega
    have e3 : pm_cz (pt_op s ta tb) = pm_cz ta + pm_cz tb + 1 := rfl
    obtain ⟨w1, a1, a2, a3, a4⟩ := iha D c a h w (by omega) Ha (by omega) o hc (by omega)
    have o1 : ∀ i j, ¬ (i = 221 ∨ i = 222) → ¬ (i = 181 ∧ j = 68) → w1 i j = w0 i j := fun i j p q => (a4 i j (fun z => p z.1) q).trans (o i j p q)
    obtain ⟨w3, c1, c2, c3, c4⟩ := ihb D (c + pm_cz ta) (a + pt_sz ta) h w1 (by omega) Hb (by omega) o1 a3 (by omega)
    have o3 : ∀ i j, ¬ (i = 221 ∨ i = 222) → ¬ (i = 181 ∧ j = 68) → w3 i j = w0 i j := fun i j p q => (c4 i j (fun z => p z.1) q).trans (o1 i j p q)
    obtain ⟨w4, d1, d2, d3, d4, d5⟩ := pm_lays c3 (by omega) 7 (s : Int)
    refine ⟨w4, ?_, ⟨?_, ?_, d2, d3⟩, ?_, fun i j p q => ?_⟩
    · show fm_Mod_compiles_b (fm_Mod_compiles D) _ w = _
      unfold fm_Mod_compiles_b
      rw [e1, pb_ix (by omega) (by omega), Option.bind_some, o 184 _ (by omega) (by omega), n1, if_neg (by decide), if_neg (by decide), if_neg (by decide), if_pos (by decide), Option.bind_some, o 185 _ (by omega) (by omega), n2, a1, Option.bind_some, Option.bind_some, o1 186 _ (by omega) (by omega), n3, c1, Option.bind_some, Option.bind_some, Option.bind_some, o3 184 _ (by omega) (by omega), o3 188 _ (by omega) (by omega), n1, n4, d1]
      rfl
    · refine pm_cd_ob ta wa c (fun i j p q r => ?_) a2
      rw [d5 _ _ (by omega) (by omega), c4 _ _ (by omega) (by omega)]
    · refine pm_cd_ob tb wb _ (fun i j p q r => ?_) c2
      rw [d5 _ _ (by omega) (by omega)]
    · rw [d4, e3]
      congr 1
      omega
    · rw [d5 _ _ (by omega) (by omega), c4 _ _ (by omega) (by omega), a4 _ _ (by omega) (by omega)]
  | site s ta tb wa wb iha ihb =>
    intro D c a h w hD H ha o hc hb
    obtain ⟨Ha, Hb, n1, n2, n3, n4, _⟩ := H
    have e2 : pt_sz (pt_site s ta tb) = pt_sz ta + pt_sz tb + 1 := rfl
    have pa := pt_sz_pos ta
    have pb := pt_sz_pos tb
    obtain ⟨D, rfl⟩ : ∃ E, D = E + 1 := ⟨D - 1, by omega⟩
    have e1 : a + pt_sz (pt_site s ta tb) - 1 = a + pt_sz ta + pt_sz tb := by omega
    have e3 : pm_cz (pt_site s ta tb) = pm_cz ta + pm_cz tb + 1 := rfl
    obtain ⟨w1, a1, a2, a3, a4⟩ := iha D c a h w (by omega) Ha (by omega) o hc (by omega)
    have o1 : ∀ i j, ¬ (i = 221 ∨ i = 222) → ¬ (i = 181 ∧ j = 68) → w1 i j = w0 i j := fun i j p q => (a4 i j (fun z => p z.1) q).trans (o i j p q)
    obtain ⟨w3, c1, c2, c3, c4⟩ := ihb D (c + pm_cz ta) (a + pt_sz ta) h w1 (by omega) Hb (by omega) o1 a3 (by omega)
    have o3 : ∀ i j, ¬ (i = 221 ∨ i = 222) → ¬ (i = 181 ∧ j = 68) → w3 i j = w0 i j := fun i j p q => (c4 i j (fun z => p z.1) q).trans (o1 i j p q)
    obtain ⟨w4, d1, d2, d3, d4, d5⟩ := pm_lays c3 (by omega) 8 (s : Int)
    refine ⟨w4, ?_, ⟨?_, ?_, d2⟩, ?_, fun i j p q => ?_⟩
    · show fm_Mod_compiles_b (fm_Mod_compiles D) _ w = _
      unfold fm_Mod_compiles_b
      rw [e1, pb_ix (by omega) (by omega), Option.bind_some, o 184 _ (by omega) (by omega), n1, if_neg (by decide), if_neg (by decide), if_neg (by decide), if_neg (by decide), if_pos (by decide), Option.bind_some, o 185 _ (by omega) (by omega), n2, a1, Option.bind_some, Option.bind_some, o1 186 _ (by omega) (by omega), n3, c1, Option.bind_some, Option.bind_some, Option.bind_some, o3 184 _ (by omega) (by omega), o3 188 _ (by omega) (by omega), n1, n4, d1]
      rfl
    · refine pm_cd_ob ta wa c (fun i j p q r => ?_) a2
      rw [d5 _ _ (by omega) (by omega), c4 _ _ (by omega) (by omega)]
    · refine pm_cd_ob tb wb _ (fun i j p q r => ?_) c2
      rw [d5 _ _ (by omega) (by omega)]
    · rw [d4, e3]
      congr 1
      omega
    · rw [d5 _ _ (by omega) (by omega), c4 _ _ (by omega) (by omega), a4 _ _ (by omega) (by omega)]
