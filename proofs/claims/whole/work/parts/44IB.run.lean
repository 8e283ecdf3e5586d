theorem rv_bd_err {x : rv_O} {k : rv_V → rv_S → rv_O} {e : Nat × rv_I} {s : rv_S} (h : rv_bd x k = (.error e, s)) : x = (.error e, s) ∨ ∃ b s1, x = (.ok b, s1) ∧ k b s1 = (.error e, s) := by
  obtain ⟨z, s1⟩ := x
  cases z with
  | error e1 => exact Or.inl h
  | ok b => exact Or.inr ⟨b, s1, rfl, h⟩
theorem rv_err_in {ap : Nat → Bool} {en : Nat → rv_V → Int → rv_I → rv_S → rv_O} (hen : ∀ f b up il s e s', en f b up il s = (.error e, s') → 2 ≤ e.1 ∧ e.1 ≤ 5) (t : pt_T) (tt : pt_tw t) : ∀ (il : rv_I) (s : rv_S) e s', rv_bt ap en t il s = (.error e, s') → 2 ≤ e.1 ∧ e.1 ≤ 5 := by
  induction t, tt using pt_indh with
  | num v => intro il s e s' h; cases h
  | var v x => intro il s e s' h; cases h
  | glo g x => intro il s e s' h; cases h
  | dead d => intro il s e s' h; cases h; exact (by decide : 2 ≤ 3 ∧ 3 ≤ 5)
  | lam f x b tb ih => intro il s e s' h; cases h
  | ife a b c ta tb tc iha ihb ihc =>
    intro il s e s' h
    rcases rv_bd_err (x := rv_bt ap en a il s) (k := fun v s1 => if fa_wr v.1 = 0 then rv_bt ap en c il s1 else rv_bt ap en b il s1) h with h | ⟨x, s1, h1, h2⟩
    · exact iha il s e s' h
    · by_cases z : fa_wr x.1 = 0
      · rw [if_pos z] at h2; exact ihc il s1 e s' h2
      · rw [if_neg z] at h2; exact ihb il s1 e s' h2
  | lt u x a b ta tb iha ihb =>
    intro il s e s' h
    rcases rv_bd_err (x := rv_bt ap en a il s) (k := fun a s1 => rv_bt ap en b il (rv_put s1 (rv_j il) u a)) h with h | ⟨x, s1, h1, h2⟩
    · exact iha il s e s' h
    · exact ihb il _ e s' h2
  | op sg a b ta tb iha ihb =>
    intro il s e s' h
    rcases rv_bd_err (x := rv_bt ap en a il s) (k := fun a s1 => rv_bd (rv_bt ap en b il s1) fun b s2 => rv_oo sg il a.1 b.1 s2) h with h | ⟨x, s1, h1, h2⟩
    · exact iha il s e s' h
    · rcases rv_bd_err h2 with h | ⟨y, s2, h3, h4⟩
      · exact ihb il s1 e s' h
      · unfold rv_oo at h4
        cases z : rv_op sg x.1 y.1 with
        | some n => rw [z] at h4; cases h4
        | none => rw [z] at h4; cases h4; exact (by decide : 2 ≤ 2 ∧ 2 ≤ 5)
  | site sg a b ta tb iha ihb =>
    intro il s e s' h
    rcases rv_bd_err (x := rv_bt ap en a il s) (k := fun a s1 => rv_bd (rv_bt ap en b il s1) fun b s2 => rv_sx ap en il a b s2) h with h | ⟨x, s1, h1, h2⟩
    · exact iha il s e s' h
    · rcases rv_bd_err h2 with h | ⟨y, s2, h3, h4⟩
      · exact ihb il s1 e s' h
      · unfold rv_sx at h4
        by_cases z : ap x.2.1.toNat = false
        · rw [if_pos z] at h4; cases h4; exact (by decide : 2 ≤ 5 ∧ 5 ≤ 5)
        · rw [if_neg z] at h4
          by_cases z2 : s2.1 = 100
          · rw [if_pos z2] at h4; cases h4; exact (by decide : 2 ≤ 4 ∧ 4 ≤ 5)
          · rw [if_neg z2] at h4; exact hen _ _ _ _ _ e s' h4
theorem rv_err {fb : Nat → pt_T} {ap : Nat → Bool} (tf : ∀ f, pt_tw (fb f)) : ∀ (d : Nat) (t : pt_T) (tt : pt_tw t) (il : rv_I) (s : rv_S) e s', rv_ev fb ap d t il s = (.error e, s') → 2 ≤ e.1 ∧ e.1 ≤ 5 := by
  intro d
  induction d with
  | zero => exact fun t tt => rv_err_in (fun f b up il s e s' h => by cases h; exact (by decide : 2 ≤ 4 ∧ 4 ≤ 5)) t tt
  | succ d ih => exact fun t tt => rv_err_in (fun f b up il s e s' h => ih (fb f) (tf f) _ _ e s' h) t tt
theorem rv_bd_le {x : rv_O} {k : rv_V → rv_S → rv_O} (h : x.2.1 ≤ 100) (g : ∀ a s1, s1.1 ≤ 100 → (k a s1).2.1 ≤ 100) : (rv_bd x k).2.1 ≤ 100 := by
  obtain ⟨z, s1⟩ := x
  cases z with
  | error e1 => exact h
  | ok b => exact g b s1 h
theorem rv_le_in {ap : Nat → Bool} {en : Nat → rv_V → Int → rv_I → rv_S → rv_O} (hen : ∀ f b up il s, s.1 ≤ 100 → s.1 ≠ 100 → (en f b up il s).2.1 ≤ 100) (t : pt_T) (tt : pt_tw t) : ∀ (il : rv_I) (s : rv_S), s.1 ≤ 100 → (rv_bt ap en t il s).2.1 ≤ 100 := by
  induction t, tt using pt_indh with
  | num v => intro il s h; exact h
  | var v x => intro il s h; exact h
  | glo g x => intro il s h; exact h
  | dead d => intro il s h; exact h
  | lam f x b tb ih => intro il s h; exact h
  | ife a b c ta tb tc iha ihb ihc =>
    intro il s h
    refine rv_bd_le (x := rv_bt ap en a il s) (k := fun v s1 => if fa_wr v.1 = 0 then rv_bt ap en c il s1 else rv_bt ap en b il s1) (iha il s h) (fun x s1 h1 => ?_)
    by_cases z : fa_wr x.1 = 0
    · show (if fa_wr x.1 = 0 then rv_bt ap en c il s1 else rv_bt ap en b il s1).2.1 ≤ 100
      rw [if_pos z]; exact ihc il s1 h1
    · show (if fa_wr x.1 = 0 then rv_bt ap en c il s1 else rv_bt ap en b il s1).2.1 ≤ 100
      rw [if_neg z]; exact ihb il s1 h1
  | lt u x a b ta tb iha ihb =>
    intro il s h
    exact rv_bd_le (x := rv_bt ap en a il s) (k := fun a s1 => rv_bt ap en b il (rv_put s1 (rv_j il) u a)) (iha il s h) (fun x s1 h1 => ihb il _ h1)
  | op sg a b ta tb iha ihb =>
    intro il s h
    refine rv_bd_le (x := rv_bt ap en a il s) (k := fun a s1 => rv_bd (rv_bt ap en b il s1) fun b s2 => rv_oo sg il a.1 b.1 s2) (iha il s h) (fun x s1 h1 => rv_bd_le (ihb il s1 h1) (fun y s2 h2 => ?_))
    unfold rv_oo
    cases rv_op sg x.1 y.1 with
    | some n => exact h2
    | none => exact h2
  | site sg a b ta tb iha ihb =>
    intro il s h
    refine rv_bd_le (x := rv_bt ap en a il s) (k := fun a s1 => rv_bd (rv_bt ap en b il s1) fun b s2 => rv_sx ap en il a b s2) (iha il s h) (fun x s1 h1 => rv_bd_le (ihb il s1 h1) (fun y s2 h2 => ?_))
    unfold rv_sx
    by_cases z : ap x.2.1.toNat = false
    · rw [if_pos z]; exact h2
    · rw [if_neg z]
      by_cases z2 : s2.1 = 100
      · rw [if_pos z2]; exact h2
      · rw [if_neg z2]; exact hen _ _ _ _ _ h2 z2
theorem rv_le {fb : Nat → pt_T} {ap : Nat → Bool} (tf : ∀ f, pt_tw (fb f)) : ∀ (d : Nat) (t : pt_T) (tt : pt_tw t) (il : rv_I) (s : rv_S), s.1 ≤ 100 → (rv_ev fb ap d t il s).2.1 ≤ 100 := by
  intro d
  induction d with
  | zero => exact fun t tt => rv_le_in (fun f b up il s h _ => h) t tt
  | succ d ih => exact fun t tt => rv_le_in (fun f b up il s h h2 => ih (fb f) (tf f) ((f, s.1 + 1) :: il) (rv_nw s f b up il.length) (Nat.lt_of_le_of_ne h h2)) t tt
/-- the answers of a run, by the class -/
def px_rR (e : Nat × Int × Nat × Nat × Nat × List Nat) (w : fa_W) : Prop := w 44 7 = (e.1 : Int) ∧ w 44 8 = e.2.1 ∧ w 44 9 = (e.2.2.1 : Int) ∧ w 44 10 = (e.2.2.2.1 : Int) ∧ w 44 11 = (e.2.2.2.2.1 : Int) ∧ px_RL 51 e.2.2.2.2.2.reverse w
theorem px_perf {sc o G nf nv ns nd : Nat} {how A : Int} {ins : List Nat} {gs : ps_G} {t : pt_T} {fb : Nat → pt_T} {r : pv_R} {hb ho : Nat → Int} {ap : Nat → Bool} {w : fa_W} {c : Nat} (hsc : px_sK sc) (hX : px_rP sc o nd nf nv ins fb A ap w) (hsz : ∀ f, f < nf → pt_sz (fb f) < 100) (h45 : w 45 1 = ((7474 : Nat) : Int)) (tf : ∀ f, pt_tw (fb f)) (hM : rv_PM G nf nv ns fb t r hb ho) (hc : c + pt_sz t ≤ nd) (hm : w o 16 = ((c + pt_sz t - 1 : Nat) : Int)) (hH : px_P o ins t (-1) c w) (hTV : px_TV (sc + 28) o gs t nf nd w) (hr : pv_t r t = pv_int ↔ ∀ r', pv_P r' gs t → pv_t r' t = pv_int) : ∃ w', fm_Machine_perform_j44 sc how A (fm_Machine_clear w) = some w' ∧ (∀ i j, ¬ (44 ≤ i ∧ i ≤ 54) → w' i j = w i j) ∧ w' 45 1 = ((7474 : Nat) : Int) ∧ w' 44 5 = w 44 5 ∧ px_rR (rv_E (rv_ev fb ap 100 t [] rv_0)) w' := by
  obtain ⟨hsc0, hp, ho54, hz, hin, h19, hB, h24, hap⟩ := id hX
  have nd100 : nd ≤ 100 := hz.2.2.2.2.2
  have hszt := pt_sz_pos t
  obtain ⟨w1, hw1⟩ : ∃ w1, w1 = fa_st (fm_Machine_clear w) 44 6 A := ⟨_, rfl⟩
  have e0 : fm_Machine_clear w = fa_st (fa_st (fa_st (fa_st (fa_st (fa_st (fa_st (fa_st (fa_st w 47 1 0) 49 1 0) 51 1 0) 53 1 0) 44 7 (-1)) 44 8 0) 44 9 0) 44 10 0) 44 11 0 := rfl
  have c1 : ∀ i j, ¬ (i = 44 ∧ 6 ≤ j ∧ j ≤ 11) → ¬ ((i = 47 ∨ i = 49 ∨ i = 51 ∨ i = 53) ∧ j = 1) → w1 i j = w i j := fun i j q q2 => by
    rw [hw1, e0, fa_st_ne (by omega), fa_st_ne (by omega), fa_st_ne (by omega), fa_st_ne (by omega), fa_st_ne (by omega), fa_st_ne (by omega), fa_st_ne (by omega), fa_st_ne (by omega), fa_st_ne (by omega), fa_st_ne (by omega)]
  have c44 : w1 44 6 = A ∧ w1 44 7 = -1 ∧ w1 44 8 = 0 ∧ w1 44 9 = 0 ∧ w1 44 10 = 0 ∧ w1 44 11 = 0 ∧ w1 47 1 = 0 ∧ w1 49 1 = 0 ∧ w1 51 1 = 0 ∧ w1 53 1 = 0 := by
    rw [hw1, e0]
    unfold fa_st
    exact ⟨rfl, rfl, rfl, rfl, rfl, rfl, rfl, rfl, rfl, rfl⟩
  obtain ⟨a5, a6, a7, a8, a9, a10, b1, b2, b3, b4⟩ := c44
  have eP : fm_Machine_perform_j44 sc how A (fm_Machine_clear w) = fm_Machine_perform_l61 sc how fa_FU 0 (fr_add 47 (((c + pt_sz t - 1 : Nat) : Int) * 4 + 0) w1) := by
    unfold fm_Machine_perform_j44
    rw [pf_let_eq, ← hw1, pf_let_eq, hsc0, c1 o 16 (by omega) (by omega), hm]
    rfl
  obtain ⟨p1, p2, p3⟩ := px_push (r := 47) (m := 5252) (n := 0) (v := ((c + pt_sz t - 1 : Nat) : Int) * 4 + 0) (w := w1) (by decide +kernel) (by decide +kernel) (by rw [b1]; rfl) (by omega)
  generalize fr_add 47 (((c + pt_sz t - 1 : Nat) : Int) * 4 + 0) w1 = w2 at *
  have S0 : px_rS ins A w [] rv_0 w2 := by
    refine ⟨fun i j q => ?_, ⟨?_, ?_, ?_, ?_, ?_, ?_, ?_⟩, ?_, ⟨?_, fun i x q => by cases q⟩, ⟨?_, fun i x q => by cases q⟩, fun i v a q => by cases q⟩
    · rw [p3 _ _ (by omega) (by omega), c1 _ _ (by omega) (by omega)]
    · rw [p3 _ _ (by omega) (by omega)]; exact a5
    · rw [p3 _ _ (by omega) (by omega)]; exact a6
    · rw [p3 _ _ (by omega) (by omega)]; exact a7
    · rw [p3 _ _ (by omega) (by omega)]; exact a8
    · rw [p3 _ _ (by omega) (by omega)]; exact a9
    · rw [p3 _ _ (by omega) (by omega)]; exact a10
    · rw [p3 _ _ (by omega) (by omega), c1 _ _ (by omega) (by omega)]
    · rw [p3 _ _ (by omega) (by omega), c1 _ _ (by omega) (by omega)]; exact h45
    · rw [p3 _ _ (by omega) (by omega)]; exact b3
    · rw [p3 _ _ (by omega) (by omega)]; exact b4
  have Q := px_run_in (how := how) hM.1 hX (rv_EN_en (ap := ap) hM.1 100) (px_run_N hM.1 hX hsz 100) t hM.2.1.1 (-1) (-1) [] rv_0 c 0 0 w2 hM.2.1 (rv_0_DF hM) (Nat.le_refl _) hH hc S0 p1 (by rw [p2]; omega) (by rw [p3 _ _ (by omega) (by omega)]; exact b2) (by rw [List.length_nil]; omega) (by rw [List.length_nil]; omega)
  rw [← rv_ev_eq] at Q
  obtain ⟨k, w', k1, k2, k3, k4⟩ := Q
  have RS := rv_ok (ap := ap) hM.1 100 t hM.2.1.1 (-1) [] rv_0 hM.2.1 (rv_0_DF hM)
  have RE := rv_err (fb := fb) (ap := ap) tf 100 t hM.2.1.1 [] rv_0
  have RL := rv_le (fb := fb) (ap := ap) tf 100 t hM.2.1.1 [] rv_0 (by decide)
  generalize rv_ev fb ap 100 t [] rv_0 = ro at *
  obtain ⟨z, s'⟩ := ro
  change k ≤ 3 * pt_sz t + 302 * (s'.1 - 0) at k1
  change s'.1 ≤ 100 at RL
  obtain ⟨FU, hFU⟩ : ∃ F, fa_FU = F + 1 + k := ⟨fa_FU - 1 - k, by unfold fa_FU; omega⟩
  have e3 := k3 (FU + 1) 0 (by omega)
  rw [eP, hFU]
  have e3' : fm_Machine_perform_l61 sc how (FU + 1 + k) 0 w2 = fm_Machine_perform_l61 sc how (FU + 1) ((0 + k : Nat) : Int) w' := e3
  rw [e3']
  clear e3 e3' k3 eP
  have ku : ∀ {x : Option fa_W}, fm_Machine_perform_j141 sc how w' = x → (w' 44 7 = -1 → fm_Row_size 47 w' = 0) → (-1 ≤ w' 44 7 ∧ w' 44 7 ≤ 5) → fm_Machine_perform_l61 sc how (FU + 1) ((0 + k : Nat) : Int) w' = x := fun {x} hx h1 h2 => by
    conv => lhs; unfold fm_Machine_perform_l61
    rw [pb_wr (by omega), if_neg (by omega), fa_wr_id (x := w' 44 7) (by omega) (by omega)]
    by_cases z : w' 44 7 = -1
    · rw [if_pos z, h1 z, if_pos (by decide)]; exact hx
    · rw [if_neg z]; exact hx
  cases z with
  | error e =>
    obtain ⟨q1, q2, q3, q4, q5, q6, q7, q8, q9⟩ := k4
    have ee := RE e s' rfl
    refine ⟨w', ku ?_ (fun z => by omega) (by omega), q1, q8, q9, q2, q3, q4, q5, q6, ?_⟩
    · unfold fm_Machine_perform_j141
      rw [q2, pb_wr (by omega), if_neg (by omega)]
    · show px_RL 51 (e.2.map (fun p => p.1)).reverse w'
      rw [← List.map_reverse]
      exact q7
  | ok a =>
    obtain ⟨q1, q2, q3, q4, q5, q6⟩ := k4
    obtain ⟨r1, ⟨d5, d6, d7, d8, d9, d10, d4⟩, r2, r3, r4, r5⟩ := q1
    have R := RS a s' rfl
    obtain ⟨hFo, hto⟩ : px_to (sc + 28) ∧ fa_rf sc 1 = sc + 28 := ⟨(px_sK_all hsc).2.1, (px_sK_all hsc).2.2.2.2.2.2.1⟩
    have sc54 : 54 < sc := by rcases hsc with h | h <;> omega
    have hTV' : px_TV (sc + 28) o gs t nf nd w' := px_TV_of hTV (fun i j h => r1 i j (by omega))
    obtain ⟨b, i1, i2⟩ := px_isInt hFo hTV'
    have e9 : fa_rf (sc + 28) 4 = sc + 28 + 9 := by
      rcases hsc with h | h <;> subst h <;> decide +kernel
    have hd := px_pop (r := 49) (m := 5252) (n := 0) (w := w') (by decide +kernel) (by decide +kernel) q3 (by omega)
    have hj : fm_Machine_perform_j141 sc how w' = some (fm_Machine_finish b w') := by
      unfold fm_Machine_perform_j141
      rw [d6, pb_wr1, if_pos rfl, hto, e9, hsc0, i1]
      rfl
    have ff : fm_Machine_finish b w' = fa_st (fa_st (fa_st w' 49 1 0) 44 7 (if b = true then 0 else 1)) 44 8 (if b = true then w' 50 0 else fm_Machine_functionOf (w' 50 0) (fa_st (fa_st w' 49 1 0) 44 7 1)) := by
      unfold fm_Machine_finish
      rw [hd]
      cases b <;> rfl
    refine ⟨_, ku hj (fun _ => q2) (by omega), ?_⟩
    rw [ff]
    have o1 : ∀ i j, ¬ (i = 44 ∧ (j = 7 ∨ j = 8)) → ¬ (i = 49 ∧ j = 1) → ∀ x y : Int, fa_st (fa_st (fa_st w' 49 1 0) 44 7 x) 44 8 y i j = w' i j := fun i j h h2 x y => by rw [fa_st_ne (by omega), fa_st_ne (by omega), fa_st_ne (by omega)]
    refine ⟨fun i j h => ?_, ?_, ?_, ?_, ?_, ?_, ?_, ?_, px_RL_of (l := []) r3 (fun i j h => ?_)⟩
    · rw [o1 _ _ (by omega) (by omega)]; exact r1 i j h
    · rw [o1 _ _ (by omega) (by omega)]; exact r2
    · rw [o1 _ _ (by omega) (by omega)]; exact d4
    · rw [fa_st_ne (by omega), fa_st_eq]
      show (if b = true then (0 : Int) else 1) = ((if a.2.1 = -1 then 0 else 1 : Nat) : Int)
      rcases R.2.2.1 with ⟨x1, x2⟩ | ⟨f, x0, x1, x2, _⟩
      · rw [if_pos x1, if_pos (i2.mpr (hr.mp x2))]; rfl
      · rw [if_neg (show ¬ a.2.1 = -1 by omega), if_neg (fun z => pv_ar_int ((hM.1 f x0).2.2.2.2.1.symm.trans (x2.symm.trans (hr.mpr (i2.mp z)))))]; rfl
    · rw [fa_st_eq]
      show (if b = true then w' 50 0 else _) = (if a.2.1 = -1 then a.1 else a.2.1)
      rcases R.2.2.1 with ⟨x1, x2⟩ | ⟨f, x0, x1, x2, _⟩
      · rw [if_pos x1, if_pos (i2.mpr (hr.mp x2))]
        exact px_rE_i q6 x1
      · rw [if_neg (show ¬ a.2.1 = -1 by omega), if_neg (fun z => pv_ar_int ((hM.1 f x0).2.2.2.2.1.symm.trans (x2.symm.trans (hr.mpr (i2.mp z)))))]
        obtain ⟨g1, fr, g2, g3, _⟩ := px_rE_n q6 x1
        rw [g3, x1]
        exact px_fnOf (Nat.le_trans g2 RL) g1 _
    · rw [o1 _ _ (by omega) (by omega)]; exact d8
    · rw [o1 _ _ (by omega) (by omega)]; exact d9
    · rw [o1 _ _ (by omega) (by omega)]; exact d10
    · rw [o1 _ _ (by omega) (by omega)]
