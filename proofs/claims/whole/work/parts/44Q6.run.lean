/-! function() in the law: what it answers -/
theorem lw_bits {n x y : Nat} (hx : x < 2 ^ n) (hy : y < 2 ^ n) (h : ∀ g, x.testBit g = true ↔ y.testBit g = true) : x = y := Nat.eq_of_testBit_eq fun f => by
  have a := h f
  cases p : x.testBit f <;> cases q : y.testBit f
  · rfl
  · rw [p, q] at a; exact absurd (a.mpr rfl) (by decide)
  · rw [p, q] at a; exact absurd (a.mp rfl) (by decide)
  · rfl
theorem lw_bitsAt {r n x : Nat} {w : fa_W} {k : Nat} (hn : w r 1 = (n : Int)) (hk : k < n) (hc : n ≤ fa_cp r) (h : w (fa_rf r 0) k = (x : Int)) (hn2 : n < 2147483648) : fr_bits r (k : Int) w = (x : Int) := by
  unfold fr_bits
  rw [pb_wr (by omega), hn, pb_wr hn2, if_pos ⟨by omega, by omega, by omega⟩]
  exact h
def lw_FN (gs : ps_G) (t : pt_T) (la li si nd : Nat) (fb : Nat → pt_T) (sb : pf_sT) (mk f : Nat) (b : Int) (w : fa_W) : Prop := ∃ v w1, fm_Face_function (f : Int) b w = some (0, v, w1) ∧ (∀ i j, i ≠ 5 → i ≠ 6 → w1 i j = w i j) ∧ ∀ w0, pm_AN gs t la li si nd fb sb mk w0 → fm_Mod_function_j29 (f : Int) b false w0 = some (v, w0)
theorem lw_fn1 {gs : ps_G} {t : pt_T} {la li si nd mk f : Nat} {fb : Nat → pt_T} {sb : pf_sT} {ins os : List Nat} {w : fa_W} {b : Int} (hP : pf_PR gs t la li si nd fb sb mk) (hS : px_SC (fa_sc (w 0 6)) gs t la li si nd ins os fb sb mk w) (hf : f < gs.length + la) (hb : b = 0 ∨ b = 1 ∨ b = 2 ∨ b = 3) : lw_FN gs t la li si nd fb sb mk f b w := by
  obtain ⟨hV, hG, _, hmk, hMk⟩ := id hP
  have v1 := hV.1
  have v2 := hV.2.1
  have p24 : 2 ^ (gs.length + la) ≤ 2 ^ 24 := Nat.pow_le_pow_right (by omega) (by omega)
  have hsc := px_sK_sc (w 0 6)
  obtain ⟨a1, a2, a3, a4, a5, a6, a7, a8, a9⟩ := px_sK_all hsc
  obtain ⟨cl, hC, m1, m2⟩ := px_masks hS
  have cc := hC.1
  have hn := (px_need (nf := gs.length + la) (w := w) (a := (f : Int)) (by omega) (by rw [a6]; exact hS.1.2.1.2.1) (by omega)).1 ⟨by omega, by omega⟩
  have thr : ∀ (b : Int) w0, fm_Mod_throwsIf false 2 w0 = (false, w0) := fun b w0 => by unfold fm_Mod_throwsIf; rw [if_neg (by decide)]
  have e13 := hS.1.2.1.1
  have one : ∀ (m : Nat), fm_Face_oneIf (m.testBit f) w = if m.testBit f = true then 1 else 0 := fun m => rfl
  rcases hb with h | h | h | h <;> subst h
  · refine ⟨fm_Program_home (fa_sc (w 0 6) + 1) (f : Int) w, w, ?_, fun _ _ _ _ => rfl, fun w0 hN => ?_⟩
    · unfold fm_Face_function
      rw [hn, pf_bd_eq, if_pos rfl, if_pos (by decide), a6]
    · unfold fm_Mod_function_j29
      rw [thr 0 w0, pf_l2_eq, if_neg (by decide), if_pos (by decide), pb_ix (show f < 24 by omega) (by omega), Option.bind_some, lw_home hsc hV hG hS hN.1 hf]
  · refine ⟨if gs.length ≤ f then 0 else 1, w, ?_, fun _ _ _ _ => rfl, fun w0 hN => ?_⟩
    · unfold fm_Face_function
      rw [hn, pf_bd_eq, if_pos rfl, if_neg (by decide), if_pos (by decide), a6, e13, pb_wr (by omega), pb_wr (by omega)]
      by_cases z : gs.length ≤ f
      · rw [if_pos (by omega), if_pos z]
      · rw [if_neg (by omega), if_neg z]
    · unfold fm_Mod_function_j29
      rw [thr 0 w0, pf_l2_eq, if_neg (by decide), if_neg (by decide), if_pos (by decide), hN.1.2.1, pb_wr (by omega), pb_wr (by omega)]
      by_cases z : gs.length ≤ f
      · rw [if_pos (by omega), if_pos z]
      · rw [if_neg (by omega), if_neg z]
  · refine ⟨if mk.testBit f = true then 1 else 0, w, ?_, fun _ _ _ _ => rfl, fun w0 hN => ?_⟩
    · unfold fm_Face_function
      rw [hn, pf_bd_eq, if_pos rfl, if_neg (by decide), if_neg (by decide), if_pos (by decide), a8, m1, pf_hb (by omega) (by omega), one]
    · obtain ⟨cl', hC', m3, m4⟩ := pm_masks hN
      unfold fm_Mod_function_j29
      rw [thr 0 w0, pf_l2_eq, if_neg (by decide), if_neg (by decide), if_neg (by decide), if_pos (by decide), m3, pf_hd (by omega) (by omega)]
      by_cases z : mk.testBit f = true
      · rw [if_pos z, if_pos z]
      · rw [if_neg z, if_neg z]
  · refine ⟨if cl.testBit f = true then 1 else 0, w, ?_, fun _ _ _ _ => rfl, fun w0 hN => ?_⟩
    · unfold fm_Face_function
      rw [hn, pf_bd_eq, if_pos rfl, if_neg (by decide), if_neg (by decide), if_neg (by decide), if_pos (by decide), a8, m2, pf_hb (by omega) (by omega), one]
    · obtain ⟨cl', hC', m3, m4⟩ := pm_masks hN
      have e := bk_C_one hC' hC
      subst e
      unfold fm_Mod_function_j29
      rw [thr 0 w0, pf_l2_eq, if_neg (by decide), if_neg (by decide), if_neg (by decide), if_neg (by decide), if_pos (by decide), m4, pf_hd (by omega) (by omega)]
      by_cases z : cl'.testBit f = true
      · rw [if_pos z, if_pos z]
      · rw [if_neg z, if_neg z]
theorem lw_fn2 {gs : ps_G} {t : pt_T} {la li si nd mk f : Nat} {fb : Nat → pt_T} {sb : pf_sT} {ins os : List Nat} {w : fa_W} {b : Int} (hP : pf_PR gs t la li si nd fb sb mk) (hS : px_SC (fa_sc (w 0 6)) gs t la li si nd ins os fb sb mk w) (hf : f < gs.length + la) (hb : b = 4 ∨ b = 5) : lw_FN gs t la li si nd fb sb mk f b w := by
  obtain ⟨hV, hG, _, hmk, hMk⟩ := id hP
  have v1 := hV.1
  have v2 := hV.2.1
  have v3 := hV.2.2.1
  have p24 : 2 ^ (gs.length + la) ≤ 2 ^ 24 := Nat.pow_le_pow_right (by omega) (by omega)
  have hsc := px_sK_sc (w 0 6)
  obtain ⟨a1, a2, a3, a4, a5, a6, a7, a8, a9⟩ := px_sK_all hsc
  obtain ⟨cl, hC, m1, m2⟩ := px_masks hS
  have cc := hC.1
  have hL : ∀ f, pf_lL fb t f → f < gs.length + la := fun g hg => by
    have hb := (hC.2 g).mpr hg
    by_cases z : g < gs.length + la
    · exact z
    · rw [Nat.testBit_lt_two_pow (Nat.lt_of_lt_of_le cc (Nat.pow_le_pow_right (by omega) (by omega)))] at hb; cases hb
  have hn := (px_need (nf := gs.length + la) (w := w) (a := (f : Int)) (by omega) (by rw [a6]; exact hS.1.2.1.2.1) (by omega)).1 ⟨by omega, by omega⟩
  have thr : ∀ (b : Int) w0, fm_Mod_throwsIf false 2 w0 = (false, w0) := fun b w0 => by unfold fm_Mod_throwsIf; rw [if_neg (by decide)]
  obtain ⟨zz, tb, cal, rg, z1, ⟨⟨c1, c2⟩, c3, c4, c5⟩, ok, lz, T3, _⟩ := id hS.2.2.1
  rcases hb with h | h <;> subst h
  · refine ⟨(zz.2.1 f : Int), w, ?_, fun _ _ _ _ => rfl, fun w0 hN => ?_⟩
    · unfold fm_Face_function
      rw [hn, pf_bd_eq, if_pos rfl, if_neg (by decide), if_neg (by decide), if_neg (by decide), if_neg (by decide), if_pos (by decide), a8, a3.1.2.1, lw_bitsAt (x := zz.2.1 f) c2 (by omega) (by rw [a3.2.2.2.1]; omega) (by rw [a3.2.1.2.1]; exact c4 f (by omega)) (by omega)]
    · obtain ⟨cl', hC', m3, m4⟩ := pm_masks hN
      have e := bk_C_one hC' hC
      subst e
      obtain ⟨_, _, _, _, _, ⟨z', z1', ⟨ok', _, ⟨fo, mm1, mm2, _⟩, _⟩, lz'⟩, _⟩ := hN
      have xf : px_xi ins f = f := by unfold px_xi; rw [if_pos (by omega)]
      have bx : ∀ g, (zz.2.1 f).testBit g = true ↔ pf_lH fb t f g := fun g => by
        have := lz.1 f g (by omega)
        rw [xf] at this
        exact this
      unfold fm_Mod_function_j29
      rw [thr 0 w0, pf_l2_eq, if_neg (by decide), if_neg (by decide), if_neg (by decide), if_neg (by decide), if_neg (by decide), if_pos (by decide), m4, pf_hd (by omega) (by omega)]
      by_cases y : cl'.testBit f = true
      · have e : z'.1 f = zz.2.1 f := lw_bits (ok'.1 f) (ok.2.1 f) (fun g => by
          rw [bx g]
          have := congrFun (congrFun lz'.1 f) g
          unfold pf_b at this
          rw [this])
        rw [if_pos y, pb_ix (show f < 124 by omega) (by omega), Option.bind_some, mm1 f (by omega), e]
      · have e : zz.2.1 f = 0 := by
          rcases Nat.eq_zero_or_pos (zz.2.1 f) with q | q
          · exact q
          · obtain ⟨k, _, k2, _⟩ := pf_lowest (m := zz.2.1 f) (by have := ok.2.1 f; omega) q w
            exact absurd ((hC.2 f).mpr (lw_lH_L hV hG hL (by omega) ((bx k).mp k2))) y
        rw [if_neg y, e]
        rfl
  · obtain ⟨e, e1, e2, e3⟩ := px_bodyOf a3 a1 (by omega) v3 hG.2.1 T3 hS.1.1.2.2.2.2.2.2.2.2.2 ⟨⟨c1, c2⟩, c3, c4, c5⟩ ok lz hf
    refine ⟨(e : Int), w, ?_, fun _ _ _ _ => rfl, fun w0 hN => ?_⟩
    · unfold fm_Face_function
      rw [hn, pf_bd_eq, if_pos rfl, if_neg (by decide), if_neg (by decide), if_neg (by decide), if_neg (by decide), if_neg (by decide), if_pos (by decide), a8, a6, e1]
    · obtain ⟨cl', hC', m3, m4⟩ := pm_masks hN
      have ec := bk_C_one hC' hC
      subst ec
      obtain ⟨_, _, _, _, _, ⟨z', z1', ⟨ok', _, ⟨fo, mm1, mm2, _⟩, _⟩, lz'⟩, _⟩ := hN
      unfold fm_Mod_function_j29
      rw [thr 0 w0, pf_l2_eq, if_neg (by decide), if_neg (by decide), if_neg (by decide), if_neg (by decide), if_neg (by decide), if_neg (by decide), if_pos (by decide), m4, pf_hd (by omega) (by omega)]
      by_cases y : cl'.testBit f = true
      · have ee : z'.2.1 f = e := lw_bits (ok'.2.1 f) e2 (fun g => by
          rw [e3 g, ← lw_lR_k hG.2.2.2.1.1 hG.2.1 f g]
          have := congrFun (congrFun lz'.2.1 f) g
          unfold pf_b at this
          rw [this])
        rw [if_pos y, pb_ix (show f < 24 by omega) (by omega), Option.bind_some, mm2 f (by omega), ee]
      · have ee : e = 0 := by
          rcases Nat.eq_zero_or_pos e with q | q
          · exact q
          · obtain ⟨k, _, k2, _⟩ := pf_lowest (m := e) (by omega) q w
            exact absurd ((hC.2 f).mpr ((e3 k).mp k2).1) y
        rw [if_neg y, ee]
        rfl
