/-! count(): THINGS of BACK, FIELDS of what is MADE -/
theorem lw_pcN {M CL : Nat → Bool} : ∀ (gs : ps_G) (g n m : Nat), pc_N M CL gs g (n + m) = pc_N M CL gs g n + m := by
  intro gs
  induction gs with
  | nil => intro g n m; rfl
  | cons e r ih =>
    intro g n m
    obtain ⟨x, v, u⟩ := e
    show (if M g = true then pc_N M CL r (g + 1) (n + m + if CL g = true then pc_sz CL u else 1) else pc_N M CL r (g + 1) (n + m)) = (if M g = true then pc_N M CL r (g + 1) (n + if CL g = true then pc_sz CL u else 1) else pc_N M CL r (g + 1) n) + m
    by_cases z : M g = true
    · rw [if_pos z, if_pos z, ← ih]
      congr 1
      omega
    · rw [if_neg z, if_neg z, ih]
theorem lw_thingsOfBack {gs : ps_G} {t : pt_T} {la li si nd mk cl : Nat} {fb : Nat → pt_T} {sb : pf_sT} {w : fa_W} (hV : pn_V gs t la li si nd) (hG : pf_G gs t la li si fb sb) (hN : pm_AN gs t la li si nd fb sb mk w) (hmk : mk < 2 ^ (gs.length + la)) (hC : bk_C gs la fb t cl) : fm_Mod_thingsOfBack w = some ((bk_nd mk cl gs t : Nat) : Int) := by
  have v1 := hV.1
  have v2 := hV.2.1
  have v3 := hV.2.2.1
  have p24 : 2 ^ (gs.length + la) ≤ 2 ^ 24 := Nat.pow_le_pow_right (by omega) (by omega)
  obtain ⟨cl', hC', m3, m4⟩ := pm_masks hN
  have e := bk_C_one hC' hC
  subst e
  have cc := hC.1
  obtain ⟨_, ⟨b, b1, b2, b3⟩, hPB⟩ := pf_PB_of hV hG hN.1
  have p17 := hN.1.2.1
  have main := lw_thingsOf (nf := gs.length + la) (cl := cl') (by omega) m4 (by omega) t hG.2.2.2.1.1 (-1) b 900 b3 (by omega) hG.2.2.2.1.2.2.1 (by omega)
  have tot : ∀ (d g F x1 : Nat), g + d = gs.length → d < F → x1 + 100 * d < 100000 → fm_Mod_thingsOfBack_l11 w F (x1 : Int) (g : Int) = some ((pc_N (bk_M mk) (bk_M cl') (gs.drop g) g x1 : Nat) : Int) := by
    intro d
    induction d with
    | zero =>
      intro g F x1 hg hF _
      obtain ⟨F, rfl⟩ : ∃ n, F = n + 1 := ⟨F - 1, by omega⟩
      have e : gs.drop g = [] := List.drop_of_length_le (by omega)
      rw [e]
      unfold fm_Mod_thingsOfBack_l11
      rw [p17, pb_wr (by omega), pb_wr (by omega), if_pos (by omega)]
      rfl
    | succ d ih =>
      intro g F x1 hg hF hx
      obtain ⟨F, rfl⟩ : ∃ n, F = n + 1 := ⟨F - 1, by omega⟩
      have hlt : g < gs.length := by omega
      obtain ⟨⟨x, v, u⟩, hge⟩ : ∃ e, gs[g]? = some e := ⟨gs[g], List.getElem?_eq_getElem hlt⟩
      have hge' : gs[g] = (x, v, u) := by
        rw [List.getElem?_eq_getElem hlt] at hge
        exact Option.some.inj hge
      obtain ⟨_, _, ne⟩ := px_names hV g x v u hge
      have fbu : fb g = u := by rw [hG.1 g hlt, ← ne]
      obtain ⟨a, q1, q2, q3⟩ := hPB g (by omega)
      rw [fbu] at q1 q2 q3
      have tu : pt_tw u := by rw [← fbu]; exact hG.2.1 g
      have Wu : pf_W (gs.length + la) (24 + li) si u := by rw [← fbu]; exact (hG.2.2.1 g (by omega)).2.1
      have th := lw_thingsOf (nf := gs.length + la) (cl := cl') (by omega) m4 (by omega) u tu (g : Int) a 900 q3 (by omega) Wu (by omega)
      rw [List.drop_eq_getElem_cons hlt, hge']
      have szl : pc_sz (bk_M cl') u ≤ 100 := by
        have := pc_sz_le (bk_M cl') u tu
        omega
      show _ = some (((if bk_M mk g = true then pc_N (bk_M mk) (bk_M cl') (gs.drop (g + 1)) (g + 1) (x1 + if bk_M cl' g = true then pc_sz (bk_M cl') u else 1) else pc_N (bk_M mk) (bk_M cl') (gs.drop (g + 1)) (g + 1) x1 : Nat)) : Int)
      unfold fm_Mod_thingsOfBack_l11
      rw [p17, pb_wr (by omega), pb_wr (by omega), if_neg (by omega), m3, pf_hd (by omega) (by omega), m4, pf_hd (by omega) (by omega)]
      by_cases z : mk.testBit g = true
      · rw [if_pos z, if_pos (show bk_M mk g = true from z)]
        by_cases y : cl'.testBit g = true
        · rw [if_pos y, if_pos (show bk_M cl' g = true from y), pb_ix (show g < 24 by omega) (by omega), Option.bind_some, q2, th, Option.bind_some, pf_let_eq, pf_let_eq]
          exact ih (g + 1) F (x1 + pc_sz (bk_M cl') u) (by omega) (by omega) (by omega)
        · rw [if_neg y, if_neg (show ¬ bk_M cl' g = true from y), pf_let_eq, pf_let_eq]
          exact ih (g + 1) F (x1 + 1) (by omega) (by omega) (by omega)
      · rw [if_neg z, if_neg (show ¬ bk_M mk g = true from z), pf_let_eq, pf_let_eq]
        exact ih (g + 1) F (x1 + 0) (by omega) (by omega) (by omega)
  have p21 : w 181 21 = ((b + pt_sz t - 1 : Nat) : Int) := b2
  have szt : pc_sz (bk_M cl') t ≤ 100 := by
    have := pc_sz_le (bk_M cl') t hV.2.2.2.2.2.1
    omega
  have T := tot gs.length 0 fa_FU (pc_sz (bk_M cl') t) (by omega) (by unfold fa_FU; omega) (by omega)
  unfold fm_Mod_thingsOfBack
  rw [p21, main, Option.bind_some]
  refine T.trans ?_
  rw [List.drop_zero]
  unfold bk_nd
  have := lw_pcN (M := bk_M mk) (CL := bk_M cl') gs 0 0 (pc_sz (bk_M cl') t)
  rw [Nat.zero_add] at this
  rw [this]
