/-! BACK, as a program -/
def bk_M (mk : Nat) : Nat → Bool := fun f => mk.testBit f
def bk_G (mk cl : Nat) (sb : pf_sT) (hb : Nat → Int) (si : Nat) (gs : ps_G) : ps_G := pc_G (bk_M mk) (bk_M cl) (pc_ρ (bk_M mk) (pc_LV (bk_M cl) hb)) (pc_rk (pc_SV (bk_M cl) sb si)) gs 0 0
def bk_T (mk cl : Nat) (sb : pf_sT) (hb : Nat → Int) (si : Nat) (gs : ps_G) (t : pt_T) : pt_T := pc_t (bk_M cl) (pc_ρ (bk_M mk) (pc_LV (bk_M cl) hb)) (pc_rk (pc_SV (bk_M cl) sb si)) t (pc_N (bk_M mk) (bk_M cl) gs 0 0)
def bk_la (mk : Nat) (gs : ps_G) (la : Nat) : Nat := pc_rk (bk_M mk) (gs.length + la) - pc_rk (bk_M mk) gs.length
def bk_li (cl : Nat) (hb : Nat → Int) (li : Nat) : Nat := pc_rk (pc_LV (bk_M cl) hb) li
def bk_si (cl : Nat) (sb : pf_sT) (si : Nat) : Nat := pc_rk (pc_SV (bk_M cl) sb si) si
def bk_nd (mk cl : Nat) (gs : ps_G) (t : pt_T) : Nat := pc_N (bk_M mk) (bk_M cl) gs 0 0 + pc_sz (bk_M cl) t
/-- a program that can be typed, with what it means -/
def bk_H (gs : ps_G) (t : pt_T) (la li si : Nat) (fb : Nat → pt_T) (hb : Nat → Int) : Prop := ∃ (r : pv_R) (ho : Nat → Int), pv_P r gs t ∧ rv_PM gs.length (gs.length + la) (24 + li) si fb t r hb ho
theorem bk_H_of {gs : ps_G} {t : pt_T} {la li si nd mk : Nat} {fb : Nat → pt_T} {sb : pf_sT} {w : fa_W} (hP : pf_PR gs t la li si nd fb sb mk) (hW : pm_Pw gs t la li si nd w) : bk_H gs t la li si fb (fun v => w 193 v) := by
  obtain ⟨hV, hG, ⟨r, hr⟩, _⟩ := hP
  exact ⟨r, _, hr, rv_PM_of hV hG hW hr⟩
def bk_C (gs : ps_G) (la : Nat) (fb : Nat → pt_T) (t : pt_T) (cl : Nat) : Prop := cl < 2 ^ (gs.length + la) ∧ ∀ f, cl.testBit f = true ↔ pf_lL fb t f
theorem bk_ok {gs : ps_G} {t : pt_T} {la li si nd mk cl : Nat} {fb : Nat → pt_T} {sb : pf_sT} {hb : Nat → Int} (hP : pf_PR gs t la li si nd fb sb mk) (hH : bk_H gs t la li si fb hb) (hC : bk_C gs la fb t cl) : pc_okG (bk_M mk) (bk_M cl) (pc_SV (bk_M cl) sb si) (pc_LV (bk_M cl) hb) gs 0 ∧ pc_ok (bk_M mk) (bk_M cl) (pc_SV (bk_M cl) sb si) (pc_LV (bk_M cl) hb) t true ∧ ∀ s, pc_SV (bk_M cl) sb si s = true → s < si := by
  obtain ⟨hV, hG, _, hmk, hM⟩ := hP
  obtain ⟨r, ho, hr, hPM⟩ := hH
  exact pc_back_ok hV hG hPM hM hC.2 (fun f hf => by
    by_cases z : f < gs.length + la
    · exact z
    · have : cl.testBit f = true := hf
      rw [Nat.testBit_lt_two_pow (Nat.lt_of_lt_of_le hC.1 (Nat.pow_le_pow_right (by omega) (by omega)))] at this
      cases this)
theorem bk_V {gs : ps_G} {t : pt_T} {la li si nd mk cl : Nat} {fb : Nat → pt_T} {sb : pf_sT} {hb : Nat → Int} (hP : pf_PR gs t la li si nd fb sb mk) (hH : bk_H gs t la li si fb hb) (hC : bk_C gs la fb t cl) : pn_V (bk_G mk cl sb hb si gs) (bk_T mk cl sb hb si gs t) (bk_la mk gs la) (bk_li cl hb li) (bk_si cl sb si) (bk_nd mk cl gs t) ∧ (∃ r, pv_P r (bk_G mk cl sb hb si gs) (bk_T mk cl sb hb si gs t)) ∧ pw_pr pw_al pw_al (bk_G mk cl sb hb si gs) (bk_T mk cl sb hb si gs t) = pw_pr (bk_M mk) (bk_M cl) gs t ∧ (bk_G mk cl sb hb si gs).length = pc_rk (bk_M mk) gs.length := by
  obtain ⟨h1, h2, h3⟩ := bk_ok hP hH hC
  obtain ⟨hV, _⟩ := hP
  obtain ⟨r, ho, hr, hPM⟩ := hH
  exact ⟨(pc_V hV h1 h2).1, pc_ty_P hV h1 h2 hr, pw_back_pr hV, (pc_V hV h1 h2).2⟩
/-- MADE and CALLED, as the reference has them -/
theorem pm_masks {gs : ps_G} {t : pt_T} {la li si nd mk : Nat} {fb : Nat → pt_T} {sb : pf_sT} {w : fa_W} (hN : pm_AN gs t la li si nd fb sb mk w) : ∃ cl, bk_C gs la fb t cl ∧ w 181 52 = (mk : Int) ∧ w 181 53 = (cl : Int) := by
  obtain ⟨_, _, _, _, _, ⟨z, z1, ⟨ok, _, ⟨fo, m1, m2, m3, m4, m5⟩, _⟩, z3⟩, _⟩ := hN
  refine ⟨z.2.2.1, ⟨ok.2.2.1, fun f => ?_⟩, by rw [← z1]; exact m4, m3⟩
  have : pf_zL z f = pf_lL fb t f := by rw [z3.2.2.1]
  rw [← this]
  exact Iff.rfl
theorem px_masks {sc : Nat} {gs : ps_G} {t : pt_T} {la li si nd mk : Nat} {ins os : List Nat} {fb : Nat → pt_T} {sb : pf_sT} {w : fa_W} (hX : px_SC sc gs t la li si nd ins os fb sb mk w) : ∃ cl, bk_C gs la fb t cl ∧ w (sc + 45) 5 = (mk : Int) ∧ w (sc + 45) 6 = (cl : Int) := by
  obtain ⟨z, tb, cal, rg, z1, ⟨_, _, _, x6, x5, _⟩, ok, lz, _⟩ := hX.2.2.1
  refine ⟨z.2.2.1, ⟨ok.2.2.1, fun f => ?_⟩, by rw [← z1]; exact x5, x6⟩
  have : pf_zL z f = pf_lL fb t f := by rw [lz.2.1]
  rw [← this]
  exact Iff.rfl
theorem bk_C_one {gs : ps_G} {la : Nat} {fb : Nat → pt_T} {t : pt_T} {cl cl' : Nat} (h : bk_C gs la fb t cl) (h' : bk_C gs la fb t cl') : cl = cl' := Nat.eq_of_testBit_eq fun f => by
  have a := h.2 f
  have b := h'.2 f
  cases x : cl.testBit f <;> cases y : cl'.testBit f
  · rfl
  · rw [x] at a; rw [y] at b; exact absurd (a.mpr (b.mp rfl)) (by decide)
  · rw [x] at a; rw [y] at b; exact absurd (b.mpr (a.mp rfl)) (by decide)
  · rfl
/-- BACK is written by the reference -/
theorem pm_writesBack {gs : ps_G} {t : pt_T} {la li si nd mk cl : Nat} {fb : Nat → pt_T} {sb : pf_sT} {w : fa_W} (hV : pn_V gs t la li si nd) (hG : pf_G gs t la li si fb sb) (hN : pm_AN gs t la li si nd fb sb mk w) (hmk : mk < 2 ^ (gs.length + la)) (hC : bk_C gs la fb t cl) : ∃ w', fm_Mod_writesBack w = some w' ∧ pm_O (pw_pr (bk_M mk) (bk_M cl) gs t) w' ∧ pm_wo w w' := by
  have v1 := hV.1
  have v2 := hV.2.1
  have p24 : 2 ^ (gs.length + la) ≤ 2 ^ 24 := Nat.pow_le_pow_right (by omega) (by omega)
  obtain ⟨cl', hC', m1, m2⟩ := pm_masks hN
  have e := bk_C_one hC' hC
  subst e
  have cc := hC.1
  obtain ⟨w', q1, q2, q3⟩ := pm_writesProgram (how := 1) (M := bk_M mk) (C := bk_M cl') (by omega) hV hG hN.1 (fun g hg w1 => by rw [if_pos rfl, m1]; exact pf_hd (by omega) (by omega) w1) (fun f hf w1 => by rw [if_pos rfl, m2]; exact pf_hd (by omega) (by omega) w1)
  refine ⟨w', ?_, q2, q3⟩
  unfold fm_Mod_writesBack
  have q1' : fm_Mod_writesProgram 1 w = some w' := q1
  rw [q1']
  rfl
