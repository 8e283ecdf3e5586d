/-! show and BACK: the reference -/
theorem pm_L_in {gs : ps_G} {t : pt_T} {w : fa_W} : ∀ (os : List Nat) (a : Nat), pm_L gs t os a w → ∀ g ∈ os, ∃ c, c + pt_sz (pn_tr gs t g) ≤ a + pn_os gs t os ∧ pm_H (pn_tr gs t g) (pn_ow gs.length g) c w ∧ (g < gs.length → w 189 g = ((c + pt_sz (pn_tr gs t g) - 1 : Nat) : Int)) := by
  intro os
  induction os with
  | nil => intro a _ g hg; cases hg
  | cons x r ih =>
    intro a h g hg
    obtain ⟨h1, h2, h3⟩ := h
    have e : pn_os gs t (x :: r) = pt_sz (pn_tr gs t x) + pn_os gs t r := rfl
    rcases List.mem_cons.mp hg with z | z
    · subst z
      exact ⟨a, by omega, h1, h2⟩
    · obtain ⟨c, c1, c2, c3⟩ := ih _ h3 g z
      exact ⟨c, by omega, c2, c3⟩
theorem pm_writesProgram {how : Nat} {gs : ps_G} {t : pt_T} {la li si nd : Nat} {fb : Nat → pt_T} {sb : pf_sT} {M C : Nat → Bool} {w : fa_W} (hh : how ≤ 1) (hV : pn_V gs t la li si nd) (hG : pf_G gs t la li si fb sb) (hW : pm_Pw gs t la li si nd w) (hM : ∀ g, g < gs.length → ∀ w1, (if how = 1 then fm_Mod_holds (w 181 52) (g : Int) w1 else true) = M g) (hC : ∀ f, f < gs.length + la → ∀ w1, (if how = 1 then fm_Mod_holds (w 181 53) (f : Int) w1 else true) = C f) : ∃ w', fm_Mod_writesProgram (how : Int) w = some w' ∧ pm_O (pw_pr M C gs t) w' ∧ pm_wo w w' := by
  obtain ⟨x0, x1, x2, x3, x9, x10, x11, x12, x14, x15, x16, x17, x18, x19, x20⟩ := pw_txe
  obtain ⟨k0, k10, _⟩ := pk_kws
  have v1 := hV.1
  have v2 := hV.2.1
  have v3 := hV.2.2.1
  have v5 := hV.2.2.2.2.1
  obtain ⟨_, _, _, _, _, v6, v7, kk1, v8, v9⟩ := id hV
  obtain ⟨K, K', it, _⟩ := pn_items gs [] _ _ _ v8 v6 v7 v9
  have el : ([] : List Nat).length = 0 := rfl
  have len := pw_pr_len M C hV
  obtain ⟨p16, p17, p18, p19, p20, p21, p35, pGH, b, b1, b2⟩ := id hW
  have szt := pt_sz_pos t
  obtain ⟨L1, L2, L3⟩ := pm_Pw_L hV hW
  have ehow : fa_wr (how : Int) = (how : Int) := pb_wr (by omega)
  have WP : pm_wP how (gs.length + la) (24 + li) si gs.length false pw_0 pw_0 C w := ⟨⟨by omega, ⟨(fun z => by cases z), (fun z => by omega)⟩⟩, by omega, by omega, v1, fun f hf w1 _ => hC f hf w1, (fun z => by cases z)⟩
  have o0 : pm_wo w (fa_st w 181 70 0) := fun i j _ q => fa_st_ne q
  have key : ∀ (d g F : Nat), g + d = gs.length → d < F → pm_ws w (fun w1 => fm_Mod_writesProgram_l7 (how : Int) F (g : Int) w1) (pw_g M C (gs.drop g) g ++ pw_e C t) := by
    intro d
    induction d with
    | zero =>
      intro g F hg hF
      obtain ⟨F, rfl⟩ : ∃ G, F = G + 1 := ⟨F - 1, by omega⟩
      have hgl : g = gs.length := by omega
      subst hgl
      rw [List.drop_length]
      refine pm_ws_eq (g := fun w1 => (fm_writes_t 900 0 ((b + pt_sz t - 1 : Nat) : Int) (how : Int) 0 w1).bind fun w4 => some w4) (fun w1 o => ?_) (pm_ws_last (pm_we WP t v6 (-1) b 900 _ [] (by omega) b2 (by omega) hG.2.2.2.1.2.2.1 v7 (by unfold pk_gn; rw [List.length_map]; exact Nat.le_refl _)))
      conv => lhs; unfold fm_Mod_writesProgram_l7
      rw [o 181 17 (by omega) (by omega), p17, pb_wr (by omega), if_pos (by omega), o 181 21 (by omega) (by omega), p21, show nd - 1 = b + pt_sz t - 1 by omega]
      rfl
    | succ d ih =>
      intro g F hg hF
      obtain ⟨F, rfl⟩ : ∃ G, F = G + 1 := ⟨F - 1, by omega⟩
      have hlt : g < gs.length := by omega
      obtain ⟨⟨x, v, e⟩, hge⟩ : ∃ e, gs[g]? = some e := ⟨gs[g], List.getElem?_eq_getElem hlt⟩
      have hge' : gs[g] = (x, v, e) := by
        rw [List.getElem?_eq_getElem hlt] at hge
        exact Option.some.inj hge
      obtain ⟨nx, nv, ne⟩ := px_names hV g x v e hge
      obtain ⟨g1, _, g2, _, _⟩ := pm_GH_at gs 0 0 pGH g x v e hge
      rw [Nat.zero_add] at g1 g2
      have hdr : pw_g M C (gs.drop g) g = (if M g = true then pw_tx 0 ++ (pw_nm x ++ (pw_tx 1 ++ (pw_nm v ++ (pw_tx 2 ++ ((if C g = true then pw_e C e else pw_tx 10) ++ pw_tx 3))))) else []) ++ pw_g M C (gs.drop (g + 1)) (g + 1) := by
        rw [List.drop_eq_getElem_cons hlt, hge']
        rfl
      obtain ⟨c1, _, _, _, gl', sc', c5, c6, _, _⟩ := it g (by omega)
      rw [← ne] at c1 c5
      obtain ⟨c, i1, i2, i3⟩ := pm_L_in _ 0 L1 g (List.mem_range.mpr (by omega))
      have i3' := i3 hlt
      rw [← ne] at i1 i2 i3'
      have iW : pf_W (gs.length + la) (24 + li) si e := by
        have := (hG.2.2.1 g (by omega)).2.1
        rw [hG.1 g hlt, ← ne] at this
        exact this
      have nxt := ih (g + 1) F (by omega) (by omega)
      have step : ∀ w1, pm_wo w w1 → fm_Mod_writesProgram_l7 (how : Int) (F + 1) (g : Int) w1 = if M g = true then fm_Mod_writesProgram_j34 (how : Int) (fun x2 w9 => fm_Mod_writesProgram_l7 (how : Int) F x2 w9) (g : Int) w1 else fm_Mod_writesProgram_l7 (how : Int) F ((g + 1 : Nat) : Int) w1 := fun w1 o => by
        have hm := hM g hlt w1
        conv => lhs; unfold fm_Mod_writesProgram_l7
        rw [o 181 17 (by omega) (by omega), p17, pb_wr (by omega), pb_wr (by omega), if_neg (by omega), ehow, o 181 52 (by omega) (by omega)]
        by_cases z : how = 1
        · rw [if_pos z] at hm
          rw [if_pos (by omega), hm]
          rfl
        · rw [if_neg z] at hm
          rw [if_neg (by omega), if_pos hm.symm]
      rw [hdr]
      by_cases zM : M g = true
      · rw [if_pos zM, x0, x1, x2, x3]
        simp only [List.append_assoc]
        refine pm_ws_eq (fun w1 o => by rw [step w1 o, if_pos zM]) (g := fun w1 => fm_Mod_writesProgram_j34 (how : Int) (fun x2 w9 => fm_Mod_writesProgram_l7 (how : Int) F x2 w9) (g : Int) w1) ?_
        unfold fm_Mod_writesProgram_j34
        refine pm_ws_bind (pm_ws_word 6714734 k0 (by omega) (by decide)) (pm_ws_bind (pm_ws_say 32 (by omega) rfl) ?_)
        refine pm_ws_eq (g := fun w9 => (fm_Mod_saysWord 900 ((pm_cv x : Nat) : Int) w9).bind fun w12 => (fm_Mod_says 32 w12).bind fun w14 => (fun w14 => (fm_Mod_saysWord 900 (w14 192 g) w14).bind fun w17 => (fm_Mod_says 61 w17).bind fun w19 => (fm_Mod_writesBody 900 (g : Int) (how : Int) w19).bind fun w21 => (fm_Mod_says 59 w21).bind fun w23 => fm_Mod_writesProgram_l7 (how : Int) F ((g + 1 : Nat) : Int) w23) w14) (fun w1 o => ?_) ?_
        · rw [pb_ix (show g < 6 by omega) (by omega), Option.bind_some, o 190 g (by omega) (by omega), g1, pb_ix (show g < 124 by omega) (by omega)]
          rfl
        · refine pm_ws_bind (pm_ws_word x nx.1 nx.2.1 rfl) (pm_ws_bind (pm_ws_say 32 (by omega) rfl) ?_)
          refine pm_ws_bindE (f := fun w14 => fm_Mod_saysWord 900 ((pm_cv v : Nat) : Int) w14) (fun w1 o => by rw [o 192 g (by omega) (by omega), g2]) (pm_ws_word v nv.1 nv.2.1 rfl) (pm_ws_bind (pm_ws_say 61 (by omega) rfl) (pm_ws_bind ?_ (pm_ws_bind (pm_ws_say 59 (by omega) rfl) nxt)))
          have hc := hC g (by omega)
          have bodyE : ∀ w1, pm_wo w w1 → fm_Mod_writesBody 900 (g : Int) (how : Int) w1 = if C g = true then (fm_writes_t 899 0 ((c + pt_sz e - 1 : Nat) : Int) (how : Int) 0 w1).bind fun w1 => some w1 else (fm_Mod_saysWord 900 82408 w1).bind fun w1 => some w1 := fun w1 o => by
            have hc1 := hc w1
            refine (pm_wt2 899 (g : Int) (how : Int) w1).trans ?_
            unfold fm_Mod_writesBody_b fm_Mod_writesBody_j26
            rw [ehow, pb_ix (show g < 24 by omega) (by omega), Option.bind_some, o 189 g (by omega) (by omega), i3', o 181 53 (by omega) (by omega)]
            by_cases h1 : how = 1
            · rw [if_pos h1] at hc1
              rw [if_pos (by omega), hc1]
            · rw [if_neg h1] at hc1
              rw [if_neg (by omega), if_pos hc1.symm]
          by_cases zc : C g = true
          · rw [if_pos zc]
            exact pm_ws_eq (g := fun w1 => (fm_writes_t 899 0 ((c + pt_sz e - 1 : Nat) : Int) (how : Int) 0 w1).bind fun w1 => some w1) (fun w1 o => by rw [bodyE w1 o, if_pos zc]) (pm_ws_last (pm_we WP e c1 _ c 899 gl' sc' (by rw [L3] at i1; omega) i2 (by rw [L3] at i1; omega) iW c5 (by rw [el] at c6; omega)))
          · rw [if_neg zc, x10]
            exact pm_ws_eq (g := fun w1 => (fm_Mod_saysWord 900 82408 w1).bind fun w1 => some w1) (fun w1 o => by rw [bodyE w1 o, if_neg zc]) (pm_ws_last (pm_ws_word 1684365668 k10 (by omega) (by decide)))
      · rw [if_neg zM, List.nil_append]
        exact pm_ws_eq (fun w1 o => by rw [step w1 o, if_neg zM]) nxt
  obtain ⟨w', q1, q2, q3⟩ := key gs.length 0 fa_FU (by omega) (by unfold fa_FU; omega) [] (fa_st w 181 70 0) o0 ⟨fa_st_eq _ _ _ _, fun i x q => by cases q⟩ (by rw [List.drop_zero, List.length_append, List.length_nil]; omega)
  rw [List.drop_zero, List.nil_append] at q2
  exact ⟨w', q1, q2, q3⟩
