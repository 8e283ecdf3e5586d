/-! THE FORM by the reference: DATA -/
theorem pw_txn : pw_tx 4 = [] ∧ pw_tx 5 = [125] ∧ pw_tx 6 = [124] ∧ pw_tx 7 = [97] ∧ pw_tx 8 = [58] ++ [123] ∧ pw_tx 13 = [67] ∧ pw_tx 21 = [97] ++ [110] := by decide +kernel
theorem pd_yq_nm {gs : ps_G} {t : pt_T} {la li si nd : Nat} (hV : pn_V gs t la li si nd) {v y : Nat} (h : pd_yq gs t v y) : pk_nm y := by
  obtain ⟨_, _, _, _, _, v6, v7, kk1, v8, v9⟩ := id hV
  obtain ⟨K, K', it, _⟩ := pn_items gs [] _ _ _ v8 v6 v7 v9
  rcases h with ⟨g, hg, hb⟩ | ⟨x, e, he⟩
  · obtain ⟨b1, _, _, _, gl', sc', b5, _, _, _⟩ := it g hg
    exact pd_bn_nm _ b1 gl' sc' b5 v y hb
  · exact (px_names hV v x y e he).2.1
theorem pm_writesData {gs : ps_G} {t : pt_T} {la li si nd f : Nat} {fb : Nat → pt_T} {sb : pf_sT} {yv : Nat → Nat} {w0 : fa_W} (hV : pn_V gs t la li si nd) (hG : pf_G gs t la li si fb sb) (hW : pm_Pw gs t la li si nd w0) (hF : pm_FL f (pd_fl f (fb f)) w0) (hy : ∀ v ∈ pd_fl f (fb f), pd_yq gs t v (yv v)) (hf : f < gs.length + la) : pm_ws w0 (fm_Mod_writesData (f : Int)) (pw_D fb yv f) := by
  have v1 := hV.1
  have v2 := hV.2.1
  have v5 := hV.2.2.2.2.1
  obtain ⟨_, _, _, _, x9, x10, _, x12, x14, x15, _⟩ := pw_txe
  obtain ⟨x4, _, _, _, _, x13, _⟩ := pw_txn
  obtain ⟨p16, p17, p18, p19, p20, p21, p35, pGH, b, b1, b2⟩ := id hW
  have len := pd_fl_len hG v5 hf
  obtain ⟨fl, hfl⟩ : ∃ fl, fl = pd_fl f (fb f) := ⟨_, rfl⟩
  have hv : ∀ v ∈ fl, v < 124 := fun v q => by
    rw [hfl] at q
    have := pd_oc_W (fb f) (hG.2.1 f) (hG.2.2.1 f hf).2.1 v (pd_fl_oc q)
    omega
  have noF : f < gs.length → fl = [] := fun h => by rw [hfl]; exact pw_noF hV hG h
  show pm_ws w0 _ (pw_fd yv f (pd_fl f (fb f)))
  rw [← hfl] at hF hy len ⊢
  have loop : ∀ (d k F : Nat), k + d = fl.length → d < F → pm_ws w0 (fun w => fm_Mod_writesData_l19 (f : Int) F (k : Int) w) (pw_jn (decide (k = 0)) ((fl.drop k).map yv) ++ [41]) := by
    intro d
    induction d with
    | zero =>
      intro k F hk hF2
      obtain ⟨F, rfl⟩ : ∃ n, F = n + 1 := ⟨F - 1, by omega⟩
      have e : fl.drop k = [] := List.drop_of_length_le (by omega)
      rw [e]
      show pm_ws w0 _ (pw_jn (decide (k = 0)) [] ++ [41])
      have ej : pw_jn (decide (k = 0)) [] = [] := by cases decide (k = 0) <;> rfl
      rw [ej, List.nil_append]
      refine pm_ws_eq (g := fun w => (fm_Mod_says 41 w).bind fun w => some w) (fun w o => ?_) (pm_ws_last (pm_ws_say 41 (by omega) rfl))
      conv => lhs; unfold fm_Mod_writesData_l19
      rw [pb_ix (show f < 24 by omega) (by omega), Option.bind_some, o 214 f (by omega) (by omega), hF.1, pb_wr (by omega), pb_wr (by omega), if_pos (by omega)]
      rfl
    | succ d ih =>
      intro k F hk hF2
      obtain ⟨F, rfl⟩ : ∃ n, F = n + 1 := ⟨F - 1, by omega⟩
      have hkl : k < fl.length := by omega
      obtain ⟨x, hxx⟩ : ∃ x, fl[k]? = some x := ⟨_, List.getElem?_eq_getElem hkl⟩
      have e : fl.drop k = x :: fl.drop (k + 1) := by
        rw [List.drop_eq_getElem_cons hkl]
        congr 1
        have := List.getElem?_eq_getElem hkl
        rw [hxx] at this
        exact (Option.some.inj this).symm
      have xm : x ∈ fl := List.mem_of_getElem? hxx
      have x124 := hv x xm
      have fG : ¬ f < gs.length := fun h => by rw [noF h] at hkl; exact absurd hkl (by simp)
      have nx := pd_yq_nm hV (hy x xm)
      have e1 : decide (k + 1 = 0) = false := by rw [decide_eq_false (by omega)]
      have nxt := ih (k + 1) F (by omega) (by omega)
      rw [e1] at nxt
      rw [e, List.map_cons, pw_jn_c]
      have j47 : pm_ws w0 (fun w => fm_Mod_writesData_j47 (f : Int) (fun x2 w9 => fm_Mod_writesData_l19 (f : Int) F x2 w9) (k : Int) w) (pw_nm (yv x) ++ (pw_jn false ((fl.drop (k + 1)).map yv) ++ [41])) := by
        refine pm_ws_eq (g := fun w => (fm_Mod_saysWord 900 ((pm_cv (yv x) : Nat) : Int) w).bind fun w16 => fm_Mod_writesData_l19 (f : Int) F ((k + 1 : Nat) : Int) w16) (fun w o => ?_) (pm_ws_bind (pm_ws_word (yv x) nx.1 nx.2.1 rfl) nxt)
        unfold fm_Mod_writesData_j47
        rw [show (124 : Int) * (f : Int) + (k : Int) = ((124 * f + k : Nat) : Int) by omega, pb_ix (k := 124 * f + k) (show 124 * f + k < 2976 by omega) (by omega), Option.bind_some, o 213 _ (by omega) (by omega), hF.2 k x hxx, pb_ix x124 (by omega), Option.bind_some, o 192 x (by omega) (by omega), pm_yq hV hW (hy x xm)]
        rfl
      have step : ∀ w, pm_wo w0 w → fm_Mod_writesData_l19 (f : Int) (F + 1) (k : Int) w = if k = 0 then fm_Mod_writesData_j47 (f : Int) (fun x2 w9 => fm_Mod_writesData_l19 (f : Int) F x2 w9) (k : Int) w else (fm_Mod_says 44 w).bind fun w19 => fm_Mod_writesData_j47 (f : Int) (fun x2 w9 => fm_Mod_writesData_l19 (f : Int) F x2 w9) (k : Int) w19 := fun w o => by
        conv => lhs; unfold fm_Mod_writesData_l19
        rw [pb_ix (show f < 24 by omega) (by omega), Option.bind_some, o 214 f (by omega) (by omega), hF.1, pb_wr (by omega), pb_wr (by omega), if_neg (by omega), o 181 17 (by omega) (by omega), p17, pb_wr (by omega), pb_wr (by omega), if_neg (by omega)]
        by_cases z : k = 0
        · rw [if_pos z, if_pos (by omega)]
        · rw [if_neg z, if_neg (by omega)]
      by_cases z : k = 0
      · rw [if_pos (decide_eq_true z), x4, List.nil_append, List.append_assoc]
        exact pm_ws_eq (fun w o => by rw [step w o, if_pos z]) j47
      · rw [if_neg (by rw [decide_eq_false z]; decide), x15, List.append_assoc, List.append_assoc]
        exact pm_ws_eq (g := fun w => (fm_Mod_says 44 w).bind fun w19 => fm_Mod_writesData_j47 (f : Int) (fun x2 w9 => fm_Mod_writesData_l19 (f : Int) F x2 w9) (k : Int) w19) (fun w o => by rw [step w o, if_neg z]) (pm_ws_bind (pm_ws_say 44 (by omega) rfl) j47)
  have L := loop fl.length 0 fa_FU (by omega) (by unfold fa_FU; omega)
  rw [List.drop_zero, show decide ((0 : Nat) = 0) = true from rfl] at L
  unfold pw_fd
  rw [x13, x14, x12]
  refine pm_ws_eq (g := fun w => (fm_Mod_says 67 w).bind fun w2 => (fm_Mod_saysNumber 900 (f : Int) w2).bind fun w4 => (fm_Mod_says 40 w4).bind fun w6 => fm_Mod_writesData_l19 (f : Int) fa_FU 0 w6) (fun w o => rfl) ?_
  exact pm_ws_bind (pm_ws_say 67 (by omega) rfl) (pm_ws_bind (pm_ws_num f (by omega) rfl) (pm_ws_bind (pm_ws_say 40 (by omega) rfl) L))
