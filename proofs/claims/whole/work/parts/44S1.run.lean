/-! THE START: the reference -/
/-- its constructor, up to the first reading -/
theorem ls_mod0 (w : fa_W) : ∃ w', fm_new_Mod_181 w = (fa_bd (fm_Mod_readsAll true w') fun _ w67 => (fm_Mod_keeps w67).bind fun w70 => some w70) ∧ w' 181 25 = 4 ∧ w' 181 69 = -1 ∧ (w' 196 0 = 100 ∧ w' 196 1 = 101 ∧ w' 196 2 = 97 ∧ w' 196 3 = 100) ∧ w' 181 2 = w 181 2 ∧ ∀ i j, i ≤ 180 → w' i j = w i j := by
  unfold fm_new_Mod_181
  repeat rw [pf_let_eq]
  rw [show fa_ix 0 40000 = some 0 from by decide +kernel, Option.bind_some]
  repeat rw [pf_let_eq]
  rw [show fa_ix 1 40000 = some 1 from by decide +kernel, Option.bind_some]
  repeat rw [pf_let_eq]
  rw [show fa_ix 2 40000 = some 2 from by decide +kernel, Option.bind_some]
  repeat rw [pf_let_eq]
  rw [show fa_ix 3 40000 = some 3 from by decide +kernel, Option.bind_some]
  repeat rw [pf_let_eq]
  rw [show fa_i2b 100 = 100 from by decide +kernel, show fa_i2b 101 = 101 from by decide +kernel, show fa_i2b 97 = 97 from by decide +kernel]
  refine ⟨_, rfl, ?_, ?_, ⟨?_, ?_, ?_, ?_⟩, ?_, fun i j h => ?_⟩
  · rw [fa_st_eq]
  · repeat (first | rw [fa_st_eq] | rw [fa_st_ne (by omega)] | rw [ls_nw (by omega)])
  · repeat (first | rw [fa_st_eq] | rw [fa_st_ne (by omega)])
  · repeat (first | rw [fa_st_eq] | rw [fa_st_ne (by omega)])
  · repeat (first | rw [fa_st_eq] | rw [fa_st_ne (by omega)])
  · repeat (first | rw [fa_st_eq] | rw [fa_st_ne (by omega)])
  · repeat (first | rw [fa_st_ne (by omega)] | rw [ls_nw (by omega)])
  · repeat (first | rw [fa_st_ne (by omega)] | rw [ls_nw (by omega)])
theorem ls_tx : pw_pr pw_al pw_al [] (pt_dead 0) = [100, 101, 97, 100] := by decide +kernel
def ls_c (k : Nat) : Int := if k = 0 then 100 else if k = 1 then 101 else if k = 2 then 97 else if k = 3 then 100 else -1
theorem ls_c_ge {k : Nat} (h : 4 ≤ k) : ls_c k = -1 := by
  unfold ls_c
  rw [if_neg (by omega), if_neg (by omega), if_neg (by omega), if_neg (by omega)]
theorem ls_c_TX : ps_TX ls_c 4 := ⟨fun k h => ls_c_ge h, fun k h => by
  have : k = 0 ∨ k = 1 ∨ k = 2 ∨ k = 3 := by omega
  rcases this with rfl | rfl | rfl | rfl <;> decide⟩
theorem ls_ws : pr_ws ls_c 0 [100, 101, 97, 100] := fun j x h => by
  rcases j with _ | _ | _ | _ | j
  · have e : some 100 = some x := h
    injection e with e
    subst e; rfl
  · have e : some 101 = some x := h
    injection e with e
    subst e; rfl
  · have e : some 97 = some x := h
    injection e with e
    subst e; rfl
  · have e : some 100 = some x := h
    injection e with e
    subst e; rfl
  · have e : none = some x := h
    cases e
theorem ls_sb : ∀ k, k < 4 → pm_sb (ls_c k) = ls_c k := fun k h => by
  have : k = 0 ∨ k = 1 ∨ k = 2 ∨ k = 3 := by omega
  rcases this with rfl | rfl | rfl | rfl <;> decide
/-- its constructor -/
theorem ls_mod {fb : Nat → pt_T} {sb : pf_sT} (w : fa_W) (hG : pf_G [] (pt_dead 0) 0 0 0 fb sb) : ∃ w' mk, fm_new_Mod_181 w = some w' ∧ (mk < 2 ^ (([] : ps_G).length + 0) ∧ ∀ f, mk.testBit f = true ↔ pf_M fb (pt_dead 0) f) ∧ pm_IM [] (pt_dead 0) 0 0 0 1 fb sb mk w' ∧ pm_KT [] (pt_dead 0) 0 0 0 1 w' ∧ w' 181 70 = 0 ∧ w' 181 2 = w 181 2 ∧ w' 181 69 = -1 ∧ ∀ i j, i ≤ 180 → w' i j = w i j := by
  obtain ⟨w1, e, h25, h69, ⟨t0, t1, t2, t3⟩, h2, hf⟩ := ls_mod0 w
  have h196 : ∀ k, k < 4 → w1 196 k = pm_sb (ls_c k) := fun k h => by
    rw [ls_sb k h]
    have : k = 0 ∨ k = 1 ∨ k = 2 ∨ k = 3 := by omega
    rcases this with rfl | rfl | rfl | rfl
    · exact t0
    · exact t1
    · exact t2
    · exact t3
  have ht : pm_tx ls_c 4 (fa_st w1 181 31 (fa_bi true)) := ⟨ls_c_TX, by omega, by rw [fa_st_ne (by omega)]; exact h25, fun k h => by rw [fa_st_ne (by omega)]; exact h196 k h⟩
  obtain ⟨w2, mk, b1, b2, b3, b4, G, T, s, s1, s2, s3, s4, s5, s6, s7, s8⟩ := pm_reread ht (by rw [ls_tx]; exact ls_ws) (by rw [ls_tx]; rfl) ls_V hG ls_P
  obtain ⟨w3, q1, q2, q3, q4, q5⟩ := pm_keeps (c := ls_c) (n := 4) (w := w2) ls_c_TX (by omega) (by rw [b4.2 25 (by omega)]; exact h25) (fun k h => by rw [b4.1 196 k (by omega)]; exact h196 k h)
  rw [b1, pf_bd_eq, q1, Option.bind_some] at e
  refine ⟨w3, mk, e, b2, ⟨pm_AN_ob ls_V hG (fun i j p => q5 i j (by omega) (by omega)) (fun j p q => q5 181 j (by omega) (by omega)) b3.1, pm_CD_ob hG.2.1 hG.2.2.2.1.1 (fun i j p q => q5 i j (by omega) (by omega)) b3.2⟩, ⟨ls_c, 4, G, T, s, ls_c_TX, by omega, q2, q3, s1, s2, s3, s4, s5, s6, s7, s8⟩, q4, ?_, ?_, fun i j h => ?_⟩
  · rw [q5 181 2 (by omega) (by omega), b4.2 2 (by omega)]; exact h2
  · rw [q5 181 69 (by omega) (by omega), b4.2 69 (by omega)]; exact h69
  · rw [q5 i j (by omega) (by omega), b4.1 i j (by omega)]; exact hf i j h
/-- the world in which the law's loop begins -/
theorem ls_start : ∃ w2 w4, fm_new_Face_0 (fa_nw 0 (fun _ _ => 0)) = some w2 ∧ fm_new_Mod_181 (fa_nw 181 w2) = some w4 ∧ lw_I (fa_nw 237 w4) := by
  obtain ⟨fb, sb, hG⟩ := pf_G_ex ls_V
  obtain ⟨w2, mk, e2, S, c6, c7, c8, c1, c3, c45, c44⟩ := ls_face (fa_nw 0 (fun _ _ => 0)) hG
  obtain ⟨w4, mk', e4, hmk, IM, KT, h70, h2, h69, f⟩ := ls_mod (fa_nw 181 w2) hG
  have em : mk = mk' := pf_mk_one (gs := []) (la := 0) S.2.2.2.1.2 hmk.2
  subst em
  have z : ∀ i j, i ≠ 237 → fa_nw 237 w4 i j = w4 i j := fun i j h => ls_nw h
  have g : ∀ i j, i ≤ 180 → fa_nw 237 w4 i j = w2 i j := fun i j h => by rw [z i j (by omega), f i j h, ls_nw (by omega)]
  refine ⟨w2, w4, e2, e4, [], pt_dead 0, 0, 0, 0, 1, fb, sb, mk, [], [], -1, ⟨ls_V, hG, ls_P, hmk⟩, ⟨Nat.zero_le _, Nat.zero_le _, fun x h => (by cases h), by omega, by omega⟩, ⟨⟨[], [0], ?_⟩, ?_, ⟨?_, fun i x e => (by cases e)⟩, ⟨?_, fun i x e => (by cases e)⟩, ?_, ?_⟩, lw_IM_ob ls_V hG IM (fun i j p q r => z i j (by omega)) (fun j p q => z 181 j (by omega)), pm_KT_ob (fun j => z _ _ (by omega)) (z _ _ (by omega)) KT, ⟨?_, fun i x e => (by cases e)⟩, ⟨?_, fun i x e => (by cases e)⟩, ?_⟩
  · rw [g 0 6 (by omega), c6, show fa_sc 0 = 55 from rfl]
    exact px_SC_ob ls_V (fun i j a b => g i j (by omega)) S
  · rw [g 0 6 (by omega), g 0 7 (by omega), c6, c7]
    decide
  · rw [g 3 1 (by omega), c3]; rfl
  · rw [g 1 1 (by omega), c1]; rfl
  · rw [g 0 8 (by omega), c8]
  · exact ⟨by rw [g 45 1 (by omega), c45], Or.inl (by rw [g 44 5 (by omega), c44])⟩
  · rw [z 181 70 (by omega), h70]; rfl
  · rw [z 181 2 (by omega), h2, ls_nw0]; rfl
  · rw [z 181 69 (by omega), h69]
