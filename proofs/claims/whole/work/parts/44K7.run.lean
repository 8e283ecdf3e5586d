/-! the reference writes an EXPR -/
def pm_ws (w0 : fa_W) (f : fa_W → Option fa_W) (bs : List Nat) : Prop := ∀ (l : List Nat) (w : fa_W), pm_wo w0 w → pm_O l w → l.length + bs.length ≤ 39990 → ∃ w', f w = some w' ∧ pm_O (l ++ bs) w' ∧ pm_wo w0 w'
theorem pm_ws_bind {w0 : fa_W} {f g : fa_W → Option fa_W} {a b : List Nat} (hf : pm_ws w0 f a) (hg : pm_ws w0 g b) : pm_ws w0 (fun w => (f w).bind fun w1 => g w1) (a ++ b) := fun l w o hO hl => by
  rw [List.length_append] at hl
  obtain ⟨w1, p1, p2, p3⟩ := hf l w o hO (by omega)
  obtain ⟨w2, q1, q2, q3⟩ := hg (l ++ a) w1 p3 p2 (by rw [List.length_append]; omega)
  refine ⟨w2, ?_, by rw [← List.append_assoc]; exact q2, q3⟩
  show (f w).bind _ = _
  rw [p1, Option.bind_some]
  exact q1
theorem pm_ws_last {w0 : fa_W} {f : fa_W → Option fa_W} {a : List Nat} (hf : pm_ws w0 f a) : pm_ws w0 (fun w => (f w).bind fun w1 => some w1) a := fun l w o hO hl => by
  obtain ⟨w1, p1, p2, p3⟩ := hf l w o hO hl
  exact ⟨w1, by show (f w).bind _ = _; rw [p1]; rfl, p2, p3⟩
theorem pm_ws_eq {w0 : fa_W} {f g : fa_W → Option fa_W} {a : List Nat} (e : ∀ w, pm_wo w0 w → f w = g w) (hg : pm_ws w0 g a) : pm_ws w0 f a := fun l w o hO hl => by
  obtain ⟨w1, p1, p2, p3⟩ := hg l w o hO hl
  exact ⟨w1, (e w o).trans p1, p2, p3⟩
theorem pm_ws_bindE {w0 : fa_W} {F f g : fa_W → Option fa_W} {a b : List Nat} (e : ∀ w, pm_wo w0 w → F w = f w) (hf : pm_ws w0 f a) (hg : pm_ws w0 g b) : pm_ws w0 (fun w => (F w).bind fun w1 => g w1) (a ++ b) := pm_ws_bind (pm_ws_eq e hf) hg
theorem pm_ws_say {w0 : fa_W} {x : Int} (b : Nat) (hb : b < 128) (hx : x = (b : Int)) : pm_ws w0 (fm_Mod_says x) [b] := fun l w o hO hl => by
  obtain ⟨w1, p1, p2, p3⟩ := pm_say hO (by rw [List.length_singleton] at hl; omega) hb hx
  exact ⟨w1, p1, p2, pm_wo_tr o p3⟩
theorem pm_ws_word {w0 : fa_W} (v : Nat) (h : pk_vw 4 v) (hn : v ≠ 0) {x : Int} (hx : x = ((pm_cv v : Nat) : Int)) : pm_ws w0 (fm_Mod_saysWord 900 x) (pw_nm v) := fun l w o hO hl => by
  obtain ⟨w1, p1, p2, p3⟩ := pm_sayWord h hn hO (by omega) hx
  exact ⟨w1, p1, p2, pm_wo_tr o p3⟩
theorem pm_ws_num {w0 : fa_W} (v : Nat) (h : v ≤ 9999) {x : Int} (hx : x = (v : Int)) : pm_ws w0 (fm_Mod_saysNumber 900 x) (pw_nu v) := fun l w o hO hl => by
  obtain ⟨w1, p1, p2, p3⟩ := pm_sayNum h hO (by omega) hx
  exact ⟨w1, p1, p2, pm_wo_tr o p3⟩
theorem pw_txe : pw_tx 0 = pw_nm 6714734 ++ [32] ∧ pw_tx 1 = [32] ∧ pw_tx 2 = [61] ∧ pw_tx 3 = [59] ∧ pw_tx 9 = [46] ∧ pw_tx 10 = pw_nm 1684365668 ∧ pw_tx 11 = [40] ++ [92] ∧ pw_tx 12 = [41] ∧ pw_tx 14 = [40] ∧ pw_tx 15 = [44] ∧ pw_tx 16 = [40] ++ (pw_nm 26982 ++ [32]) ∧ pw_tx 17 = [32] ++ (pw_nm 1952998766 ++ [32]) ∧ pw_tx 18 = [32] ++ (pw_nm 1701606245 ++ [32]) ∧ pw_tx 19 = [40] ++ (pw_nm 7103860 ++ [32]) ∧ pw_tx 20 = [32] ++ (pw_nm 26990 ++ [32]) := by decide +kernel
theorem pk_vw_s {f v : Nat} (h1 : 97 ≤ v % 256) (h2 : v % 256 ≤ 122) (h3 : pk_vw f (v / 256)) : pk_vw (f + 1) v := Or.inr ⟨h1, h2, h3⟩
theorem pk_vw_0 (f : Nat) : pk_vw f 0 := by cases f with | zero => rfl | succ f => exact Or.inl rfl
theorem pk_kws : pk_vw 4 6714734 ∧ pk_vw 4 1684365668 ∧ pk_vw 4 26982 ∧ pk_vw 4 1952998766 ∧ pk_vw 4 1701606245 ∧ pk_vw 4 7103860 ∧ pk_vw 4 26990 := by
  refine ⟨?_, ?_, ?_, ?_, ?_, ?_, ?_⟩
  · exact pk_vw_s (by decide) (by decide) (pk_vw_s (by decide) (by decide) (pk_vw_s (by decide) (by decide) (pk_vw_0 1)))
  · exact pk_vw_s (by decide) (by decide) (pk_vw_s (by decide) (by decide) (pk_vw_s (by decide) (by decide) (pk_vw_s (by decide) (by decide) (pk_vw_0 0))))
  · exact pk_vw_s (by decide) (by decide) (pk_vw_s (by decide) (by decide) (pk_vw_0 2))
  · exact pk_vw_s (by decide) (by decide) (pk_vw_s (by decide) (by decide) (pk_vw_s (by decide) (by decide) (pk_vw_s (by decide) (by decide) (pk_vw_0 0))))
  · exact pk_vw_s (by decide) (by decide) (pk_vw_s (by decide) (by decide) (pk_vw_s (by decide) (by decide) (pk_vw_s (by decide) (by decide) (pk_vw_0 0))))
  · exact pk_vw_s (by decide) (by decide) (pk_vw_s (by decide) (by decide) (pk_vw_s (by decide) (by decide) (pk_vw_0 1)))
  · exact pk_vw_s (by decide) (by decide) (pk_vw_s (by decide) (by decide) (pk_vw_0 2))
theorem pm_wt0 (n : Nat) (a1 a2 : Int) (w : fa_W) : fm_writes_t (n + 1) 0 a1 a2 0 w = fm_Mod_writes_b (fun z0 z1 w9 => fm_writes_t n 3 z0 z1 0 w9) (fun z0 z1 w9 => fm_writes_t n 0 z0 z1 0 w9) (fun z0 z1 z2 w9 => fm_writes_t n 1 z0 z1 z2 w9) (fun z0 z1 w9 => fm_writes_t n 4 z0 z1 0 w9) a1 a2 w := rfl
theorem pm_wt1 (n : Nat) (a1 a2 a3 : Int) (w : fa_W) : fm_writes_t (n + 1) 1 a1 a2 a3 w = fm_Mod_writesTwo_b (fun z0 z1 w9 => fm_writes_t n 0 z0 z1 0 w9) a1 a2 a3 w := rfl
theorem pm_wt2 (n : Nat) (a1 a2 : Int) (w : fa_W) : fm_writes_t (n + 1) 2 a1 a2 0 w = fm_Mod_writesBody_b (fun z0 z1 w9 => fm_writes_t n 0 z0 z1 0 w9) a1 a2 w := rfl
theorem pm_wt3 (n : Nat) (a1 a2 : Int) (w : fa_W) : fm_writes_t (n + 1) 3 a1 a2 0 w = fm_Mod_writesLambda_b (fun z0 z1 w9 => fm_writes_t n 2 z0 z1 0 w9) a1 a2 w := rfl
theorem pm_wt4 (n : Nat) (a1 a2 : Int) (w : fa_W) : fm_writes_t (n + 1) 4 a1 a2 0 w = fm_Mod_writesApply_b (fun z0 z1 w9 => fm_writes_t n 0 z0 z1 0 w9) a1 a2 w := rfl
/-- what stands of the program that is written, by the reference -/
def pm_wP (how : Nat) (nf nv ns G : Nat) (fm : Bool) (D A : Nat → List Nat) (C : Nat → Bool) (w0 : fa_W) : Prop := (how ≤ 4 ∧ (fm = true ↔ 2 ≤ how)) ∧ nf ≤ 24 ∧ nv ≤ 124 ∧ G ≤ 6 ∧ (∀ f, f < nf → ∀ w, fm = false → (if how = 1 then fm_Mod_holds (w0 181 53) (f : Int) w else true) = C f) ∧ (fm = true → (∀ f, f < nf → pm_ws w0 (fm_Mod_writesData (f : Int)) (D f)) ∧ ∀ (rc : Int → Int → fa_W → Option fa_W) (s i : Nat), s < ns → w0 188 i = (s : Int) → i < 101 → ∀ (l : List Nat) (w : fa_W), pm_wo w0 w → pm_O l w → l.length + (A s).length ≤ 39990 → ∃ w1, fm_Mod_writesApply_b rc (i : Int) (how : Int) w = fm_Mod_writesApply_j106 (i : Int) (how : Int) rc w1 ∧ pm_O (l ++ A s) w1 ∧ pm_wo w0 w1)
theorem pm_we {how nf nv ns G : Nat} {fm : Bool} {D A : Nat → List Nat} {C : Nat → Bool} {w0 : fa_W} (hX : pm_wP how nf nv ns G fm D A C w0) (t : pt_T) (tt : pt_tw t) : ∀ (hh : Int) (p n : Nat) (gl : List Nat) (sco : List (Nat × Nat)), 3 * pt_sz t ≤ n → pm_H t hh p w0 → p + pt_sz t ≤ 101 → pf_W nf nv ns t → pk_wfs t gl sco → gl.length ≤ G → pm_ws w0 (fm_writes_t n 0 ((p + pt_sz t - 1 : Nat) : Int) (how : Int) 0) (pw_t fm D A C t) := by
  obtain ⟨⟨hh4, hfm⟩, h24, h124, hG6, hC, hDA⟩ := id hX
  obtain ⟨x0, x1, x2, x3, x9, x10, x11, x12, x14, x15, x16, x17, x18, x19, x20⟩ := pw_txe
  obtain ⟨k0, k10, k16, k17, k18, k19, k20⟩ := pk_kws
  have ehow : fa_wr (how : Int) = (how : Int) := pb_wr (by omega)
  have r184 : ∀ {w : fa_W} {i j : Nat}, pm_wo w0 w → i ≠ 197 → i ≠ 181 → w i j = w0 i j := fun {w i j} o a b => o i j a (by omega)
  induction t, tt using pt_indh with
  | num v =>
    intro hh p n gl sco hn H hp hW hwf hgl
    have e2 : pt_sz (pt_num v) = 1 := rfl
    have ei : p + pt_sz (pt_num v) - 1 = p := by omega
    obtain ⟨n, rfl⟩ : ∃ m, n = m + 1 := ⟨n - 1, by omega⟩
    rw [ei]
    refine pm_ws_eq (g := fun w => (fm_Mod_saysNumber 900 (v : Int) w).bind fun w1 => some w1) (fun w o => ?_) (pm_ws_last (pm_ws_num v hwf rfl))
    rw [pm_wt0]
    unfold fm_Mod_writes_b
    rw [pb_ix (show p < 101 by omega) (by omega), Option.bind_some, r184 o (by omega) (by omega), H.1, if_pos (by decide), Option.bind_some, r184 o (by omega) (by omega), H.2]
  | var v x =>
    intro hh p n gl sco hn H hp hW hwf hgl
    have e2 : pt_sz (pt_var v x) = 1 := rfl
    have ei : p + pt_sz (pt_var v x) - 1 = p := by omega
    have hv : v < nv := hW
    obtain ⟨n, rfl⟩ : ∃ m, n = m + 1 := ⟨n - 1, by omega⟩
    rw [ei]
    refine pm_ws_eq (g := fun w => (fm_Mod_saysWord 900 ((pm_cv x : Nat) : Int) w).bind fun w1 => some w1) (fun w o => ?_) (pm_ws_last (pm_ws_word x hwf.2.1 hwf.2.2.1 rfl))
    rw [pm_wt0]
    unfold fm_Mod_writes_b
    rw [pb_ix (show p < 101 by omega) (by omega), Option.bind_some, r184 o (by omega) (by omega), H.1, if_neg (by decide), if_pos (by decide), Option.bind_some, r184 o (by omega) (by omega), H.2.1, pb_ix (show v < 124 by omega) (by omega), Option.bind_some, r184 o (by omega) (by omega), H.2.2]
  | glo g x =>
    intro hh p n gl sco hn H hp hW hwf hgl
    have e2 : pt_sz (pt_glo g x) = 1 := rfl
    have ei : p + pt_sz (pt_glo g x) - 1 = p := by omega
    have gG := ps_gx_mem gl x 0 g hwf.2.1
    obtain ⟨n, rfl⟩ : ∃ m, n = m + 1 := ⟨n - 1, by omega⟩
    rw [ei]
    have br : ∀ w, pm_wo w0 w → fm_writes_t (n + 1) 0 (p : Int) (how : Int) 0 w = if how ≤ 1 then (fm_Mod_saysWord 900 ((pm_cv x : Nat) : Int) w).bind fun w1 => some w1 else (fm_Mod_writesData (g : Int) w).bind fun w1 => some w1 := fun w o => by
      rw [pm_wt0]
      unfold fm_Mod_writes_b
      rw [pb_ix (show p < 101 by omega) (by omega), Option.bind_some, r184 o (by omega) (by omega), H.1, if_neg (by decide), if_neg (by decide), if_pos (by decide), ehow, Option.bind_some, Option.bind_some, r184 o (by omega) (by omega), H.2.1, pb_ix (show g < 6 by omega) (by omega), Option.bind_some, r184 o (by omega) (by omega), H.2.2]
      by_cases z : how ≤ 1
      · rw [if_pos (by omega), if_pos z]
      · rw [if_neg (by omega), if_neg z]
    show pm_ws w0 _ (if fm = true then D g else pw_nm x)
    by_cases z : fm = true
    · rw [if_pos z]
      have z2 := hfm.mp z
      exact pm_ws_eq (g := fun w => (fm_Mod_writesData (g : Int) w).bind fun w1 => some w1) (fun w o => by rw [br w o, if_neg (by omega)]) (pm_ws_last ((hDA z).1 g hW))
    · rw [if_neg z]
      have z2 : ¬ 2 ≤ how := fun q => z (hfm.mpr q)
      exact pm_ws_eq (g := fun w => (fm_Mod_saysWord 900 ((pm_cv x : Nat) : Int) w).bind fun w1 => some w1) (fun w o => by rw [br w o, if_pos (by omega)]) (pm_ws_last (pm_ws_word x hwf.2.2.1 hwf.2.2.2.1 rfl))
  | dead d =>
    intro hh p n gl sco hn H hp hW hwf hgl
    have e2 : pt_sz (pt_dead d) = 1 := rfl
    have ei : p + pt_sz (pt_dead d) - 1 = p := by omega
    obtain ⟨n, rfl⟩ : ∃ m, n = m + 1 := ⟨n - 1, by omega⟩
    rw [ei]
    show pm_ws w0 _ (pw_tx 10)
    rw [x10]
    refine pm_ws_eq (g := fun w => (fm_Mod_saysWord 900 82408 w).bind fun w1 => some w1) (fun w o => ?_) (pm_ws_last (pm_ws_word 1684365668 k10 (by omega) (by decide)))
    rw [pm_wt0]
    unfold fm_Mod_writes_b
    rw [pb_ix (show p < 101 by omega) (by omega), Option.bind_some, r184 o (by omega) (by omega), H.1, if_neg (by decide), if_neg (by decide), if_neg (by decide), if_pos (by decide)]
  | lam f x b tb ih =>
    intro hh p n gl sco hn H hp hW hwf hgl
    obtain ⟨Hb, n1, n2, n3, n4, n5, n6⟩ := H
    have e2 : pt_sz (pt_lam f x b) = pt_sz b + 1 := rfl
    have pb := pt_sz_pos b
    have ei : p + pt_sz (pt_lam f x b) - 1 = p + pt_sz b := by omega
    rw [e2] at hn hp
    have ff : f < nf := hW.1
    obtain ⟨n, rfl⟩ : ∃ m, n = m + 1 + 1 + 1 := ⟨n - 3, by omega⟩
    rw [ei]
    have br : ∀ w, pm_wo w0 w → fm_writes_t (n + 1 + 1 + 1) 0 ((p + pt_sz b : Nat) : Int) (how : Int) 0 w = if how ≤ 1 then (fm_writes_t (n + 1 + 1) 3 (f : Int) (how : Int) 0 w).bind fun w1 => some w1 else (fm_Mod_writesData (f : Int) w).bind fun w1 => some w1 := fun w o => by
      rw [pm_wt0]
      unfold fm_Mod_writes_b
      rw [pb_ix (show p + pt_sz b < 101 by omega) (by omega), Option.bind_some, r184 o (by omega) (by omega), n1, if_neg (by decide), if_neg (by decide), if_neg (by decide), if_neg (by decide), if_pos (by decide), ehow, Option.bind_some, Option.bind_some, r184 o (by omega) (by omega), n2]
      by_cases z : how ≤ 1
      · rw [if_pos (by omega), if_pos z]
      · rw [if_neg (by omega), if_neg z]
    show pm_ws w0 _ (if fm = true then D f else pw_tx 11 ++ (pw_nm x ++ (pw_tx 9 ++ ((if C f = true then pw_t fm D A C b else pw_tx 10) ++ pw_tx 12))))
    by_cases z : fm = true
    · rw [if_pos z]
      have z2 := hfm.mp z
      exact pm_ws_eq (g := fun w => (fm_Mod_writesData (f : Int) w).bind fun w1 => some w1) (fun w o => by rw [br w o, if_neg (by omega)]) (pm_ws_last ((hDA z).1 f ff))
    · rw [if_neg z, x11, x9, x12, List.append_assoc]
      have z2 : ¬ 2 ≤ how := fun q => z (hfm.mpr q)
      have zf : fm = false := by cases fm with | true => exact (z rfl).elim | false => rfl
      refine pm_ws_eq (g := fun w => (fm_writes_t (n + 1 + 1) 3 (f : Int) (how : Int) 0 w).bind fun w1 => some w1) (fun w o => by rw [br w o, if_pos (by omega)]) (pm_ws_last ?_)
      refine pm_ws_eq (fun w o => pm_wt3 (n + 1) (f : Int) (how : Int) w) ?_
      unfold fm_Mod_writesLambda_b
      refine pm_ws_bind (pm_ws_say 40 (by omega) rfl) (pm_ws_bind (pm_ws_say 92 (by omega) rfl) ?_)
      refine pm_ws_eq (g := fun w4 => (fm_Mod_saysWord 900 ((pm_cv x : Nat) : Int) w4).bind fun w7 => (fm_Mod_says 46 w7).bind fun w9 => (fm_writes_t (n + 1) 2 (f : Int) (how : Int) 0 w9).bind fun w11 => (fm_Mod_says 41 w11).bind fun w13 => some w13) (fun w o => by rw [pb_ix (show f < 124 by omega) (by omega), Option.bind_some, r184 o (by omega) (by omega), n5]) ?_
      refine pm_ws_bind (pm_ws_word x hwf.1.1 hwf.1.2.1 rfl) (pm_ws_bind (pm_ws_say 46 (by omega) rfl) (pm_ws_bind ?_ (pm_ws_last (pm_ws_say 41 (by omega) rfl))))
      have bodyE : ∀ w, pm_wo w0 w → fm_writes_t (n + 1) 2 (f : Int) (how : Int) 0 w = if C f = true then (fm_writes_t n 0 ((p + pt_sz b - 1 : Nat) : Int) (how : Int) 0 w).bind fun w1 => some w1 else (fm_Mod_saysWord 900 82408 w).bind fun w1 => some w1 := fun w o => by
        rw [pm_wt2]
        unfold fm_Mod_writesBody_b fm_Mod_writesBody_j26
        have hc := hC f ff w zf
        rw [ehow, pb_ix (show f < 24 by omega) (by omega), Option.bind_some, r184 (i := 189) o (by omega) (by omega), n3, o 181 53 (by omega) (by omega)]
        by_cases h1 : how = 1
        · rw [if_pos h1] at hc
          rw [if_pos (by omega), hc]
        · rw [if_neg h1] at hc
          rw [if_neg (by omega), if_pos hc.symm]
      by_cases zc : C f = true
      · rw [if_pos zc]
        exact pm_ws_eq (g := fun w => (fm_writes_t n 0 ((p + pt_sz b - 1 : Nat) : Int) (how : Int) 0 w).bind fun w1 => some w1) (fun w o => by rw [bodyE w o, if_pos zc]) (pm_ws_last (ih (f : Int) p n gl _ (by omega) Hb (by omega) hW.2 hwf.2 hgl))
      · rw [if_neg zc, x10]
        exact pm_ws_eq (g := fun w => (fm_Mod_saysWord 900 82408 w).bind fun w1 => some w1) (fun w o => by rw [bodyE w o, if_neg zc]) (pm_ws_last (pm_ws_word 1684365668 k10 (by omega) (by decide)))
  | ife a b c ta tb tc iha ihb ihc =>
    intro hh p n gl sco hn H hp hW hwf hgl
    obtain ⟨Ha, Hb, Hc, n1, n2, n3, n4⟩ := H
    have e2 : pt_sz (pt_ife a b c) = pt_sz a + pt_sz b + pt_sz c + 1 := rfl
    have pa := pt_sz_pos a
    have pb := pt_sz_pos b
    have pc := pt_sz_pos c
    have ei : p + pt_sz (pt_ife a b c) - 1 = p + pt_sz a + pt_sz b + pt_sz c := by omega
    rw [e2] at hn hp
    obtain ⟨n, rfl⟩ : ∃ m, n = m + 1 := ⟨n - 1, by omega⟩
    rw [ei]
    show pm_ws w0 _ (pw_tx 16 ++ (pw_t fm D A C a ++ (pw_tx 17 ++ (pw_t fm D A C b ++ (pw_tx 18 ++ (pw_t fm D A C c ++ pw_tx 12))))))
    rw [x16, x17, x18, x12]
    simp only [List.append_assoc]
    have pix : fa_ix ((p + pt_sz a + pt_sz b + pt_sz c : Nat) : Int) 101 = some (p + pt_sz a + pt_sz b + pt_sz c) := pb_ix (by omega) (by omega)
    refine pm_ws_eq (g := fun w => (fm_Mod_says 40 w).bind fun w33 => (fm_Mod_saysWord 900 249 w33).bind fun w35 => (fm_Mod_says 32 w35).bind fun w37 => (fun w37 => (fm_writes_t n 0 (w37 185 (p + pt_sz a + pt_sz b + pt_sz c)) (how : Int) 0 w37).bind fun w40 => (fm_Mod_says 32 w40).bind fun w42 => (fm_Mod_saysWord 900 399641 w42).bind fun w44 => (fm_Mod_says 32 w44).bind fun w46 => (fun w46 => (fm_writes_t n 0 (w46 186 (p + pt_sz a + pt_sz b + pt_sz c)) (how : Int) 0 w46).bind fun w49 => (fm_Mod_says 32 w49).bind fun w51 => (fm_Mod_saysWord 900 107681 w51).bind fun w53 => (fm_Mod_says 32 w53).bind fun w55 => (fun w55 => (fm_writes_t n 0 (w55 187 (p + pt_sz a + pt_sz b + pt_sz c)) (how : Int) 0 w55).bind fun w58 => (fm_Mod_says 41 w58).bind fun w60 => some w60) w55) w46) w37) (fun w o => ?_) ?_
    · rw [pm_wt0]
      unfold fm_Mod_writes_b
      rw [pix, Option.bind_some, r184 o (by omega) (by omega), n1, if_neg (by decide), if_neg (by decide), if_neg (by decide), if_neg (by decide), if_neg (by decide), if_pos (by decide)]
      rfl
    · refine pm_ws_bind (pm_ws_say 40 (by omega) rfl) (pm_ws_bind (pm_ws_word 26982 k16 (by omega) (by decide)) (pm_ws_bind (pm_ws_say 32 (by omega) rfl) ?_))
      refine pm_ws_bindE (f := fun w37 => fm_writes_t n 0 ((p + pt_sz a - 1 : Nat) : Int) (how : Int) 0 w37) (fun w o => by rw [r184 o (by omega) (by omega), n2]) (iha hh p n gl _ (by omega) Ha (by omega) hW.1 hwf.1 hgl) ?_
      refine pm_ws_bind (pm_ws_say 32 (by omega) rfl) (pm_ws_bind (pm_ws_word 1952998766 k17 (by omega) (by decide)) (pm_ws_bind (pm_ws_say 32 (by omega) rfl) ?_))
      refine pm_ws_bindE (f := fun w37 => fm_writes_t n 0 ((p + pt_sz a + pt_sz b - 1 : Nat) : Int) (how : Int) 0 w37) (fun w o => by rw [r184 o (by omega) (by omega), n3]) (ihb hh (p + pt_sz a) n gl _ (by omega) Hb (by omega) hW.2.1 hwf.2.1 hgl) ?_
      refine pm_ws_bind (pm_ws_say 32 (by omega) rfl) (pm_ws_bind (pm_ws_word 1701606245 k18 (by omega) (by decide)) (pm_ws_bind (pm_ws_say 32 (by omega) rfl) ?_))
      exact pm_ws_bindE (f := fun w37 => fm_writes_t n 0 ((p + pt_sz a + pt_sz b + pt_sz c - 1 : Nat) : Int) (how : Int) 0 w37) (fun w o => by rw [r184 o (by omega) (by omega), n4]) (ihc hh (p + pt_sz a + pt_sz b) n gl _ (by omega) Hc (by omega) hW.2.2 hwf.2.2 hgl) (pm_ws_last (pm_ws_say 41 (by omega) rfl))
  | lt u x a b ta tb iha ihb =>
    intro hh p n gl sco hn H hp hW hwf hgl
    obtain ⟨Ha, Hb, n1, n2, n3, n4, n5, n6⟩ := H
    have e2 : pt_sz (pt_let u x a b) = pt_sz a + pt_sz b + 1 := rfl
    have pa := pt_sz_pos a
    have pb := pt_sz_pos b
    have ei : p + pt_sz (pt_let u x a b) - 1 = p + pt_sz a + pt_sz b := by omega
    rw [e2] at hn hp
    have hu : u < nv := hW.1
    obtain ⟨n, rfl⟩ : ∃ m, n = m + 1 := ⟨n - 1, by omega⟩
    rw [ei]
    show pm_ws w0 _ (pw_tx 19 ++ (pw_nm x ++ (pw_tx 2 ++ (pw_t fm D A C a ++ (pw_tx 20 ++ (pw_t fm D A C b ++ pw_tx 12))))))
    rw [x19, x2, x20, x12]
    simp only [List.append_assoc]
    have pix : fa_ix ((p + pt_sz a + pt_sz b : Nat) : Int) 101 = some (p + pt_sz a + pt_sz b) := pb_ix (by omega) (by omega)
    refine pm_ws_eq (g := fun w => (fm_Mod_says 40 w).bind fun w33 => (fm_Mod_saysWord 900 8903 w33).bind fun w35 => (fm_Mod_says 32 w35).bind fun w37 => (fun w67 => (fa_ix (w67 187 (p + pt_sz a + pt_sz b)) 124).bind fun j69 => (fm_Mod_saysWord 900 (w67 192 j69) w67).bind fun w71 => (fm_Mod_says 61 w71).bind fun w73 => (fun w73 => (fm_writes_t n 0 (w73 185 (p + pt_sz a + pt_sz b)) (how : Int) 0 w73).bind fun w76 => (fm_Mod_says 32 w76).bind fun w78 => (fm_Mod_saysWord 900 257 w78).bind fun w80 => (fm_Mod_says 32 w80).bind fun w82 => (fun w82 => (fm_writes_t n 0 (w82 186 (p + pt_sz a + pt_sz b)) (how : Int) 0 w82).bind fun w85 => (fm_Mod_says 41 w85).bind fun w87 => some w87) w82) w73) w37) (fun w o => ?_) ?_
    · rw [pm_wt0]
      unfold fm_Mod_writes_b
      rw [pix, Option.bind_some, r184 o (by omega) (by omega), n1, if_neg (by decide), if_neg (by decide), if_neg (by decide), if_neg (by decide), if_neg (by decide), if_neg (by decide), if_pos (by decide)]
      rfl
    · refine pm_ws_bind (pm_ws_say 40 (by omega) rfl) (pm_ws_bind (pm_ws_word 7103860 k19 (by omega) (by decide)) (pm_ws_bind (pm_ws_say 32 (by omega) rfl) ?_))
      refine pm_ws_eq (g := fun w67 => (fm_Mod_saysWord 900 ((pm_cv x : Nat) : Int) w67).bind fun w71 => (fm_Mod_says 61 w71).bind fun w73 => (fun w73 => (fm_writes_t n 0 (w73 185 (p + pt_sz a + pt_sz b)) (how : Int) 0 w73).bind fun w76 => (fm_Mod_says 32 w76).bind fun w78 => (fm_Mod_saysWord 900 257 w78).bind fun w80 => (fm_Mod_says 32 w80).bind fun w82 => (fun w82 => (fm_writes_t n 0 (w82 186 (p + pt_sz a + pt_sz b)) (how : Int) 0 w82).bind fun w85 => (fm_Mod_says 41 w85).bind fun w87 => some w87) w82) w73) (fun w o => by rw [r184 (i := 187) o (by omega) (by omega), n4, pb_ix (show u < 124 by omega) (by omega), Option.bind_some, r184 (i := 192) o (by omega) (by omega), n5]) (pm_ws_bind (pm_ws_word x hwf.1.1 hwf.1.2.1 rfl) (pm_ws_bind (pm_ws_say 61 (by omega) rfl) ?_))
      refine pm_ws_bindE (f := fun w37 => fm_writes_t n 0 ((p + pt_sz a - 1 : Nat) : Int) (how : Int) 0 w37) (fun w o => by rw [r184 o (by omega) (by omega), n2]) (iha hh p n gl _ (by omega) Ha (by omega) hW.2.1 hwf.2.1 hgl) ?_
      refine pm_ws_bind (pm_ws_say 32 (by omega) rfl) (pm_ws_bind (pm_ws_word 26990 k20 (by omega) (by decide)) (pm_ws_bind (pm_ws_say 32 (by omega) rfl) ?_))
      exact pm_ws_bindE (f := fun w37 => fm_writes_t n 0 ((p + pt_sz a + pt_sz b - 1 : Nat) : Int) (how : Int) 0 w37) (fun w o => by rw [r184 o (by omega) (by omega), n3]) (ihb hh (p + pt_sz a) n gl _ (by omega) Hb (by omega) hW.2.2 hwf.2.2 hgl) (pm_ws_last (pm_ws_say 41 (by omega) rfl))
  | op s a b ta tb iha ihb =>
    intro hh p n gl sco hn H hp hW hwf hgl
    obtain ⟨Ha, Hb, n1, n2, n3, n4⟩ := H
    have e2 : pt_sz (pt_op s a b) = pt_sz a + pt_sz b + 1 := rfl
    have pa := pt_sz_pos a
    have pb := pt_sz_pos b
    have ei : p + pt_sz (pt_op s a b) - 1 = p + pt_sz a + pt_sz b := by omega
    have hs : s < 128 := by have := hwf.1; omega
    rw [e2] at hn hp
    obtain ⟨n, rfl⟩ : ∃ m, n = m + 1 + 1 := ⟨n - 2, by omega⟩
    rw [ei]
    show pm_ws w0 _ (pw_tx 14 ++ (pw_t fm D A C a ++ ([s] ++ (pw_t fm D A C b ++ pw_tx 12))))
    rw [x14, x12]
    have pix : fa_ix ((p + pt_sz a + pt_sz b : Nat) : Int) 101 = some (p + pt_sz a + pt_sz b) := pb_ix (by omega) (by omega)
    refine pm_ws_eq (g := fun w => (fm_writes_t (n + 1) 1 ((p + pt_sz a + pt_sz b : Nat) : Int) (s : Int) (how : Int) w).bind fun w1 => some w1) (fun w o => ?_) (pm_ws_last ?_)
    · rw [pm_wt0]
      unfold fm_Mod_writes_b
      rw [pix, Option.bind_some, r184 (i := 184) o (by omega) (by omega), n1, if_neg (by decide), if_neg (by decide), if_neg (by decide), if_neg (by decide), if_neg (by decide), if_neg (by decide), if_neg (by decide), if_pos (by decide), Option.bind_some, r184 o (by omega) (by omega), n4]
    · refine pm_ws_eq (fun w o => pm_wt1 n ((p + pt_sz a + pt_sz b : Nat) : Int) (s : Int) (how : Int) w) ?_
      unfold fm_Mod_writesTwo_b
      rw [pix]
      refine pm_ws_bind (pm_ws_say 40 (by omega) rfl) ?_
      refine pm_ws_eq (g := fun w37 => (fm_writes_t n 0 ((p + pt_sz a - 1 : Nat) : Int) (how : Int) 0 w37).bind fun w40 => (fm_Mod_says (s : Int) w40).bind fun w7 => (fun w7 => (fm_writes_t n 0 (w7 186 (p + pt_sz a + pt_sz b)) (how : Int) 0 w7).bind fun w10 => (fm_Mod_says 41 w10).bind fun w12 => some w12) w7) (fun w o => by rw [Option.bind_some, r184 (i := 185) o (by omega) (by omega), n2]; rfl) (pm_ws_bind (iha hh p n gl _ (by omega) Ha (by omega) hW.1 hwf.2.1 hgl) (pm_ws_bind (pm_ws_say s hs rfl) ?_))
      exact pm_ws_bindE (f := fun w37 => fm_writes_t n 0 ((p + pt_sz a + pt_sz b - 1 : Nat) : Int) (how : Int) 0 w37) (fun w o => by rw [r184 o (by omega) (by omega), n3]) (ihb hh (p + pt_sz a) n gl _ (by omega) Hb (by omega) hW.2 hwf.2.2 hgl) (pm_ws_last (pm_ws_say 41 (by omega) rfl))
  | site s a b ta tb iha ihb =>
    intro hh p n gl sco hn H hp hW hwf hgl
    obtain ⟨Ha, Hb, n1, n2, n3, n4, n5, n6⟩ := H
    have e2 : pt_sz (pt_site s a b) = pt_sz a + pt_sz b + 1 := rfl
    have pa := pt_sz_pos a
    have pb := pt_sz_pos b
    have ei : p + pt_sz (pt_site s a b) - 1 = p + pt_sz a + pt_sz b := by omega
    rw [e2] at hn hp
    obtain ⟨n, rfl⟩ : ∃ m, n = m + 1 + 1 := ⟨n - 2, by omega⟩
    rw [ei]
    have pix : fa_ix ((p + pt_sz a + pt_sz b : Nat) : Int) 101 = some (p + pt_sz a + pt_sz b) := pb_ix (by omega) (by omega)
    have br : ∀ w, pm_wo w0 w → fm_writes_t (n + 1 + 1) 0 ((p + pt_sz a + pt_sz b : Nat) : Int) (how : Int) 0 w = if how ≤ 1 then (fm_writes_t (n + 1) 1 ((p + pt_sz a + pt_sz b : Nat) : Int) 32 (how : Int) w).bind fun w1 => some w1 else (fm_writes_t (n + 1) 4 ((p + pt_sz a + pt_sz b : Nat) : Int) (how : Int) 0 w).bind fun w1 => some w1 := fun w o => by
      rw [pm_wt0]
      unfold fm_Mod_writes_b
      rw [pix, Option.bind_some, r184 (i := 184) o (by omega) (by omega), n1, if_neg (by decide), if_neg (by decide), if_neg (by decide), if_neg (by decide), if_neg (by decide), if_neg (by decide), if_neg (by decide), if_neg (by decide), ehow]
      by_cases z : how ≤ 1
      · rw [if_pos (by omega), if_pos z]
      · rw [if_neg (by omega), if_neg z]
    show pm_ws w0 _ ((if fm = true then A s ++ pw_tx 14 else pw_tx 14) ++ (pw_t fm D A C a ++ ((if fm = true then pw_tx 15 else pw_tx 1) ++ (pw_t fm D A C b ++ pw_tx 12))))
    by_cases z : fm = true
    · rw [if_pos z, if_pos z, x14, x15, x12]
      have z2 := hfm.mp z
      refine pm_ws_eq (g := fun w => (fm_writes_t (n + 1) 4 ((p + pt_sz a + pt_sz b : Nat) : Int) (how : Int) 0 w).bind fun w1 => some w1) (fun w o => by rw [br w o, if_neg (by omega)]) (pm_ws_last ?_)
      have J : pm_ws w0 (fun w => fm_Mod_writesApply_j106 ((p + pt_sz a + pt_sz b : Nat) : Int) (how : Int) (fun z0 z1 w9 => fm_writes_t n 0 z0 z1 0 w9) w) ([40] ++ (pw_t fm D A C a ++ ([44] ++ (pw_t fm D A C b ++ [41])))) := by
        unfold fm_Mod_writesApply_j106
        rw [pix]
        refine pm_ws_bind (pm_ws_say 40 (by omega) rfl) ?_
        refine pm_ws_eq (g := fun w37 => (fm_writes_t n 0 ((p + pt_sz a - 1 : Nat) : Int) (how : Int) 0 w37).bind fun w40 => (fm_Mod_says 44 w40).bind fun w7 => (fun w7 => (fm_writes_t n 0 (w7 186 (p + pt_sz a + pt_sz b)) (how : Int) 0 w7).bind fun w10 => (fm_Mod_says 41 w10).bind fun w12 => some w12) w7) (fun w o => by rw [Option.bind_some, r184 (i := 185) o (by omega) (by omega), n2]; rfl) (pm_ws_bind (iha hh p n gl _ (by omega) Ha (by omega) hW.2.1 hwf.1 hgl) (pm_ws_bind (pm_ws_say 44 (by omega) rfl) ?_))
        exact pm_ws_bindE (f := fun w37 => fm_writes_t n 0 ((p + pt_sz a + pt_sz b - 1 : Nat) : Int) (how : Int) 0 w37) (fun w o => by rw [r184 o (by omega) (by omega), n3]) (ihb hh (p + pt_sz a) n gl _ (by omega) Hb (by omega) hW.2.2 hwf.2 hgl) (pm_ws_last (pm_ws_say 41 (by omega) rfl))
      intro l w o hO hl
      simp only [List.length_append] at hl
      obtain ⟨w1, q1, q2, q3⟩ := (hDA z).2 (fun z0 z1 w9 => fm_writes_t n 0 z0 z1 0 w9) s (p + pt_sz a + pt_sz b) hW.1 n4 (by omega) l w o hO (by omega)
      obtain ⟨w2, r1, r2, r3⟩ := J (l ++ A s) w1 q3 q2 (by simp only [List.length_append]; omega)
      refine ⟨w2, ?_, ?_, r3⟩
      · rw [pm_wt4, q1]
        exact r1
      · simp only [List.append_assoc] at r2 ⊢
        exact r2
    · rw [if_neg z, if_neg z, x14, x1, x12]
      have z2 : ¬ 2 ≤ how := fun q => z (hfm.mpr q)
      refine pm_ws_eq (g := fun w => (fm_writes_t (n + 1) 1 ((p + pt_sz a + pt_sz b : Nat) : Int) 32 (how : Int) w).bind fun w1 => some w1) (fun w o => by rw [br w o, if_pos (by omega)]) (pm_ws_last ?_)
      refine pm_ws_eq (fun w o => pm_wt1 n ((p + pt_sz a + pt_sz b : Nat) : Int) 32 (how : Int) w) ?_
      unfold fm_Mod_writesTwo_b
      rw [pix]
      refine pm_ws_bind (pm_ws_say 40 (by omega) rfl) ?_
      refine pm_ws_eq (g := fun w37 => (fm_writes_t n 0 ((p + pt_sz a - 1 : Nat) : Int) (how : Int) 0 w37).bind fun w40 => (fm_Mod_says 32 w40).bind fun w7 => (fun w7 => (fm_writes_t n 0 (w7 186 (p + pt_sz a + pt_sz b)) (how : Int) 0 w7).bind fun w10 => (fm_Mod_says 41 w10).bind fun w12 => some w12) w7) (fun w o => by rw [Option.bind_some, r184 (i := 185) o (by omega) (by omega), n2]; rfl) (pm_ws_bind (iha hh p n gl _ (by omega) Ha (by omega) hW.2.1 hwf.1 hgl) (pm_ws_bind (pm_ws_say 32 (by omega) rfl) ?_))
      exact pm_ws_bindE (f := fun w37 => fm_writes_t n 0 ((p + pt_sz a + pt_sz b - 1 : Nat) : Int) (how : Int) 0 w37) (fun w o => by rw [r184 o (by omega) (by omega), n3]) (ihb hh (p + pt_sz a) n gl _ (by omega) Hb (by omega) hW.2.2 hwf.2 hgl) (pm_ws_last (pm_ws_say 41 (by omega) rfl))
