/-! THE FORM by the reference: the whole -/
def pw_cr (D E : Nat → List Nat) (Y : Nat → Nat) (c : Nat) : Bool → Nat → Nat → List Nat
  | _, 0, _ => []
  | b, d + 1, f => if c.testBit f = true then (if b = true then [] else pw_tx 6) ++ (pw_c1 D E Y f ++ pw_cr D E Y c false d (f + 1)) else pw_cr D E Y c b d (f + 1)
theorem pw_cr_f {D E : Nat → List Nat} {Y : Nat → Nat} {k c : Nat} : ∀ d f, pw_lo c 24 0 < f → pw_cg D E Y k c d f = pw_cr D E Y c false d f := by
  intro d
  induction d with
  | zero => intro f _; rfl
  | succ d ih =>
    intro f h
    have i := ih (f + 1) (by omega)
    show (if c.testBit f = true then (if f = pw_lo c 24 0 then pw_tx 7 ++ (pw_nu k ++ pw_tx 8) else pw_tx 6) ++ pw_c1 D E Y f else []) ++ pw_cg D E Y k c d (f + 1) = if c.testBit f = true then (if false = true then [] else pw_tx 6) ++ (pw_c1 D E Y f ++ pw_cr D E Y c false d (f + 1)) else pw_cr D E Y c false d (f + 1)
    by_cases z : c.testBit f = true
    · rw [if_pos z, if_pos z, if_neg (show ¬ f = pw_lo c 24 0 by omega), if_neg (show ¬ false = true by decide), i, List.append_assoc]
    · rw [if_neg z, if_neg z, i, List.nil_append]
theorem pw_cr_t {D E : Nat → List Nat} {Y : Nat → Nat} {k c : Nat} (hb : c.testBit (pw_lo c 24 0) = true) (hn : ∀ i, i < pw_lo c 24 0 → ¬ c.testBit i = true) : ∀ d f, f ≤ pw_lo c 24 0 → pw_lo c 24 0 < f + d → pw_cg D E Y k c d f = (pw_tx 7 ++ (pw_nu k ++ pw_tx 8)) ++ pw_cr D E Y c true d f := by
  intro d
  induction d with
  | zero => intro f a b; omega
  | succ d ih =>
    intro f a b
    show (if c.testBit f = true then (if f = pw_lo c 24 0 then pw_tx 7 ++ (pw_nu k ++ pw_tx 8) else pw_tx 6) ++ pw_c1 D E Y f else []) ++ pw_cg D E Y k c d (f + 1) = (pw_tx 7 ++ (pw_nu k ++ pw_tx 8)) ++ if c.testBit f = true then (if true = true then [] else pw_tx 6) ++ (pw_c1 D E Y f ++ pw_cr D E Y c false d (f + 1)) else pw_cr D E Y c true d (f + 1)
    by_cases z : f = pw_lo c 24 0
    · have zb : c.testBit f = true := by rw [z]; exact hb
      rw [if_pos zb, if_pos zb, if_pos z, if_pos rfl, List.nil_append, pw_cr_f d (f + 1) (by omega), List.append_assoc]
    · rw [if_neg (hn f (by omega)), if_neg (hn f (by omega)), List.nil_append]
      exact ih (f + 1) (by omega) (by omega)
theorem pw_cg_0 {D E : Nat → List Nat} {Y : Nat → Nat} {k : Nat} : ∀ d f, pw_cg D E Y k 0 d f = [] := by
  intro d
  induction d with
  | zero => intro f; rfl
  | succ d ih =>
    intro f
    show (if Nat.testBit 0 f = true then _ else []) ++ pw_cg D E Y k 0 d (f + 1) = []
    rw [if_neg (by rw [Nat.zero_testBit]; decide), ih]
    rfl
/-- what the reference's writer of a form needs -/
def pm_FO (sp : Nat) (gs : ps_G) (t : pt_T) (la li si nd mk CL : Nat) (fb : Nat → pt_T) (sb : pf_sT) (yv : Nat → Nat) (w0 : fa_W) : Prop := pn_V gs t la li si nd ∧ pf_G gs t la li si fb sb ∧ pm_AN gs t la li si nd fb sb mk w0 ∧ (∀ f, f < gs.length + la → (∀ v ∈ pd_fl f (fb f), pd_yq gs t v (yv v)) ∧ pd_yq gs t f (yv f)) ∧ sp < 3 ∧ (CL < 2 ^ (gs.length + la) ∧ w0 181 53 = (CL : Int)) ∧ pm_wP (sp + 2) (gs.length + la) (24 + li) si gs.length true (pw_D fb yv) (pw_A gs t fb sb la si mk sp) (fun _ => true) w0
theorem pm_FO_of {sp : Nat} {gs : ps_G} {t : pt_T} {la li si nd mk CL : Nat} {fb : Nat → pt_T} {sb : pf_sT} {yv : Nat → Nat} {w0 : fa_W} (hV : pn_V gs t la li si nd) (hG : pf_G gs t la li si fb sb) (hN : pm_AN gs t la li si nd fb sb mk w0) (hmk : mk < 2 ^ (gs.length + la)) (hM : ∀ f, mk.testBit f = true ↔ pf_M fb t f) (hy : ∀ f, f < gs.length + la → (∀ v ∈ pd_fl f (fb f), pd_yq gs t v (yv v)) ∧ pd_yq gs t f (yv f)) (hsp : sp < 3) (hC : CL < 2 ^ (gs.length + la)) (hC53 : w0 181 53 = (CL : Int)) : pm_FO sp gs t la li si nd mk CL fb sb yv w0 := by
  have v1 := hV.1
  have v2 := hV.2.1
  have v5 := hV.2.2.2.2.1
  exact ⟨hV, hG, hN, hy, hsp, ⟨hC, hC53⟩, ⟨by omega, ⟨fun _ => by omega, fun _ => rfl⟩⟩, by omega, by omega, v1, (fun f _ w h => by cases h), fun _ => ⟨fun f hf => pm_writesData hV hG hN.1 (hN.2.2.2.1 f hf) (hy f hf).1 hf, fun rc s i hs hi hi101 l w o hO hl => pm_apply hV hG hN hmk hM hsp hs hi hi101 o hO hl⟩⟩
theorem pm_form_65 {sp : Nat} {gs : ps_G} {t : pt_T} {la li si nd mk CL : Nat} {fb : Nat → pt_T} {sb : pf_sT} {yv : Nat → Nat} {w0 : fa_W} (H : pm_FO sp gs t la li si nd mk CL fb sb yv w0) {k c : Nat} {k7 : Int → fa_W → Option fa_W} {rest : List Nat} (hc : c < 2 ^ (gs.length + la)) (hk : pm_ws w0 (fun w => k7 ((k + 1 : Nat) : Int) w) rest) : ∀ (d f F : Nat) (b : Bool), f + d = gs.length + la → d < F → pm_ws w0 (fun w => fm_Mod_writesForm_l65 (sp : Int) k7 F (k : Int) (c : Int) b (f : Int) w) (pw_cr (pw_D fb yv) (fun f => pw_E gs t fb sb yv la si mk sp (fb f)) yv c b d f ++ ([125] ++ rest)) := by
  obtain ⟨hV, hG, hN, hy, hsp, ⟨hC, hC53⟩, WP⟩ := H
  obtain ⟨_, _, _, _, x9, _⟩ := pw_txe
  obtain ⟨_, _, x6, _⟩ := pw_txn
  have v1 := hV.1
  have v2 := hV.2.1
  have v3 := hV.2.2.1
  obtain ⟨p16, p17, p18, _⟩ := id hN.1
  have c24 : c < 2 ^ 24 := Nat.lt_of_lt_of_le hc (Nat.pow_le_pow_right (by omega) (by omega))
  have hPB := pf_PB_of hV hG hN.1
  have eF : ∀ w, pm_wo w0 w → fm_Mod_functions w = ((gs.length + la : Nat) : Int) := fun w o => by
    show w 181 17 + w 181 18 = _
    rw [o _ _ (by omega) (by omega), o _ _ (by omega) (by omega), p17, p18]
    omega
  intro d
  induction d with
  | zero =>
    intro f F b hf hF
    obtain ⟨F, rfl⟩ : ∃ n, F = n + 1 := ⟨F - 1, by omega⟩
    have e : pw_cr (pw_D fb yv) (fun f => pw_E gs t fb sb yv la si mk sp (fb f)) yv c b 0 f = [] := by cases b <;> rfl
    rw [e, List.nil_append]
    refine pm_ws_eq (g := fun w => (fm_Mod_says 125 w).bind fun w21 => k7 ((k + 1 : Nat) : Int) w21) (fun w o => ?_) (pm_ws_bind (pm_ws_say 125 (by omega) rfl) hk)
    conv => lhs; unfold fm_Mod_writesForm_l65
    rw [eF w o, pb_wr (by omega), pb_wr (by omega), if_pos (by omega)]
    rfl
  | succ d ih =>
    intro f F b hf hF
    obtain ⟨F, rfl⟩ : ∃ n, F = n + 1 := ⟨F - 1, by omega⟩
    have fl : f < gs.length + la := by omega
    have e : pw_cr (pw_D fb yv) (fun f => pw_E gs t fb sb yv la si mk sp (fb f)) yv c b (d + 1) f = if c.testBit f = true then (if b = true then [] else pw_tx 6) ++ (pw_c1 (pw_D fb yv) (fun f => pw_E gs t fb sb yv la si mk sp (fb f)) yv f ++ pw_cr (pw_D fb yv) (fun f => pw_E gs t fb sb yv la si mk sp (fb f)) yv c false d (f + 1)) else pw_cr (pw_D fb yv) (fun f => pw_E gs t fb sb yv la si mk sp (fb f)) yv c b d (f + 1) := by cases b <;> rfl
    rw [e]
    obtain ⟨a, a1, a2, a3⟩ := hPB.2.2 f fl
    obtain ⟨gl, sco, g1, g2⟩ := pw_wfs hV hG fl
    have ny := pd_yq_nm hV (hy f fl).2
    have eY := pm_yq hV hN.1 (hy f fl).2
    have szp := pt_sz_pos (fb f)
    have step : ∀ w, pm_wo w0 w → fm_Mod_writesForm_l65 (sp : Int) k7 (F + 1) (k : Int) (c : Int) b (f : Int) w = if c.testBit f = true then (if b = true then fm_Mod_writesForm_j97 (sp : Int) (fun x2 x3 x4 x5 w9 => fm_Mod_writesForm_l65 (sp : Int) k7 F x2 x3 x4 x5 w9) (k : Int) (c : Int) (f : Int) w else (fm_Mod_says 124 w).bind fun w38 => fm_Mod_writesForm_j97 (sp : Int) (fun x2 x3 x4 x5 w9 => fm_Mod_writesForm_l65 (sp : Int) k7 F x2 x3 x4 x5 w9) (k : Int) (c : Int) (f : Int) w38) else fm_Mod_writesForm_l65 (sp : Int) k7 F (k : Int) (c : Int) b ((f + 1 : Nat) : Int) w := fun w o => by
      conv => lhs; unfold fm_Mod_writesForm_l65
      rw [eF w o, pb_wr (by omega), pb_wr (by omega), if_neg (by omega), pf_hd (by omega) (by omega)]
      rfl
    by_cases z : c.testBit f = true
    · rw [if_pos z]
      have nxt := ih (f + 1) F false (by omega) (by omega)
      have body : pm_ws w0 (fun w => fm_Mod_writesForm_j97 (sp : Int) (fun x2 x3 x4 x5 w9 => fm_Mod_writesForm_l65 (sp : Int) k7 F x2 x3 x4 x5 w9) (k : Int) (c : Int) (f : Int) w) (pw_c1 (pw_D fb yv) (fun f => pw_E gs t fb sb yv la si mk sp (fb f)) yv f ++ (pw_cr (pw_D fb yv) (fun f => pw_E gs t fb sb yv la si mk sp (fb f)) yv c false d (f + 1) ++ ([125] ++ rest))) := by
        unfold pw_c1
        rw [x9]
        simp only [List.append_assoc]
        refine pm_ws_eq (g := fun w => (fm_Mod_writesData (f : Int) w).bind fun w27 => (fun w27 => (fm_Mod_saysWord 900 (w27 192 f) w27).bind fun w30 => (fm_Mod_says 46 w30).bind fun w32 => (fun w32 => (fm_writes_t 900 0 (w32 189 f) ((sp + 2 : Nat) : Int) 0 w32).bind fun w35 => fm_Mod_writesForm_l65 (sp : Int) k7 F (k : Int) (c : Int) false ((f + 1 : Nat) : Int) w35) w32) w27) (fun w o => ?_) ?_
        · unfold fm_Mod_writesForm_j97 fm_Mod_writes
          rw [pb_ix (show f < 124 by omega) (by omega), pb_ix (show f < 24 by omega) (by omega)]
          rfl
        · have hw := pm_we WP (fb f) (hG.2.1 f) (f : Int) a 900 gl sco (by omega) a3 (by omega) (hG.2.2.1 f fl).2.1 g1 g2
          exact pm_ws_bind ((WP.2.2.2.2.2 rfl).1 f fl) (pm_ws_bindE (f := fun w => fm_Mod_saysWord 900 ((pm_cv (yv f) : Nat) : Int) w) (fun w o => by rw [o 192 f (by omega) (by omega), eY]) (pm_ws_word (yv f) ny.1 ny.2.1 rfl) (pm_ws_bind (pm_ws_say 46 (by omega) rfl) (pm_ws_bindE (f := fun w => fm_writes_t 900 0 ((a + pt_sz (fb f) - 1 : Nat) : Int) ((sp + 2 : Nat) : Int) 0 w) (fun w o => by rw [o 189 f (by omega) (by omega), a2]) hw nxt)))
      cases b with
      | true =>
        rw [if_pos rfl, List.nil_append, List.append_assoc]
        exact pm_ws_eq (fun w o => by rw [step w o, if_pos z, if_pos rfl]) body
      | false =>
        rw [if_neg (by decide), x6, List.append_assoc, List.append_assoc]
        exact pm_ws_eq (g := fun w => (fm_Mod_says 124 w).bind fun w38 => fm_Mod_writesForm_j97 (sp : Int) (fun x2 x3 x4 x5 w9 => fm_Mod_writesForm_l65 (sp : Int) k7 F x2 x3 x4 x5 w9) (k : Int) (c : Int) (f : Int) w38) (fun w o => by rw [step w o, if_pos z, if_neg (by decide)]) (pm_ws_bind (pm_ws_say 124 (by omega) rfl) body)
    · rw [if_neg z]
      exact pm_ws_eq (fun w o => by rw [step w o, if_neg z]) (ih (f + 1) F b (by omega) (by omega))
theorem pm_form_7 {sp : Nat} {gs : ps_G} {t : pt_T} {la li si nd mk CL : Nat} {fb : Nat → pt_T} {sb : pf_sT} {yv : Nat → Nat} {w0 : fa_W} (H : pm_FO sp gs t la li si nd mk CL fb sb yv w0) : ∀ (r : List Nat) (k F : Nat), (pg_g gs t (pf_A fb t sb (gs.length + la)) si (gs.length + la) mk sp).drop k = r → k ≤ (pg_g gs t (pf_A fb t sb (gs.length + la)) si (gs.length + la) mk sp).length → r.length < F → pm_ws w0 (fun w => fm_Mod_writesForm_l7 (sp : Int) F (k : Int) w) (pw_gl (pw_D fb yv) (fun f => pw_E gs t fb sb yv la si mk sp (fb f)) yv (gs.length + la) CL r k ++ pw_E gs t fb sb yv la si mk sp t) := by
  have H0 := H
  obtain ⟨hV, hG, hN, hy, hsp, ⟨hC, hC53⟩, WP⟩ := H0
  obtain ⟨x4, x5, _, x7, x8, _⟩ := pw_txn
  have v1 := hV.1
  have v2 := hV.2.1
  have v3 := hV.2.2.1
  have GX := pm_GX_of hV hN hsp
  have glen := GX.2.2.1
  have p24 : 2 ^ (gs.length + la) ≤ 2 ^ 24 := Nat.pow_le_pow_right (by omega) (by omega)
  obtain ⟨FU, hFU⟩ : ∃ FU, FU = fa_FU := ⟨_, rfl⟩
  have hFU2 : 100 < FU := by rw [hFU]; unfold fa_FU; omega
  obtain ⟨_, ⟨b, b1, b2, b3⟩, _⟩ := pf_PB_of hV hG hN.1
  have szp := pt_sz_pos t
  intro r
  induction r with
  | nil =>
    intro k F hr hk hF
    obtain ⟨F, rfl⟩ : ∃ n, F = n + 1 := ⟨F - 1, by omega⟩
    have kl : (pg_g gs t (pf_A fb t sb (gs.length + la)) si (gs.length + la) mk sp).length ≤ k := List.drop_eq_nil_iff.mp hr
    show pm_ws w0 _ ([] ++ _)
    rw [List.nil_append]
    refine pm_ws_eq (g := fun w => (fm_writes_t 900 0 ((b + pt_sz t - 1 : Nat) : Int) ((sp + 2 : Nat) : Int) 0 w).bind fun w5 => some w5) (fun w o => ?_) (pm_ws_last (pm_we WP t hG.2.2.2.1.1 (-1) b 900 _ [] (by omega) b3 (by omega) hG.2.2.2.1.2.2.1 hV.2.2.2.2.2.2.1 (by unfold pk_gn; rw [List.length_map]; exact Nat.le_refl _)))
    conv => lhs; unfold fm_Mod_writesForm_l7 fm_Mod_writes
    rw [pb_ix (show sp < 3 by omega) (by omega), Option.bind_some, o 216 sp (by omega) (by omega), GX.2.2.2.2.2.2.1, pb_wr (by omega), pb_wr (by omega), if_pos (by omega), o 181 21 (by omega) (by omega), b2]
    rfl
  | cons m r ih =>
    intro k F hr hk hF
    obtain ⟨F, rfl⟩ : ∃ n, F = n + 1 := ⟨F - 1, by omega⟩
    have kl : k < (pg_g gs t (pf_A fb t sb (gs.length + la)) si (gs.length + la) mk sp).length := by
      by_cases z : k < (pg_g gs t (pf_A fb t sb (gs.length + la)) si (gs.length + la) mk sp).length
      · exact z
      · rw [List.drop_eq_nil_iff.mpr (by omega)] at hr; cases hr
    have hm : (pg_g gs t (pf_A fb t sb (gs.length + la)) si (gs.length + la) mk sp).getD k 0 = m := by
      rw [List.drop_eq_getElem_cons kl] at hr
      rw [List.getD_eq_getElem?_getD, List.getElem?_eq_getElem kl]
      exact (List.cons.inj hr).1
    have hr' : (pg_g gs t (pf_A fb t sb (gs.length + la)) si (gs.length + la) mk sp).drop (k + 1) = r := by
      rw [List.drop_eq_getElem_cons kl] at hr
      exact (List.cons.inj hr).2
    have mlt : m < 2 ^ (gs.length + la) := by rw [← hm]; exact GX.2.2.2.1 k kl
    obtain ⟨c, hc⟩ : ∃ c, c = m &&& CL := ⟨_, rfl⟩
    have clt : c < 2 ^ (gs.length + la) := by rw [hc]; exact Nat.lt_of_le_of_lt Nat.and_le_right hC
    have nxt := ih (k + 1) F hr' (by omega) (by rw [List.length_cons] at hF; omega)
    have eg : pw_gl (pw_D fb yv) (fun f => pw_E gs t fb sb yv la si mk sp (fb f)) yv (gs.length + la) CL (m :: r) k ++ pw_E gs t fb sb yv la si mk sp t = (pw_cg (pw_D fb yv) (fun f => pw_E gs t fb sb yv la si mk sp (fb f)) yv k c (gs.length + la) 0 ++ (if c = 0 then pw_tx 4 else pw_tx 5)) ++ (pw_gl (pw_D fb yv) (fun f => pw_E gs t fb sb yv la si mk sp (fb f)) yv (gs.length + la) CL r (k + 1) ++ pw_E gs t fb sb yv la si mk sp t) := by
      rw [hc, ← List.append_assoc]
      rfl
    rw [eg]
    have step : ∀ w, pm_wo w0 w → fm_Mod_writesForm_l7 (sp : Int) (F + 1) (k : Int) w = if c = 0 then fm_Mod_writesForm_l7 (sp : Int) F ((k + 1 : Nat) : Int) w else (fm_Mod_says 97 w).bind fun w11 => (fm_Mod_saysNumber 900 (k : Int) w11).bind fun w13 => (fm_Mod_says 58 w13).bind fun w15 => (fm_Mod_says 123 w15).bind fun w17 => fm_Mod_writesForm_l65 (sp : Int) (fun x2 w9 => fm_Mod_writesForm_l7 (sp : Int) F x2 w9) FU (k : Int) (c : Int) true ((0 : Nat) : Int) w17 := fun w o => by
      conv => lhs; unfold fm_Mod_writesForm_l7
      rw [pb_ix (show sp < 3 by omega) (by omega), Option.bind_some, o 216 sp (by omega) (by omega), GX.2.2.2.2.2.2.1, pb_wr (by omega), pb_wr (by omega), if_neg (by omega), pm_groupSet (pm_GX_wo GX o) kl, Option.bind_some, pf_let_eq, hm, o 181 53 (by omega) (by omega), hC53, pb_and (by omega) (by omega), ← hc, pb_wr (by omega), ← hFU]
      by_cases z : c = 0
      · rw [if_pos z, if_pos (by omega), pf_let_eq]; rfl
      · rw [if_neg z, if_neg (by omega)]; rfl
    by_cases z : c = 0
    · rw [z, pw_cg_0, if_pos rfl, x4, List.nil_append, List.nil_append]
      exact pm_ws_eq (fun w o => by rw [step w o, if_pos z]) nxt
    · have c24 : c < 2 ^ 24 := by omega
      obtain ⟨q, q1, q2, q3, _⟩ := pf_lowest c24 (by omega) w0
      have lo := pw_lo_eq q2 q3 24 0 (by omega) (by omega)
      have qn : q < gs.length + la := by
        by_cases y : q < gs.length + la
        · exact y
        · rw [Nat.testBit_lt_two_pow (Nat.lt_of_lt_of_le clt (Nat.pow_le_pow_right (by omega) (by omega)))] at q2
          cases q2
      rw [if_neg z, pw_cr_t (by rw [lo]; exact q2) (fun i hi => by rw [lo] at hi; rw [q3 i hi]; decide) (gs.length + la) 0 (Nat.zero_le _) (by omega), x5, x7, x8]
      simp only [List.append_assoc]
      refine pm_ws_eq (g := fun w => (fm_Mod_says 97 w).bind fun w11 => (fm_Mod_saysNumber 900 (k : Int) w11).bind fun w13 => (fm_Mod_says 58 w13).bind fun w15 => (fm_Mod_says 123 w15).bind fun w17 => fm_Mod_writesForm_l65 (sp : Int) (fun x2 w9 => fm_Mod_writesForm_l7 (sp : Int) F x2 w9) FU (k : Int) (c : Int) true ((0 : Nat) : Int) w17) (fun w o => by rw [step w o, if_neg z]) (pm_ws_bind (pm_ws_say 97 (by omega) rfl) (pm_ws_bind (pm_ws_num k (by omega) rfl) (pm_ws_bind (pm_ws_say 58 (by omega) rfl) (pm_ws_bind (pm_ws_say 123 (by omega) rfl) ?_))))
      exact pm_form_65 (k := k) (k7 := fun x2 w9 => fm_Mod_writesForm_l7 (sp : Int) F x2 w9) H clt nxt (gs.length + la) 0 FU true (by omega) (by omega)
theorem pm_writesForm {sp : Nat} {gs : ps_G} {t : pt_T} {la li si nd mk CL : Nat} {fb : Nat → pt_T} {sb : pf_sT} {yv : Nat → Nat} {w : fa_W} (hV : pn_V gs t la li si nd) (hG : pf_G gs t la li si fb sb) (hN : pm_AN gs t la li si nd fb sb mk w) (hmk : mk < 2 ^ (gs.length + la)) (hM : ∀ f, mk.testBit f = true ↔ pf_M fb t f) (hy : ∀ f, f < gs.length + la → (∀ v ∈ pd_fl f (fb f), pd_yq gs t v (yv v)) ∧ pd_yq gs t f (yv f)) (hsp : sp < 3) (hC : CL < 2 ^ (gs.length + la)) (hC53 : w 181 53 = (CL : Int)) : ∃ w', fm_Mod_writesForm (sp : Int) w = some w' ∧ pm_O (pw_F gs t fb sb yv la si mk CL sp) w' ∧ pm_wo w w' := by
  have len := pw_F_len (nd := nd) (li := li) (mk := mk) (sp := sp) (yv := yv) hV hG hC
  have H := pm_FO_of hV hG hN hmk hM hy hsp hC hC53
  have GX := pm_GX_of hV hN hsp
  have glen := GX.2.2.1
  have v1 := hV.1
  have v2 := hV.2.1
  obtain ⟨w', q1, q2, q3⟩ := pm_form_7 H _ 0 fa_FU (List.drop_zero ..) (Nat.zero_le _) (by unfold fa_FU; omega) [] (fa_st w 181 70 0) (fun i j _ q => fa_st_ne q) ⟨fa_st_eq _ _ _ _, fun i x q => by cases q⟩ (by
    have : (pw_gl (pw_D fb yv) (fun f => pw_E gs t fb sb yv la si mk sp (fb f)) yv (gs.length + la) CL (pg_g gs t (pf_A fb t sb (gs.length + la)) si (gs.length + la) mk sp) 0 ++ pw_E gs t fb sb yv la si mk sp t).length ≤ 6990 := len
    rw [List.length_nil]
    omega)
  rw [List.nil_append] at q2
  refine ⟨w', ?_, q2, q3⟩
  unfold fm_Mod_writesForm
  rw [pf_let_eq]
  exact q1
