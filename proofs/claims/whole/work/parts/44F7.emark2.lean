/-! copying: the walk that marks, EXPR by EXPR -/
theorem pe_mk_cong {CL : Nat → Bool} {mk mk' : Nat → Int} (t : pt_T) (tt : pt_tw t) : ∀ a, (∀ i, a ≤ i → i < a + pt_sz t → mk' i = mk i) → pe_mk CL t a mk → pe_mk CL t a mk' := by
  induction t, tt using pt_indh with
  | num v => intro a e H; exact (e a (Nat.le_refl _) (Nat.lt_succ_self _)).trans H
  | var v x => intro a e H; exact (e a (Nat.le_refl _) (Nat.lt_succ_self _)).trans H
  | glo g x => intro a e H; exact (e a (Nat.le_refl _) (Nat.lt_succ_self _)).trans H
  | dead d => intro a e H; exact (e a (Nat.le_refl _) (Nat.lt_succ_self _)).trans H
  | lam f x b wb ih =>
    intro a e H
    have s : pt_sz (pt_lam f x b) = pt_sz b + 1 := rfl
    obtain ⟨H1, H2⟩ := H
    refine ⟨(e _ (by omega) (by omega)).trans H1, ?_⟩
    by_cases c : CL f = true
    · rw [if_pos c] at H2 ⊢
      exact ih a (fun i p q => e i p (by omega)) H2
    · rw [if_neg c] at H2 ⊢
      exact fun i p q => (e i p (by omega)).trans (H2 i p q)
  | ife ta t2 tc wa wb wc iha ihb ihc =>
    intro a e H
    have s : pt_sz (pt_ife ta t2 tc) = pt_sz ta + pt_sz t2 + pt_sz tc + 1 := rfl
    exact ⟨iha _ (fun i p q => e i p (by omega)) H.1, ihb _ (fun i p q => e i (by omega) (by omega)) H.2.1, ihc _ (fun i p q => e i (by omega) (by omega)) H.2.2.1, (e _ (by omega) (by omega)).trans H.2.2.2⟩
  | lt v x ta t2 wa wb iha ihb =>
    intro a e H
    have s : pt_sz (pt_let v x ta t2) = pt_sz ta + pt_sz t2 + 1 := rfl
    exact ⟨iha _ (fun i p q => e i p (by omega)) H.1, ihb _ (fun i p q => e i (by omega) (by omega)) H.2.1, (e _ (by omega) (by omega)).trans H.2.2⟩
  | op r ta t2 wa wb iha ihb =>
    intro a e H
    have s : pt_sz (pt_op r ta t2) = pt_sz ta + pt_sz t2 + 1 := rfl
    exact ⟨iha _ (fun i p q => e i p (by omega)) H.1, ihb _ (fun i p q => e i (by omega) (by omega)) H.2.1, (e _ (by omega) (by omega)).trans H.2.2⟩
  | site r ta t2 wa wb iha ihb =>
    intro a e H
    have s : pt_sz (pt_site r ta t2) = pt_sz ta + pt_sz t2 + 1 := rfl
    exact ⟨iha _ (fun i p q => e i p (by omega)) H.1, ihb _ (fun i p q => e i (by omega) (by omega)) H.2.1, (e _ (by omega) (by omega)).trans H.2.2⟩
/-- what the walk rests on -/
def pe_EM (o oP nd : Nat) (CL : Nat → Bool) (cd : Int) (w0 : fa_W) : Prop := pe_sep o oP ∧ pe_kp CL cd ∧ px_pz oP nd w0 ∧ w0 (o + 23) 1 = (nd : Int)
theorem pe_s_un {o oP nd : Nat} {CL : Nat → Bool} {cd : Int} {w0 w : fa_W} (E : pe_EM o oP nd CL cd w0) (hw : pe_f2 o w0 w) {i : Nat} (hi : i < nd) (hm : w (o + 24) i = -1) (F : Nat) : fm_Program_markThings_l83 o oP cd (F + 1) (i : Int) w = fm_Program_markThings_l83 o oP cd F ((i : Int) - 1) w := by
  obtain ⟨⟨he, ho, hp, hd⟩, hk, hz, h23⟩ := E
  obtain ⟨r11, s11, m11⟩ := px_po_r11 ho
  have h100 := hz.2.2.2.2.2
  show (if fa_wr (i : Int) < 0 then _ else _) = _
  rw [pb_wr (by omega), if_neg (by omega), r11, pb_at ((hw _ _ (by omega)).trans h23) hi (by rw [m11]; exact h100), s11, show o + 23 + 1 = o + 24 by omega, hm, pb_wr1, if_pos rfl, pf_let_eq]
  rfl
theorem pe_range {o oP nd : Nat} {CL : Nat → Bool} {cd : Int} {w0 w : fa_W} (E : pe_EM o oP nd CL cd w0) (hw : pe_f2 o w0 w) (a : Nat) : ∀ (n : Nat), a + n ≤ nd → (∀ i, a ≤ i → i < a + n → w (o + 24) i = -1) → ∀ F, fm_Program_markThings_l83 o oP cd (F + n) (((a + n : Nat) : Int) - 1) w = fm_Program_markThings_l83 o oP cd F ((a : Int) - 1) w := by
  intro n
  induction n with
  | zero => intro _ _ F; rfl
  | succ n ih =>
    intro hn h F
    have e : (((a + (n + 1) : Nat) : Int) - 1) = ((a + n : Nat) : Int) := by omega
    rw [e, show F + (n + 1) = F + n + 1 by omega, pe_s_un E hw (by omega) (h (a + n) (by omega) (by omega)) (F + n)]
    exact ih (by omega) (fun i p q => h i p (by omega)) F
theorem pe_s_lo {o oP nd : Nat} {CL : Nat → Bool} {cd : Int} {w0 w : fa_W} (E : pe_EM o oP nd CL cd w0) (hw : pe_f2 o w0 w) {i f st : Nat} {h p0 p1 p2 : Int} (hi : i < nd) (hm : w (o + 24) i = 0) (N : px_N oP w0 i 5 f h st p0 p1 p2) (hf : f < 24) (hc : CL f = false) (F : Nat) : fm_Program_markThings_l83 o oP cd (F + 1) (i : Int) w = fm_Program_markThings_l83 o oP cd F ((i : Int) - 1) w := by
  obtain ⟨⟨he, ho, hp, hd⟩, hk, hz, h23⟩ := E
  obtain ⟨r11, s11, m11⟩ := px_po_r11 ho
  have h100 := hz.2.2.2.2.2
  have hvo : px_vo oP w0 w := fun i j p q => hw i j (by omega)
  have N' := px_N_ob (o := oP) (fun i j p q => hw i j (by omega)) N
  obtain ⟨q1, q2, _⟩ := px_rd hp (px_pz_ob hz hvo) N' hi
  have lo : fm_Program_losesBody oP (i : Int) cd w = true := by
    unfold fm_Program_losesBody
    rw [show fr_at (fa_rf oP 0) (i : Int) w = ((5 : Nat) : Int) from q1, show fr_at (fa_rf oP 1) (i : Int) w = (f : Int) from q2, pb_wr (by omega), if_pos (by rfl), hk f w hf, hc]
    rfl
  show (if fa_wr (i : Int) < 0 then _ else _) = _
  rw [pb_wr (by omega), if_neg (by omega), r11, pb_at ((hw _ _ (by omega)).trans h23) hi (by rw [m11]; exact h100), s11, show o + 23 + 1 = o + 24 by omega, hm, if_neg (by decide), lo, if_pos rfl, pf_let_eq]
  rfl
theorem pe_s_go {o oP nd : Nat} {CL : Nat → Bool} {cd : Int} {w0 w : fa_W} (E : pe_EM o oP nd CL cd w0) (hw : pe_f2 o w0 w) {i K V st : Nat} {h p0 p1 p2 : Int} (hi : i < nd) (hm : w (o + 24) i = 0) (N : px_N oP w0 i K V h st p0 p1 p2) (hK : K < 10) (h5 : K = 5 → V < 24 ∧ CL V = true) (b0 : p0 = -1 ∨ ∃ j : Nat, p0 = (j : Int) ∧ j < nd) (b1 : p1 = -1 ∨ ∃ j : Nat, p1 = (j : Int) ∧ j < nd) (b2 : p2 = -1 ∨ ∃ j : Nat, p2 = (j : Int) ∧ j < nd) : ∃ w', (∀ F, fm_Program_markThings_l83 o oP cd (F + 1) (i : Int) w = fm_Program_markThings_l83 o oP cd F ((i : Int) - 1) w') ∧ pe_f2 o w w' ∧ ∀ j : Nat, w' (o + 24) j = if (j : Int) = p0 ∨ (j : Int) = p1 ∨ (j : Int) = p2 then 0 else w (o + 24) j := by
  obtain ⟨hsep, hk, hz, h23⟩ := E
  obtain ⟨he, ho, hp, hd⟩ := id hsep
  obtain ⟨r11, s11, m11⟩ := px_po_r11 ho
  have h100 := hz.2.2.2.2.2
  have hvo : px_vo oP w0 w := fun i j p q => hw i j (by omega)
  have N' := px_N_ob (o := oP) (fun i j p q => hw i j (by omega)) N
  obtain ⟨q1, q2, _⟩ := px_rd hp (px_pz_ob hz hvo) N' hi
  have lo : fm_Program_losesBody oP (i : Int) cd w = false := by
    unfold fm_Program_losesBody
    rw [show fr_at (fa_rf oP 0) (i : Int) w = (K : Int) from q1, show fr_at (fa_rf oP 1) (i : Int) w = (V : Int) from q2, pb_wr (by omega)]
    by_cases z : K = 5
    · obtain ⟨z1, z2⟩ := h5 z
      rw [if_pos (by omega), hk V w z1, z2]
      rfl
    · rw [if_neg (by omega)]
  have ex : ∀ F, ∃ w', fm_Program_markThings_l111 o oP cd (fun x3 w9 => fm_Program_markThings_l83 o oP cd F x3 w9) fa_FU (i : Int) 0 w = fm_Program_markThings_l83 o oP cd F ((i : Int) - 1) w' ∧ pe_f2 o w w' ∧ ∀ j : Nat, w' (o + 24) j = if (j : Int) = p0 ∨ (j : Int) = p1 ∨ (j : Int) = p2 then 0 else w (o + 24) j := fun F => by
    obtain ⟨z, hz4⟩ := pb_fu (n := 4) (by decide)
    rw [hz4]
    exact pe_111 (K := fun x3 w9 => fm_Program_markThings_l83 o oP cd F x3 w9) hsep (px_pz_ob hz hvo) hi ((hw _ _ (by omega)).trans h23) N'.2.2.2.2.1 N'.2.2.2.2.2.1 N'.2.2.2.2.2.2 b0 b1 b2 z
  obtain ⟨w', _, a2, a3⟩ := ex 0
  refine ⟨w', fun F => ?_, a2, a3⟩
  obtain ⟨w'', c1, c2, c3⟩ := ex F
  have same : w'' = w' := by
    funext x y
    by_cases e : x = o + 24
    · rw [e, c3, a3]
    · rw [c2 x y e, a2 x y e]
  rw [same] at c1
  show (if fa_wr (i : Int) < 0 then _ else _) = _
  rw [pb_wr (by omega), if_neg (by omega), r11, pb_at ((hw _ _ (by omega)).trans h23) hi (by rw [m11]; exact h100), s11, show o + 23 + 1 = o + 24 by omega, hm, if_neg (by decide), lo, if_neg (by decide)]
  exact c1
