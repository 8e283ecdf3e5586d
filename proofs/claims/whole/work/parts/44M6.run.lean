/-! THE FORM by the class: cases -/
theorem pw_fw_r {w0 w w' : fa_W} (e : pw_fw w0 w) (f : ∀ a j, a ≠ 3 → a ≠ 4 → a ≠ 42 → a ≠ 43 → w' a j = w a j) : pw_fw w0 w' := fun i j q1 q2 _ _ q5 q6 => (f i j q1 q2 q5 q6).trans (e i j q1 q2 ‹_› ‹_› q5 q6)
/-- all that a form's writer needs -/
def px_FO (sc sp : Nat) (gs : ps_G) (t : pt_T) (la li si nd mk CL : Nat) (ins os : List Nat) (fb : Nat → pt_T) (sb : pf_sT) (yv : Nat → Nat) (w0 : fa_W) : Prop := px_sK sc ∧ pn_V gs t la li si nd ∧ pf_G gs t la li si fb sb ∧ px_SC sc gs t la li si nd ins os fb sb mk w0 ∧ (∀ f, f < gs.length + la → (∀ v ∈ pd_fl f (fb f), pd_yq gs t v (yv v)) ∧ pd_yq gs t f (yv f)) ∧ (sp < 3 ∧ w0 37 4 = (sp : Int)) ∧ (CL < 2 ^ (gs.length + la) ∧ w0 (sc + 45) 6 = (CL : Int)) ∧ px_wP sc (sc + 1) nd (gs.length + la) si gs.length ins true (pw_D fb yv) (pw_A gs t fb sb la si mk sp) w0
theorem px_caseStart {sc sp f : Nat} {gs : ps_G} {t : pt_T} {la li si nd mk CL : Nat} {ins os : List Nat} {fb : Nat → pt_T} {sb : pf_sT} {yv : Nat → Nat} {l : List Nat} {w0 w : fa_W} (H : px_FO sc sp gs t la li si nd mk CL ins os fb sb yv w0) (hf : f < gs.length + la) (he : pw_fw w0 w) (b : Bool) {k : Nat} (hk : k < 100) (hR : px_RL 3 l w) (hl : l.length + ((if b = true then pw_tx 7 ++ (pw_nu k ++ pw_tx 8) else pw_tx 6) ++ (pw_D fb yv f ++ (pw_nm (yv f) ++ pw_tx 9))).length ≤ 6990) : ∃ w', fm_Writer_putCaseStart (sc + 1) (f : Int) (if b = true then (k : Int) else -1) w = some w' ∧ px_RL 3 (l ++ ((if b = true then pw_tx 7 ++ (pw_nu k ++ pw_tx 8) else pw_tx 6) ++ (pw_D fb yv f ++ (pw_nm (yv f) ++ pw_tx 9)))) w' ∧ pw_fw w0 w' := by
  obtain ⟨hsc, hV, hG, hX, hy, ⟨hsp, h37⟩, _, WP⟩ := H
  have sc54 : 54 < sc := by rcases hsc with h | h <;> omega
  obtain ⟨a1, _⟩ := px_sK_all hsc
  have v1 := hV.1
  have v2 := hV.2.1
  have j31 : ∀ (l1 : List Nat) (w1 : fa_W) (a3 : Int), pw_fw w0 w1 → px_RL 3 l1 w1 → l1.length + (pw_D fb yv f ++ (pw_nm (yv f) ++ pw_tx 9)).length ≤ 6990 → ∃ w', fm_Writer_putCaseStart_j31 (sc + 1) (f : Int) a3 w1 = some w' ∧ px_RL 3 (l1 ++ (pw_D fb yv f ++ (pw_nm (yv f) ++ pw_tx 9))) w' ∧ pw_fw w0 w' := fun l1 w1 a3 e1 R1 L1 => by
    simp only [List.length_append] at L1
    obtain ⟨w2, p1, p2, p3⟩ := (WP.2.2.2.2.2.2.2.2 rfl).1 f hf l1 w1 e1 R1 (by omega)
    have e2 := pw_fw_r e1 p3
    have X2 : px_SC sc gs t la li si nd ins os fb sb mk w2 := px_SC_ob hV (fun i j q1 q2 => e2 i j (by omega) (by omega) (by omega) (by omega) (by omega) (by omega)) hX
    have q := px_yq hV hG X2.1 (hy f hf).2
    have xf : px_xi ins f = f := by unfold px_xi; rw [if_pos (by omega)]
    rw [xf] at q
    have r6 := px_po_r6 a1
    have ea : fr_at (fa_rf (sc + 1) 6) (f : Int) w2 = (yv f : Int) := by
      rw [r6.1, pb_at (n := 74) X2.1.1.2.2.2.2.2.2.1 (by omega) (by rw [r6.2.2]; omega), r6.2.1]
      exact q.1
    obtain ⟨w3, q1, q2, q3⟩ := px_putName q.2.1 p2 (by rw [List.length_append]; omega)
    have e3 := pw_fw_r e2 (pw_fr_p q3)
    obtain ⟨w4, r1, r2, r3⟩ := px_putText 9 q2 (by simp only [List.length_append]; omega)
    refine ⟨w4, ?_, ?_, pw_fw_r e3 (pw_fr_p r3)⟩
    · unfold fm_Writer_putCaseStart_j31
      rw [p1, Option.bind_some, ea, q1, Option.bind_some, r1]
      rfl
    · rw [show l1 ++ (pw_D fb yv f ++ (pw_nm (yv f) ++ pw_tx 9)) = l1 ++ pw_D fb yv f ++ pw_nm (yv f) ++ pw_tx 9 by simp only [List.append_assoc]]
      exact r2
  cases b with
  | true =>
    rw [if_pos rfl] at hl ⊢
    rw [if_pos rfl]
    rw [List.length_append, List.length_append, List.length_append] at hl
    obtain ⟨w1, p1, p2, p3⟩ := px_putText 7 hR (by omega)
    have e1 := pw_fw_r he (pw_fr_p p3)
    obtain ⟨w2, q1, q2, q3⟩ := px_putNumber (v := k) (by omega) p2 (by rw [List.length_append]; omega)
    have e2 := pw_fw_r e1 (pw_fr_p q3)
    obtain ⟨w3, r1, r2, r3⟩ := px_putText 8 q2 (by simp only [List.length_append]; omega)
    have e3 := pw_fw_r e2 (pw_fr_p r3)
    obtain ⟨w4, s1, s2, s3⟩ := j31 _ w3 (k : Int) e3 r2 (by simp only [List.length_append] at hl ⊢; omega)
    refine ⟨w4, ?_, ?_, s3⟩
    · unfold fm_Writer_putCaseStart
      rw [pb_wr (by omega), if_neg (by omega), p1, Option.bind_some, q1, Option.bind_some, r1, Option.bind_some]
      exact s1
    · rw [show l ++ ((pw_tx 7 ++ (pw_nu k ++ pw_tx 8)) ++ (pw_D fb yv f ++ (pw_nm (yv f) ++ pw_tx 9))) = l ++ pw_tx 7 ++ pw_nu k ++ pw_tx 8 ++ (pw_D fb yv f ++ (pw_nm (yv f) ++ pw_tx 9)) by simp only [List.append_assoc]]
      exact s2
  | false =>
    rw [if_neg (by decide)] at hl ⊢
    rw [if_neg (by decide)]
    rw [List.length_append] at hl
    obtain ⟨w1, p1, p2, p3⟩ := px_putText 6 hR (by omega)
    have e1 := pw_fw_r he (pw_fr_p p3)
    obtain ⟨w4, s1, s2, s3⟩ := j31 _ w1 (-1) e1 p2 (by rw [List.length_append]; omega)
    refine ⟨w4, ?_, ?_, s3⟩
    · unfold fm_Writer_putCaseStart
      rw [pb_wr1, if_pos rfl, p1, Option.bind_some]
      exact s1
    · rw [show l ++ (pw_tx 6 ++ (pw_D fb yv f ++ (pw_nm (yv f) ++ pw_tx 9))) = l ++ pw_tx 6 ++ (pw_D fb yv f ++ (pw_nm (yv f) ++ pw_tx 9)) by simp only [List.append_assoc]]
      exact s2
/-- one case -/
theorem px_case {sc sp f : Nat} {gs : ps_G} {t : pt_T} {la li si nd mk CL : Nat} {ins os : List Nat} {fb : Nat → pt_T} {sb : pf_sT} {yv : Nat → Nat} {l : List Nat} {w0 w : fa_W} (H : px_FO sc sp gs t la li si nd mk CL ins os fb sb yv w0) (hf : f < gs.length + la) (he : pw_fw w0 w) (b : Bool) {k : Nat} (hk : k < 100) (hR : px_RL 3 l w) (hl : l.length + ((if b = true then pw_tx 7 ++ (pw_nu k ++ pw_tx 8) else pw_tx 6) ++ pw_c1 (pw_D fb yv) (fun f => pw_E gs t fb sb yv la si mk sp (fb f)) yv f).length ≤ 6990) {a2 : Int} {k48 : Int → Int → Int → fa_W → Option (Int × fa_W)} {c : Int} : ∃ w', fm_Writer_showForm_j92 sc a2 k48 (k : Int) c (f : Int) (if b = true then (k : Int) else -1) (f : Int) w = k48 (k : Int) c ((f + 1 : Nat) : Int) w' ∧ px_RL 3 (l ++ ((if b = true then pw_tx 7 ++ (pw_nu k ++ pw_tx 8) else pw_tx 6) ++ pw_c1 (pw_D fb yv) (fun f => pw_E gs t fb sb yv la si mk sp (fb f)) yv f)) w' ∧ pw_fw w0 w' := by
  obtain ⟨X, hXe⟩ : ∃ X, X = (if b = true then pw_tx 7 ++ (pw_nu k ++ pw_tx 8) else pw_tx 6) := ⟨_, rfl⟩
  have ex : X ++ pw_c1 (pw_D fb yv) (fun f => pw_E gs t fb sb yv la si mk sp (fb f)) yv f = X ++ (pw_D fb yv f ++ (pw_nm (yv f) ++ pw_tx 9)) ++ pw_E gs t fb sb yv la si mk sp (fb f) := by
    unfold pw_c1
    simp only [List.append_assoc]
  rw [← hXe, ex] at hl ⊢
  rw [List.length_append] at hl
  obtain ⟨w1, p1, p2, p3⟩ := px_caseStart (l := l) H hf he b hk hR (by rw [← hXe]; omega)
  rw [← hXe] at p2
  obtain ⟨hsc, hV, hG, hX, hy, ⟨hsp, h37⟩, _, WP⟩ := H
  have sc54 : 54 < sc := by rcases hsc with h | h <;> omega
  obtain ⟨a1, _, _, _, _, a6, _⟩ := px_sK_all hsc
  have v1 := hV.1
  have v2 := hV.2.1
  obtain ⟨cc, c1, c2, c3⟩ := (px_expr_at hV hG hX).1 f hf
  obtain ⟨gl, sco, g1, g2⟩ := pw_wfs hV hG hf
  obtain ⟨w2, q1, q2, q3⟩ := px_putExpr WP (by omega) (fb f) (hG.2.1 f) c3 c1 (hG.2.2.1 f hf).2.1 g1 g2 p3 p2 (by
    show _ + (pw_E gs t fb sb yv la si mk sp (fb f)).length ≤ 6990
    rw [List.length_append]
    omega)
  refine ⟨w2, ?_, ?_, q2⟩
  · unfold fm_Writer_showForm_j92
    have r9 := px_po_r9 a1
    have ea : fr_at (fa_rf (fa_rf sc 0) 9) (f : Int) w1 = ((cc + pt_sz (fb f) - 1 : Nat) : Int) := by
      have e := fun i j (q : 44 ≤ i) => p3 i j (by omega) (by omega) (by omega) (by omega) (by omega) (by omega)
      rw [a6, r9.1, pb_at (n := 24) (by rw [e _ _ (by omega)]; exact hX.1.1.2.2.2.2.2.2.2.2.2) (by omega) (by rw [r9.2.2]; omega), r9.2.1, e _ _ (by omega)]
      exact c2
    rw [a6] at ea ⊢
    rw [p1, Option.bind_some, ea, q1, Option.bind_some, pf_let_eq]
    rfl
  · rw [← List.append_assoc]
    exact q3
