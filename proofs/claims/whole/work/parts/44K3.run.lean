/-! the class's pieces -/
def px_wP (sc o nd nf ns G : Nat) (ins : List Nat) (fm : Bool) (D A : Nat → List Nat) (w0 : fa_W) : Prop := fa_rf sc 0 = o ∧ px_po o ∧ 43 < o ∧ px_pz o nd w0 ∧ (∀ v, px_xi ins v < 74) ∧ w0 (o + 13) 1 = ((74 : Nat) : Int) ∧ (G ≤ 6 ∧ w0 (o + 17) 1 = (G : Int)) ∧ (if fm = true then ∃ sp : Nat, sp < 3 ∧ w0 37 4 = (sp : Int) else w0 37 4 = -1) ∧ (fm = true → (∀ f, f < nf → ∀ (l : List Nat) (w : fa_W), pw_fw w0 w → px_RL 3 l w → l.length + (D f).length ≤ 6990 → ∃ w', fm_Writer_putData o (f : Int) w = some w' ∧ px_RL 3 (l ++ D f) w' ∧ ∀ a j, a ≠ 3 → a ≠ 4 → a ≠ 42 → a ≠ 43 → w' a j = w a j) ∧ ∀ s i : Nat, s < ns → w0 (o + 12) s = (i : Int) → ∀ (l : List Nat) (w : fa_W), pw_fw w0 w → px_RL 3 l w → l.length + (A s ++ pw_tx 14).length ≤ 6990 → ∃ w', fm_Writer_putSite sc (i : Int) 0 w = some w' ∧ px_RL 3 (l ++ (A s ++ pw_tx 14)) w' ∧ ∀ a j, a ≠ 3 → a ≠ 4 → a ≠ 42 → a ≠ 43 → w' a j = w a j)
theorem px_rdf {o nd : Nat} (hp : px_po o) (ho : 43 < o) {w0 w : fa_W} (e : pw_fw w0 w) (hz : px_pz o nd w0) {i K v st : Nat} {h a b c : Int} (N : px_N o w0 i K v h st a b c) (hi : i < nd) : fm_Program_kind o (i : Int) w = (K : Int) ∧ fm_Program_value o (i : Int) w = (v : Int) ∧ fm_Program_part o (i : Int) 0 w = a ∧ fm_Program_part o (i : Int) 1 w = b ∧ fm_Program_part o (i : Int) 2 w = c := by
  have e' : ∀ i j, 44 ≤ i → w i j = w0 i j := fun i j q => e i j (by omega) (by omega) (by omega) (by omega) (by omega) (by omega)
  have hz' : px_pz o nd w := by
    obtain ⟨z1, z2, z3, z4, z5, z6⟩ := hz
    refine ⟨?_, ?_, ?_, ?_, ?_, z6⟩
    all_goals (rw [e' _ _ (by omega)]; assumption)
  have N' := px_N_ob (o := o) (w := w0) (w' := w) (fun i j p q => e' i j (by omega)) N
  obtain ⟨r1, r2, r3, r4, r5, r6⟩ := px_rd hp hz' N' hi
  exact ⟨r1, r2, r4, r5, r6⟩
theorem pw_fr_p {w w' : fa_W} (h : pw_fr w w') : ∀ a j, a ≠ 3 → a ≠ 4 → a ≠ 42 → a ≠ 43 → w' a j = w a j := fun a j q1 q2 _ _ => h a j q1 q2
theorem px_pp_txt {sc i ph : Nat} {w0 : fa_W} (tx : Fin 35) (h : ∀ w, pw_fw w0 w → fm_Writer_putPiece sc (i : Int) (ph : Int) w = (fm_Writer_putText tx w).bind fun w1 => some w1) : px_pp sc i ph (pw_tx tx) w0 := fun l w hf hR hl => by
  obtain ⟨w', p1, p2, p3⟩ := px_putText tx hR (by omega)
  exact ⟨w', by rw [h w hf, p1]; rfl, p2, pw_fr_p p3⟩
theorem px_pp_nm {sc i ph x : Nat} {w0 : fa_W} (hx : pk_vw 4 x) (h : ∀ w, pw_fw w0 w → fm_Writer_putPiece sc (i : Int) (ph : Int) w = (fm_Writer_putName (x : Int) w).bind fun w1 => some w1) : px_pp sc i ph (pw_nm x) w0 := fun l w hf hR hl => by
  obtain ⟨w', p1, p2, p3⟩ := px_putName hx hR (by omega)
  exact ⟨w', by rw [h w hf, p1]; rfl, p2, pw_fr_p p3⟩
/-- a name between two texts -/
theorem px_tnt {l : List Nat} {w : fa_W} {x : Nat} {y : fa_W → Int} (t1 t2 : Fin 35) (hx : pk_vw 4 x) (hy : ∀ w', pw_fr w w' → y w' = (x : Int)) (hR : px_RL 3 l w) (hl : l.length + (pw_tx t1 ++ (pw_nm x ++ pw_tx t2)).length ≤ 6990) : ∃ w', ((fm_Writer_putText t1 w).bind fun w5 => (fm_Writer_putName (y w5) w5).bind fun w8 => (fm_Writer_putText t2 w8).bind fun w10 => some w10) = some w' ∧ px_RL 3 (l ++ (pw_tx t1 ++ (pw_nm x ++ pw_tx t2))) w' ∧ pw_fr w w' := by
  rw [List.length_append, List.length_append] at hl
  obtain ⟨w1, p1, p2, p3⟩ := px_putText t1 hR (by omega)
  obtain ⟨w2, q1, q2, q3⟩ := px_putName hx p2 (by rw [List.length_append]; omega)
  obtain ⟨w3, r1, r2, r3⟩ := px_putText t2 q2 (by rw [List.length_append, List.length_append]; omega)
  refine ⟨w3, ?_, ?_, pw_ftr p3 (pw_ftr q3 r3)⟩
  · rw [p1, Option.bind_some, hy w1 p3, q1, Option.bind_some, r1]
    rfl
  · rw [List.append_assoc, List.append_assoc] at r2
    exact r2
theorem px_nmat {o v x : Nat} {ins : List Nat} {w0 w : fa_W} (hp : px_po o) (ho : 43 < o) (hx : ∀ v, px_xi ins v < 74) (h13 : w0 (o + 13) 1 = ((74 : Nat) : Int)) (hv : w0 (o + 14) (px_xi ins v) = (x : Int)) (e : pw_fw w0 w) : fr_at (fa_rf o 6) ((px_xi ins v : Nat) : Int) w = (x : Int) := by
  obtain ⟨r1, r2, r3⟩ := px_po_r6 hp
  have e' : ∀ i j, 44 ≤ i → w i j = w0 i j := fun i j q => e i j (by omega) (by omega) (by omega) (by omega) (by omega) (by omega)
  rw [r1, pb_at (n := 74) (by rw [e' _ _ (by omega)]; exact h13) (hx v) (by omega), r2, e' _ _ (by omega)]
  exact hv
theorem px_gnat {o g x G : Nat} {w0 w : fa_W} (hp : px_po o) (ho : 43 < o) (hG : G ≤ 6) (hg : g < G) (h17 : w0 (o + 17) 1 = (G : Int)) (hv : w0 (o + 18) g = (x : Int)) (e : pw_fw w0 w) : fr_at (fa_rf o 8) (g : Int) w = (x : Int) := by
  obtain ⟨r1, r2, r3⟩ := px_po_r8 hp
  have e' : ∀ i j, 44 ≤ i → w i j = w0 i j := fun i j q => e i j (by omega) (by omega) (by omega) (by omega) (by omega) (by omega)
  rw [r1, pb_at (n := G) (by rw [e' _ _ (by omega)]; exact h17) hg (by omega), r2, e' _ _ (by omega)]
  exact hv
/-! the branch of a piece, by its kind -/
theorem px_pk_num {sc o : Nat} {i ph v : Int} {w : fa_W} (hsc : fa_rf sc 0 = o) (hk : fm_Program_kind o i w = ((1 : Nat) : Int)) (hv : fm_Program_value o i w = v) : fm_Writer_putPiece sc i ph w = (fm_Writer_putNumber v w).bind fun w6 => some w6 := by
  unfold fm_Writer_putPiece
  rw [hsc, pf_let_eq, hk, px_k1 (by omega), if_pos (by omega), hv]
theorem px_pk_var {sc o : Nat} {i ph v : Int} {w : fa_W} (hsc : fa_rf sc 0 = o) (hk : fm_Program_kind o i w = ((2 : Nat) : Int)) (hv : fm_Program_value o i w = v) : fm_Writer_putPiece sc i ph w = (fm_Writer_putName (fr_at (fa_rf o 6) v w) w).bind fun w6 => some w6 := by
  unfold fm_Writer_putPiece
  rw [hsc, pf_let_eq, hk, px_k1 (by omega), if_neg (by omega), if_pos (by omega), hv]
theorem px_pk_glo {sc o : Nat} {i ph v : Int} {w : fa_W} (hsc : fa_rf sc 0 = o) (hk : fm_Program_kind o i w = ((3 : Nat) : Int)) (hv : fm_Program_value o i w = v) : fm_Writer_putPiece sc i ph w = if fa_wr (w 37 4) = -1 then (fm_Writer_putName (fr_at (fa_rf o 8) v w) w).bind fun w6 => some w6 else (fm_Writer_putData o v w).bind fun w6 => some w6 := by
  unfold fm_Writer_putPiece
  rw [hsc, pf_let_eq, hk, px_k1 (by omega), if_neg (by omega), if_neg (by omega), if_pos (by omega), hv]
  by_cases z : fa_wr (w 37 4) = -1
  · rw [if_pos z, if_pos z, if_pos (by omega)]
  · rw [if_neg z, if_neg z]
theorem px_pk_lam {sc o : Nat} {i ph v : Int} {w : fa_W} (hsc : fa_rf sc 0 = o) (hk : fm_Program_kind o i w = ((5 : Nat) : Int)) (hv : fm_Program_value o i w = v) : fm_Writer_putPiece sc i ph w = if fa_wr (w 37 4) = -1 then (fm_Writer_putLambda o v ph w).bind fun w6 => some w6 else (fm_Writer_putData o v w).bind fun w6 => some w6 := by
  unfold fm_Writer_putPiece
  rw [hsc, pf_let_eq, hk, px_k1 (by omega), if_neg (by omega), if_neg (by omega), if_neg (by omega), if_pos (by omega), hv]
  by_cases z : fa_wr (w 37 4) = -1
  · rw [if_pos z, if_pos z, if_neg (by omega)]
  · rw [if_neg z, if_neg z]
theorem px_pk_ife {sc o : Nat} {i ph : Int} {w : fa_W} (hsc : fa_rf sc 0 = o) (hk : fm_Program_kind o i w = ((6 : Nat) : Int)) : fm_Writer_putPiece sc i ph w = (fm_Writer_putText (fm_Writer_choicePiece ph w) w).bind fun w6 => some w6 := by
  unfold fm_Writer_putPiece
  rw [hsc, pf_let_eq, hk, px_k1 (by omega), if_neg (by omega), if_neg (by omega), if_neg (by omega), if_neg (by omega), if_pos (by omega)]
theorem px_pk_let {sc o : Nat} {i ph v : Int} {w : fa_W} (hsc : fa_rf sc 0 = o) (hk : fm_Program_kind o i w = ((7 : Nat) : Int)) (hv : fm_Program_value o i w = v) : fm_Writer_putPiece sc i ph w = (fm_Writer_putLet o v ph w).bind fun w6 => some w6 := by
  unfold fm_Writer_putPiece
  rw [hsc, pf_let_eq, hk, px_k1 (by omega), if_neg (by omega), if_neg (by omega), if_neg (by omega), if_neg (by omega), if_neg (by omega), if_pos (by omega), hv]
theorem px_pk_op {sc o : Nat} {i ph v : Int} {w : fa_W} (hsc : fa_rf sc 0 = o) (hk : fm_Program_kind o i w = ((8 : Nat) : Int)) (hv : fm_Program_value o i w = v) : fm_Writer_putPiece sc i ph w = (fm_Writer_putOperator v ph w).bind fun w6 => some w6 := by
  unfold fm_Writer_putPiece
  rw [hsc, pf_let_eq, hk, px_k1 (by omega), if_neg (by omega), if_neg (by omega), if_neg (by omega), if_neg (by omega), if_neg (by omega), if_neg (by omega), if_pos (by omega), hv]
theorem px_pk_site {sc o : Nat} {i ph : Int} {w : fa_W} (hsc : fa_rf sc 0 = o) (hk : fm_Program_kind o i w = ((9 : Nat) : Int)) : fm_Writer_putPiece sc i ph w = (fm_Writer_putSite sc i ph w).bind fun w6 => some w6 := by
  unfold fm_Writer_putPiece
  rw [hsc, pf_let_eq, hk, px_k1 (by omega), if_neg (by omega), if_neg (by omega), if_neg (by omega), if_neg (by omega), if_neg (by omega), if_neg (by omega), if_neg (by omega), if_pos (by omega)]
theorem px_pk_dead {sc o : Nat} {i ph : Int} {w : fa_W} (hsc : fa_rf sc 0 = o) (hk : fm_Program_kind o i w = ((4 : Nat) : Int)) : fm_Writer_putPiece sc i ph w = (fm_Writer_putText (10 : Fin 35) w).bind fun w6 => some w6 := by
  unfold fm_Writer_putPiece
  rw [hsc, pf_let_eq, hk, px_k1 (by omega), if_neg (by omega), if_neg (by omega), if_neg (by omega), if_neg (by omega), if_neg (by omega), if_neg (by omega), if_neg (by omega), if_neg (by omega)]
theorem px_nextP {o K : Nat} {i ph p : Int} {w : fa_W} (hk : fm_Program_kind o i w = (K : Int)) (hK : K < 10) (hp : fm_Program_part o i ph w = p) (h : K ≠ 5 ∨ fa_wr (w 37 4) = -1) : fm_Writer_nextPart o i ph w = p := by
  unfold fm_Writer_nextPart fm_Writer_nextPart_j21 fm_Writer_nextPart_j22
  rw [hp, hk, px_k1 (by omega)]
  by_cases z : fa_wr (w 37 4) = -1
  · rw [if_pos z, if_neg (by decide)]
  · rw [if_neg z]
    rcases h with h | h
    · rw [if_neg (by omega), if_neg (by decide)]
    · exact (z h).elim
theorem px_nextD {o : Nat} {i ph : Int} {w : fa_W} (hk : fm_Program_kind o i w = ((5 : Nat) : Int)) (h : fa_wr (w 37 4) ≠ -1) : fm_Writer_nextPart o i ph w = -1 := by
  unfold fm_Writer_nextPart fm_Writer_nextPart_j22
  rw [hk, px_k1 (by omega), if_neg h, if_pos (by omega), if_pos rfl]
theorem px_part3 (o : Nat) (i : Int) (w : fa_W) : fm_Program_part o i 3 w = -1 := by
  unfold fm_Program_part
  rw [if_neg (by decide), if_pos (by decide)]
