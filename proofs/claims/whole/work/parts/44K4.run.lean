/-! the class writes an EXPR -/
def px_wQ (sc : Nat) (a2 : Int) (w0 : fa_W) (K T : Nat) (l bs : List Nat) (w : fa_W) : Prop := ∃ k w', k ≤ K ∧ px_wg sc a2 k w w' ∧ pw_fw w0 w' ∧ px_RL 3 (l ++ bs) w' ∧ w' 38 1 = (T : Int) ∧ ∀ j, j < T → w' 39 j = w 39 j
def px_wW (w0 : fa_W) (T : Nat) (l : List Nat) (i ph : Nat) (w : fa_W) : Prop := pw_fw w0 w ∧ px_RL 3 l w ∧ w 38 1 = ((T + 1 : Nat) : Int) ∧ w 39 T = ((i * 4 + ph : Nat) : Int)
theorem px_wend {sc o i ph T : Nat} {a2 : Int} {bs l : List Nat} {w0 w : fa_W} (hsc : fa_rf sc 0 = o) (h : px_wW w0 T l i ph w) (hl : l.length + bs.length ≤ 6990) (hT2 : T ≤ 1000) (hph : ph < 4) (hi : i < 100) (hp : px_pp sc i ph bs w0) (hn : ∀ w1 : fa_W, pw_fw w0 w1 → fm_Writer_nextPart o (i : Int) (ph : Int) w1 = -1) : px_wQ sc a2 w0 1 T l bs w := by
  obtain ⟨h1, h2, h3, h4⟩ := h
  obtain ⟨w1, g1, g2, g3, g4, _⟩ := px_wround (a2 := a2) hsc h1 h2 hl h3 (by omega) h4 hph hi hp hn
  exact ⟨1, w1, Nat.le_refl _, (g4 rfl).1, g1, g2, (g4 rfl).2, g3⟩
theorem px_wpart {sc o i ph T q K : Nat} {a2 : Int} {bs bq l : List Nat} {w0 w : fa_W} (hsc : fa_rf sc 0 = o) (h : px_wW w0 T l i ph w) (hl : l.length + (bs ++ bq).length ≤ 6990) (hT2 : T ≤ 1000) (hph : ph < 4) (hi : i < 100) (hq : q < 100) (hp : px_pp sc i ph bs w0) (hn : ∀ w1 : fa_W, pw_fw w0 w1 → fm_Writer_nextPart o (i : Int) (ph : Int) w1 = (q : Int)) (hQ : ∀ (l1 : List Nat) (w1 : fa_W), px_wW w0 (T + 1) l1 q 0 w1 → l1.length + bq.length ≤ 6990 → px_wQ sc a2 w0 K (T + 1) l1 bq w1) : ∃ k w2, k ≤ K + 1 ∧ px_wg sc a2 k w w2 ∧ px_wW w0 T (l ++ (bs ++ bq)) i (ph + 1) w2 ∧ ∀ j, j < T → w2 39 j = w 39 j := by
  obtain ⟨h1, h2, h3, h4⟩ := h
  rw [List.length_append] at hl
  obtain ⟨w1, g1, g2, g3, _, g5⟩ := px_wround (a2 := a2) hsc h1 h2 (by omega) h3 (by omega) h4 hph hi hp hn
  obtain ⟨e1, e2, e3, e4⟩ := g5 q hq rfl
  obtain ⟨k, w2, k1, k2, k3, k4, k5, k6⟩ := hQ (l ++ bs) w1 ⟨g1, g2, e2, by rw [e4]; rfl⟩ (by rw [List.length_append]; omega)
  refine ⟨1 + k, w2, by omega, px_wg_tr e1 k2, ⟨k3, by rw [← List.append_assoc]; exact k4, k5, by rw [k6 T (by omega)]; exact e3⟩, fun j hj => (k6 j (by omega)).trans (g3 j hj)⟩
theorem px_wQ_mono {sc : Nat} {a2 : Int} {w0 : fa_W} {K K' T : Nat} {l bs : List Nat} {w : fa_W} (h : K ≤ K') (q : px_wQ sc a2 w0 K T l bs w) : px_wQ sc a2 w0 K' T l bs w := by
  obtain ⟨k, w', k1, k2⟩ := q
  exact ⟨k, w', by omega, k2⟩
theorem px_wQ_pre {sc : Nat} {a2 : Int} {w0 : fa_W} {k K T : Nat} {l b1 b2 : List Nat} {w w1 : fa_W} (g : px_wg sc a2 k w w1) (e : ∀ j, j < T → w1 39 j = w 39 j) (q : px_wQ sc a2 w0 K T (l ++ b1) b2 w1) : px_wQ sc a2 w0 (k + K) T l (b1 ++ b2) w := by
  obtain ⟨m, w', k1, k2, k3, k4, k5, k6⟩ := q
  exact ⟨k + m, w', by omega, px_wg_tr g k2, k3, by rw [← List.append_assoc]; exact k4, k5, fun j hj => (k6 j hj).trans (e j hj)⟩
theorem px_we {sc o nd nf nv ns G : Nat} {a2 : Int} {ins : List Nat} {fm : Bool} {D A : Nat → List Nat} {w0 : fa_W} (hX : px_wP sc o nd nf ns G ins fm D A w0) (h24 : nf ≤ 24) (t : pt_T) (tt : pt_tw t) : ∀ (hh : Int) (p : Nat) (gl : List Nat) (sco : List (Nat × Nat)) (l : List Nat) (T : Nat) (w : fa_W), px_P o ins t hh p w0 → p + pt_sz t ≤ nd → pf_W nf nv ns t → pk_wfs t gl sco → gl.length ≤ G → px_wW w0 T l (p + pt_sz t - 1) 0 w → T + pt_sz t ≤ 1000 → l.length + (pw_t fm D A (fun _ => true) t).length ≤ 6990 → px_wQ sc a2 w0 (4 * pt_sz t) T l (pw_t fm D A (fun _ => true) t) w := by
  obtain ⟨hsc, hp, ho, hz, hxi, h13, ⟨hG6, h17⟩, hmd, hDA⟩ := id hX
  have nd100 : nd ≤ 100 := hz.2.2.2.2.2
  have rd : ∀ (w1 : fa_W), pw_fw w0 w1 → ∀ {i K v st : Nat} {h a b c : Int}, px_N o w0 i K v h st a b c → i < nd → fm_Program_kind o (i : Int) w1 = (K : Int) ∧ fm_Program_value o (i : Int) w1 = (v : Int) ∧ fm_Program_part o (i : Int) 0 w1 = a ∧ fm_Program_part o (i : Int) 1 w1 = b ∧ fm_Program_part o (i : Int) 2 w1 = c := fun w1 e i K v st h a b c N hi => px_rdf hp ho e hz N hi
  have md0 : fm = false → ∀ w1, pw_fw w0 w1 → fa_wr (w1 37 4) = -1 := fun z w1 e => by
    rw [z, if_neg (by decide)] at hmd
    rw [e _ _ (by omega) (by omega) (by omega) (by omega) (by omega) (by omega), hmd]
    exact pb_wr1
  have md1 : fm = true → ∀ w1, pw_fw w0 w1 → fa_wr (w1 37 4) ≠ -1 := fun z w1 e => by
    rw [z, if_pos rfl] at hmd
    obtain ⟨sp, s1, s2⟩ := hmd
    rw [e _ _ (by omega) (by omega) (by omega) (by omega) (by omega) (by omega), s2, pb_wr (by omega)]
    omega
  have nxt : ∀ {i K v st : Nat} {h a b c : Int}, px_N o w0 i K v h st a b c → i < nd → K < 10 → (K ≠ 5 ∨ fm = false) → ∀ w1, pw_fw w0 w1 → fm_Writer_nextPart o (i : Int) ((0 : Nat) : Int) w1 = a ∧ fm_Writer_nextPart o (i : Int) ((1 : Nat) : Int) w1 = b ∧ fm_Writer_nextPart o (i : Int) ((2 : Nat) : Int) w1 = c ∧ fm_Writer_nextPart o (i : Int) ((3 : Nat) : Int) w1 = -1 := fun {i K v st h a b c} N hi hK h5 w1 e => by
    have q := rd w1 e N hi
    have h5' : K ≠ 5 ∨ fa_wr (w1 37 4) = -1 := by
      rcases h5 with z | z
      · exact Or.inl z
      · exact Or.inr (md0 z w1 e)
    exact ⟨px_nextP q.1 hK q.2.2.1 h5', px_nextP q.1 hK q.2.2.2.1 h5', px_nextP q.1 hK q.2.2.2.2 h5', px_nextP q.1 hK (px_part3 o _ w1) h5'⟩
  induction t, tt using pt_indh with
  | num v =>
    intro hh p gl sco l T w H hnd hW hwf hgl hw hT hl
    have e2 : pt_sz (pt_num v) = 1 := rfl
    have hv : v ≤ 9999 := hwf
    refine px_wQ_mono (by omega) (px_wend hsc hw hl (by omega) (by omega) (by omega) (fun l1 w1 f1 R1 b1 => ?_) (fun w1 e => (nxt H (by omega) (by omega) (Or.inl (by omega)) w1 e).1))
    obtain ⟨w2, q1, q2, q3⟩ := px_putNumber (v := v) hv R1 (by have : pw_t fm D A (fun _ => true) (pt_num v) = pw_nu v := rfl; have := (pw_nu_len v).1; omega)
    have k := rd w1 f1 H (by omega)
    exact ⟨w2, by rw [e2]; exact (px_pk_num hsc k.1 k.2.1).trans (by rw [q1]; rfl), q2, pw_fr_p q3⟩
  | var v x =>
    intro hh p gl sco l T w H hnd hW hwf hgl hw hT hl
    have e2 : pt_sz (pt_var v x) = 1 := rfl
    refine px_wQ_mono (by omega) (px_wend hsc hw hl (by omega) (by omega) (by omega) (px_pp_nm hwf.2.1 (fun w1 f1 => ?_)) (fun w1 e => (nxt H.1 (by omega) (by omega) (Or.inl (by omega)) w1 e).1))
    have k := rd w1 f1 H.1 (by omega)
    have := px_pk_var (ph := ((0 : Nat) : Int)) hsc k.1 k.2.1
    rw [px_nmat hp ho hxi h13 H.2 f1] at this
    rw [e2]
    exact this
  | glo g x =>
    intro hh p gl sco l T w H hnd hW hwf hgl hw hT hl
    have e2 : pt_sz (pt_glo g x) = 1 := rfl
    have gG := ps_gx_mem gl x 0 g hwf.2.1
    have ebs : pw_t fm D A (fun _ => true) (pt_glo g x) = if fm = true then D g else pw_nm x := rfl
    rw [ebs] at hl ⊢
    refine px_wQ_mono (by omega) (px_wend hsc hw hl (by omega) (by omega) (by omega) ?_ (fun w1 e => (nxt H.1 (by omega) (by omega) (Or.inl (by omega)) w1 e).1))
    by_cases z : fm = true
    · rw [if_pos z] at hl ⊢
      intro l1 w1 f1 R1 b1
      have k := rd w1 f1 H.1 (by omega)
      obtain ⟨w2, q1, q2, q3⟩ := (hDA z).1 g hW l1 w1 f1 R1 b1
      refine ⟨w2, ?_, q2, q3⟩
      have := px_pk_glo (ph := ((0 : Nat) : Int)) hsc k.1 k.2.1
      rw [if_neg (md1 z w1 f1), q1] at this
      rw [e2]
      exact this
    · rw [if_neg z] at hl ⊢
      have zf : fm = false := by cases fm with | true => exact (z rfl).elim | false => rfl
      refine px_pp_nm hwf.2.2.1 (fun w1 f1 => ?_)
      have k := rd w1 f1 H.1 (by omega)
      have := px_pk_glo (ph := ((0 : Nat) : Int)) hsc k.1 k.2.1
      rw [if_pos (md0 zf w1 f1), px_gnat hp ho hG6 (by omega) h17 H.2 f1] at this
      rw [e2]
      exact this
  | dead d =>
    intro hh p gl sco l T w H hnd hW hwf hgl hw hT hl
    have e2 : pt_sz (pt_dead d) = 1 := rfl
    refine px_wQ_mono (by omega) (px_wend hsc hw hl (by omega) (by omega) (by omega) (px_pp_txt 10 (fun w1 f1 => ?_)) (fun w1 e => (nxt H (by omega) (by omega) (Or.inl (by omega)) w1 e).1))
    have k := rd w1 f1 H (by omega)
    rw [e2]
    exact px_pk_dead hsc k.1
  | lam f x b tb ih =>
    intro hh p gl sco l T w H hnd hW hwf hgl hw hT hl
    obtain ⟨Hb, N, n1, n2, n3⟩ := H
    have e2 : pt_sz (pt_lam f x b) = pt_sz b + 1 := rfl
    have pb := pt_sz_pos b
    rw [e2] at hnd hw hT ⊢
    have ei : p + (pt_sz b + 1) - 1 = p + pt_sz b := by omega
    rw [ei] at hw
    have ebs : pw_t fm D A (fun _ => true) (pt_lam f x b) = if fm = true then D f else pw_tx 11 ++ (pw_nm x ++ (pw_tx 9 ++ (pw_t fm D A (fun _ => true) b ++ pw_tx 12))) := rfl
    rw [ebs] at hl ⊢
    by_cases z : fm = true
    · rw [if_pos z] at hl ⊢
      refine px_wQ_mono (by omega) (px_wend hsc hw hl (by omega) (by omega) (by omega) (fun l1 w1 f1 R1 b1 => ?_) (fun w1 e => px_nextD (rd w1 e N (by omega)).1 (md1 z w1 e)))
      have k := rd w1 f1 N (by omega)
      obtain ⟨w2, q1, q2, q3⟩ := (hDA z).1 f hW.1 l1 w1 f1 R1 b1
      refine ⟨w2, ?_, q2, q3⟩
      have := px_pk_lam (ph := ((0 : Nat) : Int)) hsc k.1 k.2.1
      rw [if_neg (md1 z w1 f1), q1] at this
      exact this
    · rw [if_neg z] at hl ⊢
      have zf : fm = false := by cases fm with | true => exact (z rfl).elim | false => rfl
      have eb : pw_tx 11 ++ (pw_nm x ++ (pw_tx 9 ++ (pw_t fm D A (fun _ => true) b ++ pw_tx 12))) = ((pw_tx 11 ++ (pw_nm x ++ pw_tx 9)) ++ pw_t fm D A (fun _ => true) b) ++ pw_tx 12 := by simp only [List.append_assoc]
      rw [eb] at hl ⊢
      rw [List.length_append] at hl
      have nx := fun w1 e => nxt N (by omega) (by omega) (Or.inr zf) w1 e
      have hf24 : px_xi ins f < 74 := hxi f
      have hpp : px_pp sc (p + pt_sz b) 0 (pw_tx 11 ++ (pw_nm x ++ pw_tx 9)) w0 := fun l1 w1 f1 R1 b1 => by
        have k := rd w1 f1 N (by omega)
        have hat : ∀ w2, pw_fr w1 w2 → fr_at (fa_rf o 6) (f : Int) w2 = (x : Int) := fun w2 g2 => by
          obtain ⟨r1, r2, r3⟩ := px_po_r6 hp
          have e' : ∀ i j, 44 ≤ i → w2 i j = w0 i j := fun i j q => (g2 i j (by omega) (by omega)).trans (f1 i j (by omega) (by omega) (by omega) (by omega) (by omega) (by omega))
          rw [r1, pb_at (n := 74) (by rw [e' _ _ (by omega)]; exact h13) (by have := hX; have hff := hW.1; omega) (by omega), r2, e' _ _ (by omega)]
          exact n1
        obtain ⟨w2, q1, q2, q3⟩ := px_tnt (y := fun w2 => fr_at (fa_rf o 6) (f : Int) w2) 11 9 hwf.1.1 hat R1 b1
        refine ⟨w2, ?_, q2, pw_fr_p q3⟩
        have := px_pk_lam (ph := ((0 : Nat) : Int)) hsc k.1 k.2.1
        rw [if_pos (md0 zf w1 f1)] at this
        refine this.trans ?_
        unfold fm_Writer_putLambda
        rw [if_pos (by decide), q1]
        rfl
      obtain ⟨k1, w1, a1, a2', a3, a4⟩ := px_wpart (a2 := a2) (q := p + pt_sz b - 1) (K := 4 * pt_sz b) hsc hw (by omega) (by omega) (by omega) (by omega) (by omega) hpp (fun w1 e => (nx w1 e).1) (fun l1 w1 hw1 hl1 => ih (f : Int) p gl _ l1 (T + 1) w1 Hb (by omega) hW.2 hwf.2 hgl hw1 (by omega) hl1)
      have Q := px_wend (a2 := a2) (bs := pw_tx 12) hsc a3 (by rw [List.length_append]; omega) (by omega) (by omega) (by omega) (px_pp_txt 12 (fun w1 f1 => by
        have k := rd w1 f1 N (by omega)
        have := px_pk_lam (ph := ((1 : Nat) : Int)) hsc k.1 k.2.1
        rw [if_pos (md0 zf w1 f1)] at this
        refine this.trans ?_
        unfold fm_Writer_putLambda
        rw [if_neg (by decide)]
        cases fm_Writer_putText 12 w1 <;> rfl)) (fun w1 e => (nx w1 e).2.1)
      exact px_wQ_mono (by omega) (px_wQ_pre a2' a4 Q)
  | ife a b c ta tb tc iha ihb ihc =>
    intro hh p gl sco l T w H hnd hW hwf hgl hw hT hl
    obtain ⟨Ha, Hb, Hc, N⟩ := H
    have e2 : pt_sz (pt_ife a b c) = pt_sz a + pt_sz b + pt_sz c + 1 := rfl
    have pa := pt_sz_pos a
    have pb := pt_sz_pos b
    have pc := pt_sz_pos c
    rw [e2] at hnd hw hT ⊢
    have ei : p + (pt_sz a + pt_sz b + pt_sz c + 1) - 1 = p + pt_sz a + pt_sz b + pt_sz c := by omega
    rw [ei] at hw
    have ebs : pw_t fm D A (fun _ => true) (pt_ife a b c) = ((pw_tx 16 ++ pw_t fm D A (fun _ => true) a) ++ ((pw_tx 17 ++ pw_t fm D A (fun _ => true) b) ++ (pw_tx 18 ++ pw_t fm D A (fun _ => true) c))) ++ pw_tx 12 := by
      show pw_tx 16 ++ (_ ++ (pw_tx 17 ++ (_ ++ (pw_tx 18 ++ (_ ++ pw_tx 12))))) = _
      simp only [List.append_assoc]
      rfl
    rw [ebs] at hl ⊢
    simp only [List.length_append] at hl
    have nx := fun w1 e => nxt N (by omega) (by omega) (Or.inl (by omega)) w1 e
    have pk : ∀ (ph : Nat) (tx : Fin 35), (∀ w1, fm_Writer_choicePiece (ph : Int) w1 = tx) → px_pp sc (p + pt_sz a + pt_sz b + pt_sz c) ph (pw_tx tx) w0 := fun ph tx htx => px_pp_txt tx (fun w1 f1 => by
      have k := rd w1 f1 N (by omega)
      rw [px_pk_ife hsc k.1, htx])
    obtain ⟨k1, w1, a1, a2', a3, a4⟩ := px_wpart (a2 := a2) (q := p + pt_sz a - 1) (K := 4 * pt_sz a) (bq := pw_t fm D A (fun _ => true) a) hsc hw (by rw [List.length_append]; omega) (by omega) (by omega) (by omega) (by omega) (pk 0 16 (fun _ => rfl)) (fun w1 e => (nx w1 e).1) (fun l1 w1 hw1 hl1 => iha hh p gl _ l1 (T + 1) w1 Ha (by omega) hW.1 hwf.1 hgl hw1 (by omega) hl1)
    obtain ⟨k2, w2, b1, b2, b3, b4⟩ := px_wpart (a2 := a2) (q := p + pt_sz a + pt_sz b - 1) (K := 4 * pt_sz b) (bq := pw_t fm D A (fun _ => true) b) hsc a3 (by simp only [List.length_append]; omega) (by omega) (by omega) (by omega) (by omega) (pk 1 17 (fun _ => rfl)) (fun w1 e => (nx w1 e).2.1) (fun l1 w1 hw1 hl1 => ihb hh (p + pt_sz a) gl _ l1 (T + 1) w1 Hb (by omega) hW.2.1 hwf.2.1 hgl hw1 (by omega) hl1)
    obtain ⟨k3, w3, c1, c2, c3, c4⟩ := px_wpart (a2 := a2) (q := p + pt_sz a + pt_sz b + pt_sz c - 1) (K := 4 * pt_sz c) (bq := pw_t fm D A (fun _ => true) c) hsc b3 (by simp only [List.length_append]; omega) (by omega) (by omega) (by omega) (by omega) (pk 2 18 (fun _ => rfl)) (fun w1 e => (nx w1 e).2.2.1) (fun l1 w1 hw1 hl1 => ihc hh (p + pt_sz a + pt_sz b) gl _ l1 (T + 1) w1 Hc (by omega) hW.2.2 hwf.2.2 hgl hw1 (by omega) hl1)
    have Q := px_wend (a2 := a2) (bs := pw_tx 12) hsc c3 (by simp only [List.length_append]; omega) (by omega) (by omega) (by omega) (pk 3 12 (fun _ => rfl)) (fun w1 e => (nx w1 e).2.2.2)
    have Q2 := px_wQ_pre c2 c4 Q
    have Q3 := px_wQ_pre b2 b4 Q2
    have Q4 := px_wQ_pre a2' a4 Q3
    refine px_wQ_mono ?_ (by rw [show ((pw_tx 16 ++ pw_t fm D A (fun _ => true) a) ++ ((pw_tx 17 ++ pw_t fm D A (fun _ => true) b) ++ (pw_tx 18 ++ pw_t fm D A (fun _ => true) c))) ++ pw_tx 12 = (pw_tx 16 ++ pw_t fm D A (fun _ => true) a) ++ ((pw_tx 17 ++ pw_t fm D A (fun _ => true) b) ++ ((pw_tx 18 ++ pw_t fm D A (fun _ => true) c) ++ pw_tx 12)) by simp only [List.append_assoc]]; exact Q4)
    omega
  | lt u x a b ta tb iha ihb =>
    intro hh p gl sco l T w H hnd hW hwf hgl hw hT hl
    obtain ⟨Ha, Hb, N, n1, n2⟩ := H
    have e2 : pt_sz (pt_let u x a b) = pt_sz a + pt_sz b + 1 := rfl
    have pa := pt_sz_pos a
    have pb := pt_sz_pos b
    rw [e2] at hnd hw hT ⊢
    have ei : p + (pt_sz a + pt_sz b + 1) - 1 = p + pt_sz a + pt_sz b := by omega
    rw [ei] at hw
    have ebs : pw_t fm D A (fun _ => true) (pt_let u x a b) = ((pw_tx 19 ++ (pw_nm x ++ pw_tx 2)) ++ pw_t fm D A (fun _ => true) a) ++ ((pw_tx 20 ++ pw_t fm D A (fun _ => true) b) ++ pw_tx 12) := by
      show pw_tx 19 ++ (pw_nm x ++ (pw_tx 2 ++ (_ ++ (pw_tx 20 ++ (_ ++ pw_tx 12))))) = _
      simp only [List.append_assoc]
      rfl
    rw [ebs] at hl ⊢
    simp only [List.length_append] at hl
    have nx := fun w1 e => nxt N (by omega) (by omega) (Or.inl (by omega)) w1 e
    have hpp : px_pp sc (p + pt_sz a + pt_sz b) 0 (pw_tx 19 ++ (pw_nm x ++ pw_tx 2)) w0 := fun l1 w1 f1 R1 b1 => by
      have k := rd w1 f1 N (by omega)
      have hat : ∀ w2, pw_fr w1 w2 → fr_at (fa_rf o 6) ((px_xi ins u : Nat) : Int) w2 = (x : Int) := fun w2 g2 => px_nmat hp ho hxi h13 n1 (fun i j q1 q2 q3 q4 q5 q6 => (g2 i j q1 q2).trans (f1 i j q1 q2 q3 q4 q5 q6))
      obtain ⟨w2, q1, q2, q3⟩ := px_tnt (y := fun w2 => fr_at (fa_rf o 6) ((px_xi ins u : Nat) : Int) w2) 19 2 hwf.1.1 hat R1 b1
      refine ⟨w2, ?_, q2, pw_fr_p q3⟩
      refine (px_pk_let (ph := ((0 : Nat) : Int)) hsc k.1 k.2.1).trans ?_
      unfold fm_Writer_putLet
      rw [if_pos (by decide), q1]
      rfl
    have pk : ∀ (ph : Nat) (tx : Fin 35), (∀ v w1, fm_Writer_putLet o v (ph : Int) w1 = (fm_Writer_putText tx w1).bind fun w4 => some w4) → px_pp sc (p + pt_sz a + pt_sz b) ph (pw_tx tx) w0 := fun ph tx htx => px_pp_txt tx (fun w1 f1 => by
      have k := rd w1 f1 N (by omega)
      rw [px_pk_let hsc k.1 k.2.1, htx]
      cases fm_Writer_putText tx w1 <;> rfl)
    obtain ⟨k1, w1, a1, a2', a3, a4⟩ := px_wpart (a2 := a2) (q := p + pt_sz a - 1) (K := 4 * pt_sz a) (bq := pw_t fm D A (fun _ => true) a) hsc hw (by simp only [List.length_append]; omega) (by omega) (by omega) (by omega) (by omega) hpp (fun w1 e => (nx w1 e).1) (fun l1 w1 hw1 hl1 => iha hh p gl _ l1 (T + 1) w1 Ha (by omega) hW.2.1 hwf.2.1 hgl hw1 (by omega) hl1)
    obtain ⟨k2, w2, b1, b2, b3, b4⟩ := px_wpart (a2 := a2) (q := p + pt_sz a + pt_sz b - 1) (K := 4 * pt_sz b) (bq := pw_t fm D A (fun _ => true) b) hsc a3 (by simp only [List.length_append]; omega) (by omega) (by omega) (by omega) (by omega) (pk 1 20 (fun v w1 => rfl)) (fun w1 e => (nx w1 e).2.1) (fun l1 w1 hw1 hl1 => ihb hh (p + pt_sz a) gl _ l1 (T + 1) w1 Hb (by omega) hW.2.2 hwf.2.2 hgl hw1 (by omega) hl1)
    have Q := px_wend (a2 := a2) (bs := pw_tx 12) hsc b3 (by simp only [List.length_append]; omega) (by omega) (by omega) (by omega) (pk 2 12 (fun v w1 => rfl)) (fun w1 e => (nx w1 e).2.2.1)
    exact px_wQ_mono (by omega) (px_wQ_pre a2' a4 (px_wQ_pre b2 b4 Q))
  | op s a b ta tb iha ihb =>
    intro hh p gl sco l T w H hnd hW hwf hgl hw hT hl
    obtain ⟨Ha, Hb, N⟩ := H
    have e2 : pt_sz (pt_op s a b) = pt_sz a + pt_sz b + 1 := rfl
    have pa := pt_sz_pos a
    have pb := pt_sz_pos b
    rw [e2] at hnd hw hT ⊢
    have ei : p + (pt_sz a + pt_sz b + 1) - 1 = p + pt_sz a + pt_sz b := by omega
    rw [ei] at hw
    have ebs : pw_t fm D A (fun _ => true) (pt_op s a b) = (pw_tx 14 ++ pw_t fm D A (fun _ => true) a) ++ (([s] ++ pw_t fm D A (fun _ => true) b) ++ pw_tx 12) := by
      show pw_tx 14 ++ (_ ++ ([s] ++ (_ ++ pw_tx 12))) = _
      simp only [List.append_assoc]
      rfl
    rw [ebs] at hl ⊢
    simp only [List.length_append] at hl
    have nx := fun w1 e => nxt N (by omega) (by omega) (Or.inl (by omega)) w1 e
    have pk : ∀ (ph : Nat) (tx : Fin 35), (∀ v w1, fm_Writer_putOperator v (ph : Int) w1 = (fm_Writer_putText tx w1).bind fun w4 => some w4) → px_pp sc (p + pt_sz a + pt_sz b) ph (pw_tx tx) w0 := fun ph tx htx => px_pp_txt tx (fun w1 f1 => by
      have k := rd w1 f1 N (by omega)
      rw [px_pk_op hsc k.1 k.2.1, htx]
      cases fm_Writer_putText tx w1 <;> rfl)
    have hpp : px_pp sc (p + pt_sz a + pt_sz b) 1 [s] w0 := fun l1 w1 f1 R1 b1 => by
      have k := rd w1 f1 N (by omega)
      obtain ⟨q2, q3⟩ := px_say R1 (by rw [List.length_singleton] at b1; omega) s
      refine ⟨_, ?_, q2, pw_fr_p q3⟩
      refine (px_pk_op (ph := ((1 : Nat) : Int)) hsc k.1 k.2.1).trans ?_
      unfold fm_Writer_putOperator
      rw [if_pos (by decide)]
      rfl
    obtain ⟨k1, w1, a1, a2', a3, a4⟩ := px_wpart (a2 := a2) (q := p + pt_sz a - 1) (K := 4 * pt_sz a) (bq := pw_t fm D A (fun _ => true) a) hsc hw (by simp only [List.length_append]; omega) (by omega) (by omega) (by omega) (by omega) (pk 0 14 (fun v w1 => rfl)) (fun w1 e => (nx w1 e).1) (fun l1 w1 hw1 hl1 => iha hh p gl _ l1 (T + 1) w1 Ha (by omega) hW.1 hwf.2.1 hgl hw1 (by omega) hl1)
    obtain ⟨k2, w2, b1, b2, b3, b4⟩ := px_wpart (a2 := a2) (q := p + pt_sz a + pt_sz b - 1) (K := 4 * pt_sz b) (bq := pw_t fm D A (fun _ => true) b) hsc a3 (by simp only [List.length_append]; omega) (by omega) (by omega) (by omega) (by omega) hpp (fun w1 e => (nx w1 e).2.1) (fun l1 w1 hw1 hl1 => ihb hh (p + pt_sz a) gl _ l1 (T + 1) w1 Hb (by omega) hW.2 hwf.2.2 hgl hw1 (by omega) hl1)
    have Q := px_wend (a2 := a2) (bs := pw_tx 12) hsc b3 (by simp only [List.length_append]; omega) (by omega) (by omega) (by omega) (pk 2 12 (fun v w1 => rfl)) (fun w1 e => (nx w1 e).2.2.1)
    exact px_wQ_mono (by omega) (px_wQ_pre a2' a4 (px_wQ_pre b2 b4 Q))
  | site s a b ta tb iha ihb =>
    intro hh p gl sco l T w H hnd hW hwf hgl hw hT hl
    obtain ⟨Ha, Hb, N, n1⟩ := H
    have e2 : pt_sz (pt_site s a b) = pt_sz a + pt_sz b + 1 := rfl
    have pa := pt_sz_pos a
    have pb := pt_sz_pos b
    rw [e2] at hnd hw hT ⊢
    have ei : p + (pt_sz a + pt_sz b + 1) - 1 = p + pt_sz a + pt_sz b := by omega
    rw [ei] at hw
    have ebs : pw_t fm D A (fun _ => true) (pt_site s a b) = ((if fm = true then A s ++ pw_tx 14 else pw_tx 14) ++ pw_t fm D A (fun _ => true) a) ++ (((if fm = true then pw_tx 15 else pw_tx 1) ++ pw_t fm D A (fun _ => true) b) ++ pw_tx 12) := by
      show (if fm = true then A s ++ pw_tx 14 else pw_tx 14) ++ (_ ++ ((if fm = true then pw_tx 15 else pw_tx 1) ++ (_ ++ pw_tx 12))) = _
      simp only [List.append_assoc]
      rfl
    rw [ebs] at hl ⊢
    simp only [List.length_append] at hl
    have nx := fun w1 e => nxt N (by omega) (by omega) (Or.inl (by omega)) w1 e
    have hp0 : px_pp sc (p + pt_sz a + pt_sz b) 0 (if fm = true then A s ++ pw_tx 14 else pw_tx 14) w0 := by
      by_cases z : fm = true
      · rw [if_pos z]
        intro l1 w1 f1 R1 b1
        have k := rd w1 f1 N (by omega)
        obtain ⟨w2, q1, q2, q3⟩ := (hDA z).2 s (p + pt_sz a + pt_sz b) hW.1 n1 l1 w1 f1 R1 b1
        refine ⟨w2, ?_, q2, q3⟩
        refine (px_pk_site (ph := ((0 : Nat) : Int)) hsc k.1).trans ?_
        have q1' : fm_Writer_putSite sc ((p + pt_sz a + pt_sz b : Nat) : Int) ((0 : Nat) : Int) w1 = some w2 := q1
        rw [q1']
        rfl
      · rw [if_neg z]
        have zf : fm = false := by cases fm with | true => exact (z rfl).elim | false => rfl
        refine px_pp_txt 14 (fun w1 f1 => ?_)
        have k := rd w1 f1 N (by omega)
        refine (px_pk_site (ph := ((0 : Nat) : Int)) hsc k.1).trans ?_
        unfold fm_Writer_putSite
        rw [if_pos (by decide), if_pos (md0 zf w1 f1)]
        unfold fm_Writer_putSite_j67 fm_Writer_putSite_j106
        rw [if_neg (by decide), if_pos (by decide)]
        cases fm_Writer_putText 14 w1 <;> rfl
    have hp1 : px_pp sc (p + pt_sz a + pt_sz b) 1 (if fm = true then pw_tx 15 else pw_tx 1) w0 := by
      have g : ∀ w1, pw_fw w0 w1 → fm_Writer_putPiece sc ((p + pt_sz a + pt_sz b : Nat) : Int) ((1 : Nat) : Int) w1 = if fa_wr (w1 37 4) = -1 then (fm_Writer_putText 1 w1).bind fun w1 => some w1 else (fm_Writer_putText 15 w1).bind fun w1 => some w1 := fun w1 f1 => by
        have k := rd w1 f1 N (by omega)
        refine (px_pk_site (ph := ((1 : Nat) : Int)) hsc k.1).trans ?_
        unfold fm_Writer_putSite
        rw [if_neg (by decide)]
        unfold fm_Writer_putSite_j67 fm_Writer_putSite_j88
        rw [if_pos (by decide)]
        by_cases z : fa_wr (w1 37 4) = -1
        · simp only [if_pos z]; cases fm_Writer_putText 1 w1 <;> rfl
        · simp only [if_neg z]; cases fm_Writer_putText 15 w1 <;> rfl
      by_cases z : fm = true
      · rw [if_pos z]
        exact px_pp_txt 15 (fun w1 f1 => by rw [g w1 f1, if_neg (md1 z w1 f1)])
      · rw [if_neg z]
        have zf : fm = false := by cases fm with | true => exact (z rfl).elim | false => rfl
        exact px_pp_txt 1 (fun w1 f1 => by rw [g w1 f1, if_pos (md0 zf w1 f1)])
    have hp2 : px_pp sc (p + pt_sz a + pt_sz b) 2 (pw_tx 12) w0 := px_pp_txt 12 (fun w1 f1 => by
      have k := rd w1 f1 N (by omega)
      refine (px_pk_site (ph := ((2 : Nat) : Int)) hsc k.1).trans ?_
      unfold fm_Writer_putSite
      rw [if_neg (by decide)]
      unfold fm_Writer_putSite_j67 fm_Writer_putSite_j106
      rw [if_neg (by decide), if_neg (by decide)]
      cases fm_Writer_putText 12 w1 <;> rfl)
    obtain ⟨k1, w1, a1, a2', a3, a4⟩ := px_wpart (a2 := a2) (q := p + pt_sz a - 1) (K := 4 * pt_sz a) (bq := pw_t fm D A (fun _ => true) a) hsc hw (by rw [List.length_append]; omega) (by omega) (by omega) (by omega) (by omega) hp0 (fun w1 e => (nx w1 e).1) (fun l1 w1 hw1 hl1 => iha hh p gl _ l1 (T + 1) w1 Ha (by omega) hW.2.1 hwf.1 hgl hw1 (by omega) hl1)
    obtain ⟨k2, w2, b1, b2, b3, b4⟩ := px_wpart (a2 := a2) (q := p + pt_sz a + pt_sz b - 1) (K := 4 * pt_sz b) (bq := pw_t fm D A (fun _ => true) b) hsc a3 (by simp only [List.length_append]; omega) (by omega) (by omega) (by omega) (by omega) hp1 (fun w1 e => (nx w1 e).2.1) (fun l1 w1 hw1 hl1 => ihb hh (p + pt_sz a) gl _ l1 (T + 1) w1 Hb (by omega) hW.2.2 hwf.2 hgl hw1 (by omega) hl1)
    have Q := px_wend (a2 := a2) (bs := pw_tx 12) hsc b3 (by simp only [List.length_append]; omega) (by omega) (by omega) (by omega) hp2 (fun w1 e => (nx w1 e).2.2.1)
    exact px_wQ_mono (by omega) (px_wQ_pre a2' a4 (px_wQ_pre b2 b4 Q))
