theorem pe_mark_t {o oP nd nf nv ns : Nat} {CL : Nat → Bool} {cd : Int} {ins : List Nat} {w0 : fa_W} (h24 : nf ≤ 24) (E : pe_EM o oP nd CL cd w0) (t : pt_T) (tt : pt_tw t) : ∀ (h : Int) (a : Nat) (w : fa_W), px_P oP ins t h a w0 → pf_W nf nv ns t → a + pt_sz t ≤ nd → pe_f2 o w0 w → w (o + 24) (a + pt_sz t - 1) = 0 → (∀ i, a ≤ i → i + 1 < a + pt_sz t → w (o + 24) i = -1) → ∃ w', (∀ F, fm_Program_markThings_l83 o oP cd (F + pt_sz t) (((a + pt_sz t : Nat) : Int) - 1) w = fm_Program_markThings_l83 o oP cd F ((a : Int) - 1) w') ∧ pe_f2 o w w' ∧ (∀ j, ¬ (a ≤ j ∧ j < a + pt_sz t) → w' (o + 24) j = w (o + 24) j) ∧ pe_mk CL t a (w' (o + 24)) := by
  have leaf : ∀ (u : pt_T) (h : Int) (a K V : Nat) (w : fa_W), pt_sz u = 1 → px_N oP w0 a K V h a (-1) (-1) (-1) → K < 5 → a + 1 ≤ nd → pe_f2 o w0 w → w (o + 24) a = 0 → ∃ w', (∀ F, fm_Program_markThings_l83 o oP cd (F + 1) (((a + 1 : Nat) : Int) - 1) w = fm_Program_markThings_l83 o oP cd F ((a : Int) - 1) w') ∧ pe_f2 o w w' ∧ (∀ j, ¬ (a ≤ j ∧ j < a + 1) → w' (o + 24) j = w (o + 24) j) ∧ w' (o + 24) a = 0 := fun u h a K V w hs N hK ha hw hm => by
    obtain ⟨w', q1, q2, q3⟩ := pe_s_go E hw (show a < nd by omega) hm N (by omega) (fun z => by omega) (Or.inl rfl) (Or.inl rfl) (Or.inl rfl)
    refine ⟨w', fun F => ?_, q2, fun j hj => ?_, ?_⟩
    · rw [show (((a + 1 : Nat) : Int) - 1) = (a : Int) by omega]; exact q1 F
    · rw [q3, if_neg (fun z => by omega)]
    · rw [q3, if_neg (fun z => by omega)]; exact hm
  induction t, tt using pt_indh with
  | num v => intro h a w H W ha hw hm _; exact leaf (pt_num v) h a 1 v w rfl H (by decide) ha hw hm
  | var v x => intro h a w H W ha hw hm _; exact leaf (pt_var v x) h a 2 _ w rfl H.1 (by decide) ha hw hm
  | glo g x => intro h a w H W ha hw hm _; exact leaf (pt_glo g x) h a 3 g w rfl H.1 (by decide) ha hw hm
  | dead d => intro h a w H W ha hw hm _; exact leaf (pt_dead d) h a 4 0 w rfl H (by decide) ha hw hm
  | lam f x b wb ih =>
    intro h a w H W ha hw hm hr
    have s : pt_sz (pt_lam f x b) = pt_sz b + 1 := rfl
    have pp := pt_sz_pos b
    have fl : f < 24 := by have := W.1; omega
    rw [s] at ha hm hr ⊢
    rw [show a + (pt_sz b + 1) - 1 = a + pt_sz b by omega] at hm
    have ei : (((a + (pt_sz b + 1) : Nat) : Int) - 1) = ((a + pt_sz b : Nat) : Int) := by omega
    rw [ei]
    by_cases c : CL f = true
    · obtain ⟨w1, q1, q2, q3⟩ := pe_s_go E hw (show a + pt_sz b < nd by omega) hm H.2.1 (by decide) (fun _ => ⟨fl, c⟩) (Or.inr ⟨a + pt_sz b - 1, rfl, by omega⟩) (Or.inl rfl) (Or.inl rfl)
      have hw1 : pe_f2 o w0 w1 := fun i j p => (q2 i j p).trans (hw i j p)
      obtain ⟨w2, r1, r2, r3, r4⟩ := ih (f : Int) a w1 H.1 W.2 (by omega) hw1 (by rw [q3, if_pos (Or.inl rfl)]) (fun i p q => by rw [q3, if_neg (fun z => by omega)]; exact hr i p (by omega))
      refine ⟨w2, fun F => ?_, fun i j p => (r2 i j p).trans (q2 i j p), fun j hj => ?_, ?_, ?_⟩
      · rw [show F + (pt_sz b + 1) = F + pt_sz b + 1 by omega, q1 (F + pt_sz b)]
        exact r1 F
      · rw [r3 j (by omega), q3, if_neg (fun z => by omega)]
      · rw [r3 _ (by omega), q3, if_neg (fun z => by omega)]; exact hm
      · rw [if_pos c]; exact r4
    · refine ⟨w, fun F => ?_, fun _ _ _ => rfl, fun _ _ => rfl, hm, ?_⟩
      · rw [show F + (pt_sz b + 1) = F + pt_sz b + 1 by omega, pe_s_lo E hw (show a + pt_sz b < nd by omega) hm H.2.1 fl (pc_bf c) (F + pt_sz b)]
        exact pe_range E hw a (pt_sz b) (by omega) (fun i p q => hr i p (by omega)) F
      · rw [if_neg c]
        exact fun i p q => hr i p (by omega)
  | ife ta t2 tc wa wb wc iha ihb ihc =>
    intro h a w H W ha hw hm hr
    have s : pt_sz (pt_ife ta t2 tc) = pt_sz ta + pt_sz t2 + pt_sz tc + 1 := rfl
    have p1 := pt_sz_pos ta
    have p2 := pt_sz_pos t2
    have p3 := pt_sz_pos tc
    rw [s] at ha hm hr ⊢
    rw [show a + (pt_sz ta + pt_sz t2 + pt_sz tc + 1) - 1 = a + pt_sz ta + pt_sz t2 + pt_sz tc by omega] at hm
    have ei : (((a + (pt_sz ta + pt_sz t2 + pt_sz tc + 1) : Nat) : Int) - 1) = ((a + pt_sz ta + pt_sz t2 + pt_sz tc : Nat) : Int) := by omega
    rw [ei]
    obtain ⟨w1, q1, q2, q3⟩ := pe_s_go E hw (show a + pt_sz ta + pt_sz t2 + pt_sz tc < nd by omega) hm H.2.2.2 (by decide) (fun z => by omega) (Or.inr ⟨a + pt_sz ta - 1, rfl, by omega⟩) (Or.inr ⟨a + pt_sz ta + pt_sz t2 - 1, rfl, by omega⟩) (Or.inr ⟨a + pt_sz ta + pt_sz t2 + pt_sz tc - 1, rfl, by omega⟩)
    have hw1 : pe_f2 o w0 w1 := fun i j p => (q2 i j p).trans (hw i j p)
    obtain ⟨w2, r1, r2, r3, r4⟩ := ihc h (a + pt_sz ta + pt_sz t2) w1 H.2.2.1 W.2.2 (by omega) hw1 (by rw [q3, if_pos (Or.inr (Or.inr rfl))]) (fun i p q => by rw [q3, if_neg (fun z => by omega)]; exact hr i (by omega) (by omega))
    have hw2 : pe_f2 o w0 w2 := fun i j p => (r2 i j p).trans (hw1 i j p)
    obtain ⟨w3, u1, u2, u3, u4⟩ := ihb h (a + pt_sz ta) w2 H.2.1 W.2.1 (by omega) hw2 (by rw [r3 _ (by omega), q3, if_pos (Or.inr (Or.inl rfl))]) (fun i p q => by rw [r3 _ (by omega), q3, if_neg (fun z => by omega)]; exact hr i (by omega) (by omega))
    have hw3 : pe_f2 o w0 w3 := fun i j p => (u2 i j p).trans (hw2 i j p)
    obtain ⟨w4, v1, v2, v3, v4⟩ := iha h a w3 H.1 W.1 (by omega) hw3 (by rw [u3 _ (by omega), r3 _ (by omega), q3, if_pos (Or.inl rfl)]) (fun i p q => by rw [u3 _ (by omega), r3 _ (by omega), q3, if_neg (fun z => by omega)]; exact hr i (by omega) (by omega))
    refine ⟨w4, fun F => ?_, fun i j p => (v2 i j p).trans ((u2 i j p).trans ((r2 i j p).trans (q2 i j p))), fun j hj => ?_, v4, ?_, ?_, ?_⟩
    · rw [show F + (pt_sz ta + pt_sz t2 + pt_sz tc + 1) = F + pt_sz ta + pt_sz t2 + pt_sz tc + 1 by omega, q1 _, r1, u1, v1]
    · rw [v3 j (by omega), u3 j (by omega), r3 j (by omega), q3, if_neg (fun z => by omega)]
    · exact pe_mk_cong t2 wb _ (fun i p q => v3 i (by omega)) u4
    · exact pe_mk_cong tc wc _ (fun i p q => (v3 i (by omega)).trans (u3 i (by omega))) r4
    · rw [v3 _ (by omega), u3 _ (by omega), r3 _ (by omega), q3, if_neg (fun z => by omega)]; exact hm
  | lt v x ta t2 wa wb iha ihb =>
    intro h a w H W ha hw hm hr
    have s : pt_sz (pt_let v x ta t2) = pt_sz ta + pt_sz t2 + 1 := rfl
    have p1 := pt_sz_pos ta
    have p2 := pt_sz_pos t2
    rw [s] at ha hm hr ⊢
    rw [show a + (pt_sz ta + pt_sz t2 + 1) - 1 = a + pt_sz ta + pt_sz t2 by omega] at hm
    have ei : (((a + (pt_sz ta + pt_sz t2 + 1) : Nat) : Int) - 1) = ((a + pt_sz ta + pt_sz t2 : Nat) : Int) := by omega
    rw [ei]
    obtain ⟨w1, q1, q2, q3⟩ := pe_s_go E hw (show a + pt_sz ta + pt_sz t2 < nd by omega) hm H.2.2.1 (by decide) (fun z => by omega) (Or.inr ⟨a + pt_sz ta - 1, rfl, by omega⟩) (Or.inr ⟨a + pt_sz ta + pt_sz t2 - 1, rfl, by omega⟩) (Or.inl rfl)
    have hw1 : pe_f2 o w0 w1 := fun i j p => (q2 i j p).trans (hw i j p)
    obtain ⟨w3, u1, u2, u3, u4⟩ := ihb h (a + pt_sz ta) w1 H.2.1 W.2.2 (by omega) hw1 (by rw [q3, if_pos (Or.inr (Or.inl rfl))]) (fun i p q => by rw [q3, if_neg (fun z => by omega)]; exact hr i (by omega) (by omega))
    have hw3 : pe_f2 o w0 w3 := fun i j p => (u2 i j p).trans (hw1 i j p)
    obtain ⟨w4, v1, v2, v3, v4⟩ := iha h a w3 H.1 W.2.1 (by omega) hw3 (by rw [u3 _ (by omega), q3, if_pos (Or.inl rfl)]) (fun i p q => by rw [u3 _ (by omega), q3, if_neg (fun z => by omega)]; exact hr i (by omega) (by omega))
    refine ⟨w4, fun F => ?_, fun i j p => (v2 i j p).trans ((u2 i j p).trans (q2 i j p)), fun j hj => ?_, v4, ?_, ?_⟩
    · rw [show F + (pt_sz ta + pt_sz t2 + 1) = F + pt_sz ta + pt_sz t2 + 1 by omega, q1 _, u1, v1]
    · rw [v3 j (by omega), u3 j (by omega), q3, if_neg (fun z => by omega)]
    · exact pe_mk_cong t2 wb _ (fun i p q => v3 i (by omega)) u4
    · rw [v3 _ (by omega), u3 _ (by omega), q3, if_neg (fun z => by omega)]; exact hm
  | op r ta t2 wa wb iha ihb =>
    intro h a w H W ha hw hm hr
    have s : pt_sz (pt_op r ta t2) = pt_sz ta + pt_sz t2 + 1 := rfl
    have p1 := pt_sz_pos ta
    have p2 := pt_sz_pos t2
    rw [s] at ha hm hr ⊢
    rw [show a + (pt_sz ta + pt_sz t2 + 1) - 1 = a + pt_sz ta + pt_sz t2 by omega] at hm
    have ei : (((a + (pt_sz ta + pt_sz t2 + 1) : Nat) : Int) - 1) = ((a + pt_sz ta + pt_sz t2 : Nat) : Int) := by omega
    rw [ei]
    obtain ⟨w1, q1, q2, q3⟩ := pe_s_go E hw (show a + pt_sz ta + pt_sz t2 < nd by omega) hm H.2.2 (by decide) (fun z => by omega) (Or.inr ⟨a + pt_sz ta - 1, rfl, by omega⟩) (Or.inr ⟨a + pt_sz ta + pt_sz t2 - 1, rfl, by omega⟩) (Or.inl rfl)
    have hw1 : pe_f2 o w0 w1 := fun i j p => (q2 i j p).trans (hw i j p)
    obtain ⟨w3, u1, u2, u3, u4⟩ := ihb h (a + pt_sz ta) w1 H.2.1 W.2 (by omega) hw1 (by rw [q3, if_pos (Or.inr (Or.inl rfl))]) (fun i p q => by rw [q3, if_neg (fun z => by omega)]; exact hr i (by omega) (by omega))
    have hw3 : pe_f2 o w0 w3 := fun i j p => (u2 i j p).trans (hw1 i j p)
    obtain ⟨w4, v1, v2, v3, v4⟩ := iha h a w3 H.1 W.1 (by omega) hw3 (by rw [u3 _ (by omega), q3, if_pos (Or.inl rfl)]) (fun i p q => by rw [u3 _ (by omega), q3, if_neg (fun z => by omega)]; exact hr i (by omega) (by omega))
    refine ⟨w4, fun F => ?_, fun i j p => (v2 i j p).trans ((u2 i j p).trans (q2 i j p)), fun j hj => ?_, v4, ?_, ?_⟩
    · rw [show F + (pt_sz ta + pt_sz t2 + 1) = F + pt_sz ta + pt_sz t2 + 1 by omega, q1 _, u1, v1]
    · rw [v3 j (by omega), u3 j (by omega), q3, if_neg (fun z => by omega)]
    · exact pe_mk_cong t2 wb _ (fun i p q => v3 i (by omega)) u4
    · rw [v3 _ (by omega), u3 _ (by omega), q3, if_neg (fun z => by omega)]; exact hm
  | site r ta t2 wa wb iha ihb =>
    intro h a w H W ha hw hm hr
    have s : pt_sz (pt_site r ta t2) = pt_sz ta + pt_sz t2 + 1 := rfl
    have p1 := pt_sz_pos ta
    have p2 := pt_sz_pos t2
    rw [s] at ha hm hr ⊢
    rw [show a + (pt_sz ta + pt_sz t2 + 1) - 1 = a + pt_sz ta + pt_sz t2 by omega] at hm
    have ei : (((a + (pt_sz ta + pt_sz t2 + 1) : Nat) : Int) - 1) = ((a + pt_sz ta + pt_sz t2 : Nat) : Int) := by omega
    rw [ei]
    obtain ⟨w1, q1, q2, q3⟩ := pe_s_go E hw (show a + pt_sz ta + pt_sz t2 < nd by omega) hm H.2.2.1 (by decide) (fun z => by omega) (Or.inr ⟨a + pt_sz ta - 1, rfl, by omega⟩) (Or.inr ⟨a + pt_sz ta + pt_sz t2 - 1, rfl, by omega⟩) (Or.inl rfl)
    have hw1 : pe_f2 o w0 w1 := fun i j p => (q2 i j p).trans (hw i j p)
    obtain ⟨w3, u1, u2, u3, u4⟩ := ihb h (a + pt_sz ta) w1 H.2.1 W.2.2 (by omega) hw1 (by rw [q3, if_pos (Or.inr (Or.inl rfl))]) (fun i p q => by rw [q3, if_neg (fun z => by omega)]; exact hr i (by omega) (by omega))
    have hw3 : pe_f2 o w0 w3 := fun i j p => (u2 i j p).trans (hw1 i j p)
    obtain ⟨w4, v1, v2, v3, v4⟩ := iha h a w3 H.1 W.2.1 (by omega) hw3 (by rw [u3 _ (by omega), q3, if_pos (Or.inl rfl)]) (fun i p q => by rw [u3 _ (by omega), q3, if_neg (fun z => by omega)]; exact hr i (by omega) (by omega))
    refine ⟨w4, fun F => ?_, fun i j p => (v2 i j p).trans ((u2 i j p).trans (q2 i j p)), fun j hj => ?_, v4, ?_, ?_⟩
    · rw [show F + (pt_sz ta + pt_sz t2 + 1) = F + pt_sz ta + pt_sz t2 + 1 by omega, q1 _, u1, v1]
    · rw [v3 j (by omega), u3 j (by omega), q3, if_neg (fun z => by omega)]
    · exact pe_mk_cong t2 wb _ (fun i p q => v3 i (by omega)) u4
    · rw [v3 _ (by omega), u3 _ (by omega), q3, if_neg (fun z => by omega)]; exact hm
