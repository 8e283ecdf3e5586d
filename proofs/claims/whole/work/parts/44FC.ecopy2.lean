def pe_EC (o oP nd si : Nat) (M CL SV : Nat → Bool) (cd : Int) (w0 : fa_W) (mk : Nat → Int) : Prop := pe_sep o oP ∧ pe_kp CL cd ∧ px_pz oP nd w0 ∧ w0 (o + 21) 1 = ((24 : Nat) : Int) ∧ (∀ f, f < 24 → w0 (o + 22) f = if M f = true then ((pc_rk M f : Nat) : Int) else -1) ∧ w0 (o + 23) 1 = (nd : Int) ∧ w0 (o + 25) 1 = ((100 : Nat) : Int) ∧ (∀ s, s < 100 → w0 (o + 26) s = if s < si ∧ SV s = true then ((pc_rk SV s : Nat) : Int) else -1) ∧ (∀ s, SV s = true → s < si) ∧ (∀ i, i < nd → mk i ≠ -1 → pe_X oP M CL SV w0 mk i) ∧ pe_c (pe_e oP CL w0 mk) nd ≤ 100
theorem pe_newv {o oP nd si j K V : Nat} {M CL SV : Nat → Bool} {cd : Int} {w0 w : fa_W} {mk : Nat → Int} (E : pe_EC o oP nd si M CL SV cd w0 mk) (hC : pe_CI o oP nd M CL SV w0 mk (pe_c (pe_e oP CL w0 mk)) j w) (hK : K ≤ 9) (hV : V < 10000) (h9 : K = 9 → V < 100 ∧ SV V = true) (h5 : K = 5 → V < 24 ∧ M V = true) (h2 : K = 2 → V < 74 ∧ (V < 24 → M V = true)) (h3 : K = 3 → V < 24 ∧ M V = true) : fm_Program_newValue o (K : Int) (V : Int) w = ((pe_vv M SV K V : Nat) : Int) := by
  obtain ⟨⟨he, ho, hp, hd⟩, hk, hz, h21, h22, h23, h25, h26, hSV, hX, h100⟩ := E
  obtain ⟨r10, s10, m10⟩ := px_po_r10 ho
  obtain ⟨r12, s12, m12⟩ := px_po_r12 ho
  have fr := hC.2.1
  have rdF : ∀ f, f < 24 → M f = true → fr_at (o + 21) (f : Int) w = ((pc_rk M f : Nat) : Int) := fun f hf hm => by
    rw [pb_at ((fr _ _ (by omega)).trans h21) hf (by rw [m10]; exact Nat.le_refl _), s10, show o + 21 + 1 = o + 22 by omega, fr _ _ (by omega), h22 f hf, if_pos hm]
  unfold fm_Program_newValue pe_vv
  rw [pb_wr (n := K) (by omega), pb_wr (n := V) (by omega)]
  by_cases k2 : K = 2
  · rw [if_pos (by omega)]
    by_cases l : 24 ≤ V
    · rw [if_pos (by omega), if_neg (by omega), if_neg (by omega)]
    · rw [if_neg (by omega), if_pos (by omega), r10]
      exact rdF V (by omega) ((h2 k2).2 (by omega))
  · rw [if_neg (by omega)]
    by_cases k3 : K = 3
    · rw [if_pos (by omega), if_pos (by omega), r10]
      exact rdF V (h3 k3).1 (h3 k3).2
    · rw [if_neg (by omega)]
      by_cases k5 : K = 5
      · rw [if_pos (by omega), if_pos (by omega), r10]
        exact rdF V (h5 k5).1 (h5 k5).2
      · rw [if_neg (by omega)]
        by_cases k9 : K = 9
        · have q := h9 k9
          rw [if_pos (by omega), if_neg (by omega), if_pos k9, r12, pb_at ((fr _ _ (by omega)).trans h25) q.1 (by rw [m12]; exact Nat.le_refl _), s12, show o + 25 + 1 = o + 26 by omega, fr _ _ (by omega), h26 V q.1, if_pos ⟨hSV V q.2, q.2⟩]
        · rw [if_neg (by omega), if_neg (by omega), if_neg k9]
theorem pe_newh {o oP nd si j : Nat} {M CL SV : Nat → Bool} {cd : Int} {w0 w : fa_W} {mk : Nat → Int} {h : Int} (E : pe_EC o oP nd si M CL SV cd w0 mk) (hC : pe_CI o oP nd M CL SV w0 mk (pe_c (pe_e oP CL w0 mk)) j w) (hh : h = -1 ∨ ∃ f : Nat, h = (f : Int) ∧ f < 24 ∧ M f = true) : fr_at (fa_rf o 10) h w = pe_hh M h := by
  obtain ⟨⟨he, ho, hp, hd⟩, hk, hz, h21, h22, h23, h25, h26, hSV, hX, h100⟩ := E
  obtain ⟨r10, s10, m10⟩ := px_po_r10 ho
  have fr := hC.2.1
  unfold pe_hh
  rcases hh with hh | ⟨f, f1, f2, f3⟩
  · rw [hh, pb_at_neg, if_pos rfl]
  · rw [f1, if_neg (by omega), Int.toNat_natCast, r10, pb_at ((fr _ _ (by omega)).trans h21) f2 (by rw [m10]; exact Nat.le_refl _), s10, show o + 21 + 1 = o + 22 by omega, fr _ _ (by omega), h22 f f2, if_pos f3]
/-- where the parts of a THING have come to stand -/
theorem pe_newp {o oP nd si j : Nat} {M CL SV : Nat → Bool} {cd : Int} {w0 w : fa_W} {mk : Nat → Int} {p : Int} (E : pe_EC o oP nd si M CL SV cd w0 mk) (hC : pe_CI o oP nd M CL SV w0 mk (pe_c (pe_e oP CL w0 mk)) j w) (hj : j < nd) (hp : p = -1 ∨ ∃ i : Nat, p = (i : Int) ∧ i < j ∧ mk i ≠ -1) : fr_at (fa_rf o 11) p w = pe_pp (pe_c (pe_e oP CL w0 mk)) p := by
  obtain ⟨⟨he, ho, hp', hd⟩, hk, hz, h21, h22, h23, h25, h26, hSV, hX, h100⟩ := E
  obtain ⟨r11, s11, m11⟩ := px_po_r11 ho
  have fr := hC.2.1
  have n100 := hz.2.2.2.2.2
  unfold pe_pp
  rcases hp with hp | ⟨i, f1, f2, f3⟩
  · rw [hp, pb_at_neg, if_pos rfl]
  · rw [f1, if_neg (by omega), Int.toNat_natCast, r11, pb_at ((fr _ _ (by omega)).trans h23) (by omega) (by rw [m11]; exact n100), s11, show o + 23 + 1 = o + 24 by omega]
    exact (hC.2.2.2.1 i f2 f3).1
theorem pe_e_pos {oP : Nat} {CL : Nat → Bool} {w0 : fa_W} {mk : Nat → Int} {i : Nat} (h : mk i ≠ -1) : pe_c (pe_e oP CL w0 mk) i + (if pe_lose oP CL w0 i = true then 2 else 1) = pe_c (pe_e oP CL w0 mk) (i + 1) := by
  show _ = pe_c (pe_e oP CL w0 mk) i + pe_e oP CL w0 mk i
  unfold pe_e
  rw [if_neg h]
/-- where the copy of a THING begins -/
theorem pe_start {o oP nd i : Nat} {M CL SV : Nat → Bool} {w0 w : fa_W} {mk : Nat → Int} (hX : pe_X oP M CL SV w0 mk i) (hm : mk i ≠ -1) (hN : pe_NR o oP M SV CL w0 (pe_c (pe_e oP CL w0 mk)) w i) {st : Nat} (hst : w0 (oP + 8) i = (st : Int)) : w (o + 8) (pe_c (pe_e oP CL w0 mk) (i + 1) - 1) = ((pe_c (pe_e oP CL w0 mk) st : Nat) : Int) := by
  obtain ⟨K, V, st', h, p0, p1, p2, N, b1, b2, b3, b4, b5, b6, b7, b8⟩ := hX
  have es : st' = st := by
    have := N.2.2.2.1.symm.trans hst; omega
  obtain ⟨a1, a2, _⟩ := hN K V st' h p0 p1 p2 N
  have ce := pe_e_pos (oP := oP) (CL := CL) (w0 := w0) hm
  by_cases l : pe_lose oP CL w0 i = true
  · rw [if_pos l] at ce
    obtain ⟨n1, n2⟩ := a1 l
    have k5 : K = 5 := by
      unfold pe_lose at l
      rw [Bool.and_eq_true] at l
      have := of_decide_eq_true l.1
      rw [N.1] at this
      omega
    have cf : CL V = false := by
      unfold pe_lose at l
      rw [Bool.and_eq_true, N.2.1, Int.toNat_natCast] at l
      cases z : CL V with
      | false => rfl
      | true => rw [z] at l; exact absurd l.2 (by decide)
    rw [← ce, show pe_c (pe_e oP CL w0 mk) i + 2 - 1 = pe_c (pe_e oP CL w0 mk) i + 1 by omega, n2.2.2.2.1, ← es, (b7 k5).2.2.2.2.2 cf]
  · have lf := pc_bf l
    rw [if_neg l] at ce
    have n1 := a2 lf
    rw [← ce, show pe_c (pe_e oP CL w0 mk) i + 1 - 1 = pe_c (pe_e oP CL w0 mk) i by omega, n1.2.2.2.1, es]
