/-! copying: THING by THING -/
theorem px_N_uniq {o i K V st K' V' st' : Nat} {w : fa_W} {h a b c h' a' b' c' : Int} (N : px_N o w i K V h st a b c) (N' : px_N o w i K' V' h' st' a' b' c') : K = K' ∧ V = V' ∧ h = h' ∧ st = st' ∧ a = a' ∧ b = b' ∧ c = c' := by
  obtain ⟨n1, n2, n3, n4, n5, n6, n7⟩ := N
  obtain ⟨m1, m2, m3, m4, m5, m6, m7⟩ := N'
  exact ⟨by have := n1.symm.trans m1; omega, by have := n2.symm.trans m2; omega, n3.symm.trans m3, by have := n4.symm.trans m4; omega, n5.symm.trans m5, n6.symm.trans m6, n7.symm.trans m7⟩
def pe_pp (c : Nat → Nat) (p : Int) : Int := if p = -1 then -1 else ((c (p.toNat + 1) - 1 : Nat) : Int)
def pe_hh (M : Nat → Bool) (h : Int) : Int := if h = -1 then -1 else ((pc_rk M h.toNat : Nat) : Int)
def pe_vv (M SV : Nat → Bool) (K V : Nat) : Nat := if (K = 2 ∧ V < 24) ∨ K = 3 ∨ K = 5 then pc_rk M V else if K = 9 then pc_rk SV V else V
/-- the copy of a THING -/
def pe_NR (o oP : Nat) (M SV : Nat → Bool) (CL : Nat → Bool) (w0 : fa_W) (c : Nat → Nat) (w : fa_W) (i : Nat) : Prop := ∀ (K V st : Nat) (h p0 p1 p2 : Int), px_N oP w0 i K V h st p0 p1 p2 → (pe_lose oP CL w0 i = true → px_N o w (c i) 4 0 ((pc_rk M V : Nat) : Int) (c i) (-1) (-1) (-1) ∧ px_N o w (c i + 1) 5 (pc_rk M V) (pe_hh M h) (c i) ((c i : Nat) : Int) (-1) (-1)) ∧ (pe_lose oP CL w0 i = false → px_N o w (c i) K (pe_vv M SV K V) (pe_hh M h) (c st) (pe_pp c p0) (pe_pp c p1) (pe_pp c p2)) ∧ (K = 9 → w (o + 12) (pc_rk SV V) = ((c (i + 1) - 1 : Nat) : Int)) ∧ (K = 7 → w (o + 16) V = ((c (i + 1) - 1 : Nat) : Int)) ∧ (K = 5 → w (o + 16) (pc_rk M V) = ((c (i + 1) - 1 : Nat) : Int) ∧ w (o + 20) (pc_rk M V) = if pe_lose oP CL w0 i = true then ((c i : Nat) : Int) else pe_pp c p0)
/-- the world of the walk at THING j -/
def pe_CI (o oP nd : Nat) (M CL SV : Nat → Bool) (w0 : fa_W) (mk : Nat → Int) (c : Nat → Nat) (j : Nat) (w : fa_W) : Prop := px_sze o (c j) w ∧ (∀ x y, (x < o ∨ o + 26 < x ∨ x = o ∨ x = o + 14 ∨ x = o + 17 ∨ x = o + 18 ∨ (o + 21 ≤ x ∧ x ≤ o + 23) ∨ x = o + 25 ∨ x = o + 26) → w x y = w0 x y) ∧ (∀ i, j ≤ i ∨ mk i = -1 → w (o + 24) i = mk i) ∧ (∀ i, i < j → mk i ≠ -1 → w (o + 24) i = ((c (i + 1) - 1 : Nat) : Int) ∧ pe_NR o oP M SV CL w0 c w i) ∧ ∀ v, (∀ i, i < j → mk i ≠ -1 → ∀ (K V st : Nat) (h p0 p1 p2 : Int), px_N oP w0 i K V h st p0 p1 p2 → (K = 7 → V ≠ v) ∧ (K = 5 → pc_rk M V ≠ v)) → w (o + 16) v = w0 (o + 16) v
/-- what adding the THING n leaves as it was -/
theorem pe_NR_keep {o oP i n K V : Nat} {M CL SV : Nat → Bool} {w0 w w' : fa_W} {c : Nat → Nat} (hc : c (i + 1) ≤ n) (hce : c i + (if pe_lose oP CL w0 i = true then 2 else 1) = c (i + 1)) (hf : ∀ O k, px_une o n K V O k → w' O k = w O k) (hd : ∀ (K' V' st : Nat) (h p0 p1 p2 : Int), px_N oP w0 i K' V' h st p0 p1 p2 → (K = 9 → K' = 9 → V ≠ pc_rk SV V') ∧ ((K = 7 ∨ K = 5) → (K' = 7 → V ≠ V') ∧ (K' = 5 → V ≠ pc_rk M V'))) (H : pe_NR o oP M SV CL w0 c w i) : pe_NR o oP M SV CL w0 c w' i := by
  intro K' V' st h p0 p1 p2 N
  obtain ⟨a1, a2, a3, a4, a5⟩ := H K' V' st h p0 p1 p2 N
  obtain ⟨d1, d2⟩ := hd K' V' st h p0 p1 p2 N
  have keep : ∀ (q K2 V2 st2 : Nat) (h2 x y z : Int), q < n → px_N o w q K2 V2 h2 st2 x y z → px_N o w' q K2 V2 h2 st2 x y z := fun q K2 V2 st2 h2 x y z hq ⟨n1, n2, n3, n4, n5, n6, n7⟩ => by
    have u : ∀ O k, (O = o + 2 ∨ O = o + 4 ∨ O = o + 6 ∨ O = o + 8) ∧ k = q ∨ O = o + 10 ∧ k < 3 * n → w' O k = w O k := fun O k e => hf O k (by unfold px_une; omega)
    exact ⟨(u _ _ (by omega)).trans n1, (u _ _ (by omega)).trans n2, (u _ _ (by omega)).trans n3, (u _ _ (by omega)).trans n4, (u _ _ (by omega)).trans n5, (u _ _ (by omega)).trans n6, (u _ _ (by omega)).trans n7⟩
  refine ⟨fun z => ?_, fun z => ?_, fun z => ?_, fun z => ?_, fun z => ?_⟩
  · rw [if_pos z] at hce
    exact ⟨keep _ _ _ _ _ _ _ _ (by omega) (a1 z).1, keep _ _ _ _ _ _ _ _ (by omega) (a1 z).2⟩
  · rw [z, if_neg (by decide)] at hce
    exact keep _ _ _ _ _ _ _ _ (by omega) (a2 z)
  · rw [hf _ _ (by
      unfold px_une
      have := d1
      by_cases e : K = 9
      · have := d1 e z; omega
      · omega)]
    exact a3 z
  · rw [hf _ _ (by
      unfold px_une
      by_cases e : K = 7 ∨ K = 5
      · have := (d2 e).1 z; omega
      · omega)]
    exact a4 z
  · have ne : (K = 7 ∨ K = 5) → V ≠ pc_rk M V' := fun e => (d2 e).2 z
    rw [hf (o + 16) _ (by
      unfold px_une
      by_cases e : K = 7 ∨ K = 5
      · have := ne e; omega
      · omega), hf (o + 20) _ (by
      unfold px_une
      by_cases e : K = 5
      · have := ne (Or.inr e); omega
      · omega)]
    exact a5 z
theorem pe_vv_lt {M SV : Nat → Bool} {K V : Nat} (h9 : K = 9 → V < 100) (h7 : K = 7 → V < 74) (h5 : K = 5 → V < 24) : (K = 9 → pe_vv M SV K V < 100) ∧ (K = 7 → pe_vv M SV K V < 74) ∧ (K = 5 → pe_vv M SV K V < 24) := by
  have a := pc_rk_le M V
  have b := pc_rk_le SV V
  unfold pe_vv
  refine ⟨fun z => ?_, fun z => ?_, fun z => ?_⟩
  · have := h9 z
    rw [if_neg (by omega), if_pos z]; omega
  · have := h7 z
    rw [if_neg (by omega), if_neg (by omega)]; omega
  · have := h5 z
    rw [if_pos (by omega)]; omega
