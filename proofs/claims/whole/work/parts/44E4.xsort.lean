/-! GROUPS by the class, all three splits -/
theorem pg_eq_al (gs : ps_G) (t : pt_T) : pg_eq (pv_al gs t) := ⟨fun a r h => rfl, fun a b q r h => (q r h).symm, fun a b c p q r h => (p r h).trans (q r h)⟩
theorem pg_eq_1 : pg_eq (fun _ _ => True) := ⟨fun _ => trivial, fun _ _ _ => trivial, fun _ _ _ _ _ => trivial⟩
/-- what goes together by a split -/
def pg_r (gs : ps_G) (t : pt_T) (A : Nat → Nat) (si : Nat) : Nat → Nat → Nat → Prop
  | 0 => fun _ _ => True
  | 1 => pv_al gs t
  | _ + 2 => pg_j A si
theorem pg_r_eq (gs : ps_G) (t : pt_T) (A : Nat → Nat) (si sp : Nat) : pg_eq (pg_r gs t A si sp) := by
  rcases sp with _ | _ | sp
  · exact pg_eq_1
  · exact pg_eq_al gs t
  · exact pg_j_eq A si
noncomputable def pg_g (gs : ps_G) (t : pt_T) (A : Nat → Nat) (si nf mk sp : Nat) : List Nat := pg_l mk (pg_mt (fun g => mk.testBit g = true) (pg_r gs t A si sp) nf) nf
theorem pg_g_E (gs : ps_G) (t : pt_T) (A : Nat → Nat) (si nf mk sp : Nat) : pg_E mk (pg_mt (fun g => mk.testBit g = true) (pg_r gs t A si sp) nf) nf := pg_E_of (pg_r_eq gs t A si sp) (fun f _ => Iff.rfl)
theorem pg_g_len (gs : ps_G) (t : pt_T) (A : Nat → Nat) (si nf mk sp : Nat) : (pg_g gs t A si nf mk sp).length ≤ nf := pg_l_len _ _ _
theorem pg_j_M {M : Nat → Prop} {A : Nat → Nat} {k f g : Nat} (hA : ∀ s, s < k → ∀ a, (A s).testBit a = true → M a) (h : pg_j A k f g) (hf : M f) : M g := by
  have q := h (fun a b => M a ↔ M b) ⟨fun a => Iff.rfl, fun a b p => p.symm, fun a b c p q => p.trans q⟩ (fun s hs a b p q => ⟨fun _ => hA s hs b q, fun _ => hA s hs a p⟩)
  exact q.mp hf
def px_fs (o : Nat) (w w' : fa_W) : Prop := ∀ i j, ¬ (o + 1 ≤ i ∧ i ≤ o + 6) → w' i j = w i j
theorem px_sort {o oP oT oF nf si mk nd : Nat} {gs : ps_G} {t : pt_T} {A : Nat → Nat} {w : fa_W} (ho : px_Go o) (hp : px_po oP) (hto : px_to oT) (hd : oP + 26 < o) (hdT : oT + 16 < o) (hdF : oF + 10 < o) (h24 : nf ≤ 24) (hsi : si ≤ 100) (hmk : mk < 2 ^ nf) (h14 : w oP 14 = (nf : Int)) (h15 : w oP 15 = (si : Int)) (hmade : w oF 5 = (mk : Int)) (hTV : px_TV oT oP gs t nf nd w) (hA : ∀ s, s < si → ∀ a, (A s).testBit a = true → mk.testBit a = true) (hS : ∀ w', (∀ i j, i < o → w' i j = w i j) → ∀ s, s < si → A s < 2 ^ nf ∧ ∃ i : Nat, fr_at (fa_rf oP 5) (s : Int) w' = (i : Int) ∧ fm_Flow_applied oF oP (i : Int) w' = (A s : Int)) : ∃ w', fm_Groups_sort o oP oT oF w = some w' ∧ px_fs o w w' ∧ w' (o + 1) 1 = ((72 : Nat) : Int) ∧ w' (o + 3) 1 = ((3 : Nat) : Int) ∧ ∀ sp, sp < 3 → px_GL o sp (pg_g gs t A si nf mk sp) w' := by
  obtain ⟨⟨r0, r1, r2⟩, ⟨s0, s1, s2⟩, m0, m1, m2⟩ := id ho
  have e72 : (72 : Int) = ((72 : Nat) : Int) := rfl
  have e3 : (3 : Int) = ((3 : Nat) : Int) := rfl
  unfold fm_Groups_sort
  rw [r0, e72, pf_let_eq]
  have q1 := pb_refill (r := o + 1) (m := 72) (v := 0) (by omega) (by rw [m0]; exact Nat.le_refl _) w
  generalize fr_refill (o + 1) ((72 : Nat) : Int) 0 w = w2 at q1
  rw [r1, e3, pf_let_eq]
  have q2 := pb_refill (r := o + 3) (m := 3) (v := 0) (by omega) (by rw [m1]; exact Nat.le_refl _) w2
  generalize fr_refill (o + 3) ((3 : Nat) : Int) 0 w2 = w4 at q2
  obtain ⟨q11, q12, q13⟩ := q1
  obtain ⟨q21, q22, q23⟩ := q2
  rw [s0, show o + 1 + 1 = o + 2 by omega] at q12 q13
  rw [s1, show o + 3 + 1 = o + 4 by omega] at q22 q23
  have f4 : ∀ i j, ¬ (o + 1 ≤ i ∧ i ≤ o + 4) → w4 i j = w i j := fun i j p => by
    rw [q23 i (by omega) (by omega), q13 i (by omega) (by omega)]
  have h14' : w4 oP 14 = (nf : Int) := (f4 _ _ (by omega)).trans h14
  have hm4 : w4 oF 5 = (mk : Int) := (f4 _ _ (by omega)).trans hmade
  rw [r2, h14', hm4, pf_let_eq]
  have q3 := pb_refill (r := o + 5) (m := nf) (v := (mk : Int)) (by omega) (by rw [m2]; exact h24) w4
  generalize fr_refill (o + 5) (nf : Int) (mk : Int) w4 = w6 at q3
  obtain ⟨q31, q32, q33⟩ := q3
  rw [s2, show o + 5 + 1 = o + 6 by omega] at q32 q33
  have f6 : ∀ i j, ¬ (o + 1 ≤ i ∧ i ≤ o + 6) → w6 i j = w i j := fun i j p => by
    rw [q33 i (by omega) (by omega), f4 i j (by omega)]
  have h6m : w6 oF 5 = (mk : Int) := (f6 _ _ (by omega)).trans hmade
  have c1 : w6 (o + 1) 1 = ((72 : Nat) : Int) := by rw [q33 _ (by omega) (by omega), q23 _ (by omega) (by omega)]; exact q11
  have c3 : w6 (o + 3) 1 = ((3 : Nat) : Int) := by rw [q33 _ (by omega) (by omega)]; exact q21
  have c4 : ∀ sp, sp < 3 → w6 (o + 4) sp = 0 := fun sp hs => by rw [q33 _ (by omega) (by omega)]; exact q22 sp hs
  have z0 : ((0 : Nat) : Int) = 0 := rfl
  -- split 0
  have E0 := pg_g_E gs t A si nf mk 0
  have E1 := pg_g_E gs t A si nf mk 1
  have E2 := pg_g_E gs t A si nf mk 2
  obtain ⟨w8, a1, a2, a3⟩ := px_gnum (sp := 0) ho h24 (by decide) E0 hmk q31 (fun f hf c => by
    rw [q32 f hf]
    exact congrArg (fun n : Nat => (n : Int)) (pf_num_of hmk (fun g _ => ⟨fun q => ⟨q, trivial⟩, fun q => q.1⟩))) c1 c3 (c4 0 (by decide))
  rw [z0] at a1
  rw [h6m, a1, Option.bind_some]
  have f8 : ∀ i j, ¬ (o + 1 ≤ i ∧ i ≤ o + 6) → w8 i j = w i j := fun i j p => (a2 i j (by omega) (by omega)).trans (f6 i j p)
  -- split 1
  have TV8 : ∀ w', px_fm o w8 w' → px_TV oT oP gs t nf nd w' := fun w' h => px_TV_of hTV (fun i j p => (h i j (by omega)).trans (f8 i j (by omega)))
  obtain ⟨w10, b1, b2, b3⟩ := px_mateByType (oT := oT) (r := pv_al gs t) (w := w8) ho hd h24 hmk ((f8 _ _ (by omega)).trans h14) ((a2 _ _ (by omega) (by omega)).trans q31) (fun w' h f g hf hg => px_same hto (TV8 w' h) hf hg)
  rw [(f8 oF 5 (by omega)).trans hmade, b1, Option.bind_some]
  have f10 : ∀ i j, ¬ (o + 1 ≤ i ∧ i ≤ o + 6) → w10 i j = w i j := fun i j p => (b2 i j (by omega)).trans (f8 i j p)
  obtain ⟨w12, d1, d2, d3⟩ := px_gnum (sp := 1) (w := w10) ho h24 (by decide) E1 hmk ((b2 _ _ (by omega)).trans ((a2 _ _ (by omega) (by omega)).trans q31)) (fun f hf c => b3 f hf) ((b2 _ _ (by omega)).trans ((a2 _ _ (by omega) (by omega)).trans c1)) ((b2 _ _ (by omega)).trans ((a2 _ _ (by omega) (by omega)).trans c3)) ((b2 _ _ (by omega)).trans ((a2 _ _ (by omega) (by omega)).trans (c4 1 (by decide))))
  rw [(f10 oF 5 (by omega)).trans hmade, show (1 : Int) = ((1 : Nat) : Int) from rfl, d1, Option.bind_some]
  have f12 : ∀ i j, ¬ (o + 1 ≤ i ∧ i ≤ o + 6) → w12 i j = w i j := fun i j p => (d2 i j (by omega) (by omega)).trans (f10 i j p)
  -- split 2
  have ex : ∃ ix : Nat → Nat, ∀ s, s < si → A s < 2 ^ nf ∧ ∀ w', px_fm o w12 w' → fr_at (fa_rf oP 5) (s : Int) w' = (ix s : Int) ∧ fm_Flow_applied oF oP (ix s : Int) w' = (A s : Int) := by
    refine ⟨fun s => (fr_at (fa_rf oP 5) (s : Int) w12).toNat, fun s hs => ?_⟩
    obtain ⟨lA, i, i1, i2⟩ := hS w12 (fun i j p => f12 i j (by omega)) s hs
    refine ⟨lA, fun w' h => ?_⟩
    obtain ⟨_, i', j1, j2⟩ := hS w' (fun i j p => (h i j (by omega)).trans (f12 i j (by omega))) s hs
    have same : fr_at (fa_rf oP 5) (s : Int) w' = fr_at (fa_rf oP 5) (s : Int) w12 := by
      have r5 := (px_po_r5 hp).1
      have s5 := (px_po_r5 hp).2.1
      unfold fr_at
      rw [r5, s5, h _ _ (by omega), h _ _ (by omega)]
    try dsimp only
    rw [i1, Int.toNat_natCast]
    rw [same, i1] at j1
    have : i = i' := by omega
    rw [this]
    rw [this] at i1
    exact ⟨same.trans i1, j2⟩
  obtain ⟨ix, hix⟩ := ex
  obtain ⟨w14, g1, g2, g3⟩ := px_mateBySites (oF := oF) (ix := ix) (A := A) (w := w12) ho hp hd h24 hsi ((f12 _ _ (by omega)).trans h14) ((f12 _ _ (by omega)).trans h15) ((d2 _ _ (by omega) (by omega)).trans ((b2 _ _ (by omega)).trans ((a2 _ _ (by omega) (by omega)).trans q31))) hix
  rw [g1, Option.bind_some]
  have f14 : ∀ i j, ¬ (o + 1 ≤ i ∧ i ≤ o + 6) → w14 i j = w i j := fun i j p => (g2 i j (by omega)).trans (f12 i j p)
  obtain ⟨w16, k1, k2, k3⟩ := px_gnum (sp := 2) (w := w14) ho h24 (by decide) E2 hmk ((g2 _ _ (by omega)).trans ((d2 _ _ (by omega) (by omega)).trans ((b2 _ _ (by omega)).trans ((a2 _ _ (by omega) (by omega)).trans q31)))) (fun f hf c => by
    rw [g3 f hf]
    exact congrArg (fun n : Nat => (n : Int)) (pf_num_cong (fun g _ => ⟨fun q => ⟨pg_j_M (M := fun x => mk.testBit x = true) hA q c, q⟩, fun q => q.2⟩))) ((g2 _ _ (by omega)).trans ((d2 _ _ (by omega) (by omega)).trans ((b2 _ _ (by omega)).trans ((a2 _ _ (by omega) (by omega)).trans c1)))) ((g2 _ _ (by omega)).trans ((d2 _ _ (by omega) (by omega)).trans ((b2 _ _ (by omega)).trans ((a2 _ _ (by omega) (by omega)).trans c3)))) ((g2 _ _ (by omega)).trans ((d2 _ _ (by omega) (by omega)).trans ((b2 _ _ (by omega)).trans ((a2 _ _ (by omega) (by omega)).trans (c4 2 (by decide))))))
  rw [(f14 oF 5 (by omega)).trans hmade, show (2 : Int) = ((2 : Nat) : Int) from rfl, k1, Option.bind_some]
  refine ⟨w16, rfl, fun i j p => (k2 i j (by omega) (by omega)).trans (f14 i j p), ?_, ?_, fun sp hs => ?_⟩
  · exact (k2 _ _ (by omega) (by omega)).trans ((g2 _ _ (by omega)).trans ((d2 _ _ (by omega) (by omega)).trans ((b2 _ _ (by omega)).trans ((a2 _ _ (by omega) (by omega)).trans c1))))
  · exact (k2 _ _ (by omega) (by omega)).trans ((g2 _ _ (by omega)).trans ((d2 _ _ (by omega) (by omega)).trans ((b2 _ _ (by omega)).trans ((a2 _ _ (by omega) (by omega)).trans c3))))
  · have len := fun sp => pg_g_len gs t A si nf mk sp
    rcases sp with _ | _ | _ | sp
    · exact px_GL_of a3 (Nat.le_trans (len 0) h24) ((k2 _ _ (by omega) (by omega)).trans ((g2 _ _ (by omega)).trans ((d2 _ _ (by omega) (by omega)).trans (b2 _ _ (by omega))))) (fun j p q => (k2 _ _ (by omega) (by omega)).trans ((g2 _ _ (by omega)).trans ((d2 _ _ (by omega) (by omega)).trans (b2 _ _ (by omega)))))
    · exact px_GL_of d3 (Nat.le_trans (len 1) h24) ((k2 _ _ (by omega) (by omega)).trans (g2 _ _ (by omega))) (fun j p q => (k2 _ _ (by omega) (by omega)).trans (g2 _ _ (by omega)))
    · exact k3
    · omega
