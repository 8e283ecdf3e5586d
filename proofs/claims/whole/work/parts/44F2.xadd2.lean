/-! a THING is added to one of the kept Programs, which is emptied first (as parts 4433, 4448 for the raw one) -/
def px_sza (nd : Nat) (w : fa_W) : Prop := w 57 1 = (nd : Int) ∧ w 59 1 = (nd : Int) ∧ w 61 1 = (nd : Int) ∧ w 63 1 = (nd : Int) ∧ w 65 1 = ((3 * nd : Nat) : Int) ∧ w 67 1 = ((100 : Nat) : Int) ∧ w 69 1 = ((74 : Nat) : Int) ∧ w 71 1 = ((74 : Nat) : Int) ∧ w 75 1 = ((24 : Nat) : Int)
def px_una (nd K v o k : Nat) : Prop := ¬ ((o = 58 ∨ o = 60 ∨ o = 62 ∨ o = 64) ∧ k = nd) ∧ ¬ (o = 66 ∧ 3 * nd ≤ k) ∧ ¬ ((o = 57 ∨ o = 59 ∨ o = 61 ∨ o = 63 ∨ o = 65) ∧ k = 1) ∧ ¬ (o = 68 ∧ k = v ∧ K = 9) ∧ ¬ (o = 72 ∧ k = v ∧ (K = 7 ∨ K = 5)) ∧ ¬ (o = 76 ∧ k = v ∧ K = 5)
theorem px_padda {nd K v st : Nat} {h a b c : Int} {w : fa_W} (hz : px_sza nd w) (hnd : nd < 100) (hst : (fa_wr a = -1 ∧ st = nd) ∨ ∃ a' : Nat, a = (a' : Int) ∧ a' < nd ∧ w 64 a' = (st : Int)) (hK : K ≤ 9) (h9 : K = 9 → v < 100) (h7 : K = 7 → v < 74) (h5 : K = 5 → v < 24) : ∃ w', fm_Program_add 56 (K : Int) (v : Int) h a b c w = ((nd : Int), w') ∧ px_N 56 w' nd K v h st a b c ∧ px_sza (nd + 1) w' ∧ (K = 9 → w' 68 v = (nd : Int)) ∧ (K = 7 ∨ K = 5 → w' 72 v = (nd : Int)) ∧ (K = 5 → w' 76 v = a) ∧ ∀ o k, px_una nd K v o k → w' o k = w o k := by
  obtain ⟨z1, z2, z3, z4, z5, z6, z7, z8, z9⟩ := hz
  have i1 := px_ad1 (r := 57) (v := (K : Int)) rfl z1 (by show nd < 100; exact hnd)
  have n2 : fr_add 57 (K : Int) w 59 1 = (nd : Int) := (i1.2.2 59 1 (by omega) (by omega)).trans z2
  have i2 := px_ad1 (r := 59) (v := (v : Int)) rfl n2 (by show nd < 100; exact hnd)
  have n3 : fr_add 59 (v : Int) (fr_add 57 (K : Int) w) 61 1 = (nd : Int) := (i2.2.2 61 1 (by omega) (by omega)).trans ((i1.2.2 61 1 (by omega) (by omega)).trans z3)
  have i3 := px_ad1 (r := 61) (v := h) rfl n3 (by show nd < 100; exact hnd)
  have a3 : ∀ o k, ¬ ((o = 57 ∨ o = 59 ∨ o = 61) ∧ k = 1) → ¬ ((o = 58 ∨ o = 60 ∨ o = 62) ∧ k = nd) → fr_add 61 h (fr_add 59 (v : Int) (fr_add 57 (K : Int) w)) o k = w o k := fun o k q1 q2 => (i3.2.2 o k (by omega) (by omega)).trans ((i2.2.2 o k (by omega) (by omega)).trans (i1.2.2 o k (by omega) (by omega)))
  have c10 : fr_add 61 h (fr_add 59 (v : Int) (fr_add 57 (K : Int) w)) 58 nd = (K : Int) := (i3.2.2 58 nd (by omega) (by omega)).trans ((i2.2.2 58 nd (by omega) (by omega)).trans i1.2.1)
  have c12 : fr_add 61 h (fr_add 59 (v : Int) (fr_add 57 (K : Int) w)) 60 nd = (v : Int) := (i3.2.2 60 nd (by omega) (by omega)).trans i2.2.1
  have c14 : fr_add 61 h (fr_add 59 (v : Int) (fr_add 57 (K : Int) w)) 62 nd = h := i3.2.1
  have s9 : fr_add 61 h (fr_add 59 (v : Int) (fr_add 57 (K : Int) w)) 57 1 = ((nd + 1 : Nat) : Int) := (i3.2.2 57 1 (by omega) (by omega)).trans ((i2.2.2 57 1 (by omega) (by omega)).trans i1.1)
  have s11 : fr_add 61 h (fr_add 59 (v : Int) (fr_add 57 (K : Int) w)) 59 1 = ((nd + 1 : Nat) : Int) := (i3.2.2 59 1 (by omega) (by omega)).trans i2.1
  have s13 : fr_add 61 h (fr_add 59 (v : Int) (fr_add 57 (K : Int) w)) 61 1 = ((nd + 1 : Nat) : Int) := i3.1
  clear i1 i2 i3 n2 n3
  unfold fm_Program_add fm_Row_size
  dsimp only [fa_let]
  rw [show fa_rf 56 0 = 57 from rfl, show fa_rf 56 1 = 59 from rfl, show fa_rf 56 2 = 61 from rfl, z1]
  generalize fr_add 61 h (fr_add 59 (v : Int) (fr_add 57 (K : Int) w)) = w3 at a3 c10 c12 c14 s9 s11 s13 ⊢
  have hs0 : (if fa_wr a = -1 then fm_Program_add_j57 56 (K : Int) (v : Int) h a b c (nd : Int) (nd : Int) w3 else fm_Program_add_j57 56 (K : Int) (v : Int) h a b c (nd : Int) (fr_at (fa_rf 56 3) a w3) w3) = fm_Program_add_j57 56 (K : Int) (v : Int) h a b c (nd : Int) (st : Int) w3 := by
    rcases hst with ⟨e1, e2⟩ | ⟨a', e1, e2, e3⟩
    · rw [if_pos e1, e2]
    · subst e1
      rw [pb_wr (by omega), if_neg (by omega), show fa_rf 56 3 = 63 from rfl, pb_at (n := nd) (by rw [a3 63 1 (by omega) (by omega)]; exact z4) e2 (by show nd ≤ 100; omega), show fa_rf 63 0 = 64 from rfl, a3 64 a' (by omega) (by omega), e3]
  rw [hs0]
  unfold fm_Program_add_j57
  dsimp only [fa_let]
  rw [show fa_rf 56 3 = 63 from rfl, show fa_rf 56 4 = 65 from rfl, show fa_rf 56 5 = 67 from rfl, show fa_rf 56 7 = 71 from rfl, show fa_rf 56 9 = 75 from rfl]
  have i4 := px_ad1 (r := 63) (v := (st : Int)) rfl ((a3 63 1 (by omega) (by omega)).trans z4) (by show nd < 100; exact hnd)
  have n5 : fr_add 63 (st : Int) w3 65 1 = ((3 * nd : Nat) : Int) := (i4.2.2 65 1 (by omega) (by omega)).trans ((a3 65 1 (by omega) (by omega)).trans z5)
  have i5 := px_ad1 (r := 65) (v := a) rfl n5 (by show 3 * nd < 300; omega)
  have i6 := px_ad1 (r := 65) (v := b) rfl i5.1 (by show 3 * nd + 1 < 300; omega)
  have i7 := px_ad1 (r := 65) (v := c) rfl i6.1 (by show 3 * nd + 1 + 1 < 300; omega)
  have p1 : fr_add 65 c (fr_add 65 b (fr_add 65 a (fr_add 63 (st : Int) w3))) 66 (3 * nd) = a := (i7.2.2 66 _ (by omega) (by omega)).trans ((i6.2.2 66 _ (by omega) (by omega)).trans i5.2.1)
  have p2 : fr_add 65 c (fr_add 65 b (fr_add 65 a (fr_add 63 (st : Int) w3))) 66 (3 * nd + 1) = b := (i7.2.2 66 _ (by omega) (by omega)).trans i6.2.1
  have p3 : fr_add 65 c (fr_add 65 b (fr_add 65 a (fr_add 63 (st : Int) w3))) 66 (3 * nd + 2) = c := i7.2.1
  have q7 : ∀ o k, ¬ ((o = 63 ∨ o = 65) ∧ k = 1) → ¬ (o = 64 ∧ k = nd) → ¬ (o = 66 ∧ 3 * nd ≤ k) → fr_add 65 c (fr_add 65 b (fr_add 65 a (fr_add 63 (st : Int) w3))) o k = w3 o k := fun o k r1 r2 r3 => (i7.2.2 o k (by omega) (by omega)).trans ((i6.2.2 o k (by omega) (by omega)).trans ((i5.2.2 o k (by omega) (by omega)).trans (i4.2.2 o k (by omega) (by omega))))
  have s17 : fr_add 65 c (fr_add 65 b (fr_add 65 a (fr_add 63 (st : Int) w3))) 65 1 = ((3 * (nd + 1) : Nat) : Int) := by rw [i7.1]; congr 1
  have s15 : fr_add 65 c (fr_add 65 b (fr_add 65 a (fr_add 63 (st : Int) w3))) 63 1 = ((nd + 1 : Nat) : Int) := (i7.2.2 63 1 (by omega) (by omega)).trans ((i6.2.2 63 1 (by omega) (by omega)).trans ((i5.2.2 63 1 (by omega) (by omega)).trans i4.1))
  have c16 : fr_add 65 c (fr_add 65 b (fr_add 65 a (fr_add 63 (st : Int) w3))) 64 nd = (st : Int) := (i7.2.2 64 nd (by omega) (by omega)).trans ((i6.2.2 64 nd (by omega) (by omega)).trans ((i5.2.2 64 nd (by omega) (by omega)).trans i4.2.1))
  clear i4 i5 i6 i7 n5
  generalize fr_add 65 c (fr_add 65 b (fr_add 65 a (fr_add 63 (st : Int) w3))) = w7 at p1 p2 p3 q7 s17 s15 c16 ⊢
  have q0 : ∀ o k, ¬ ((o = 58 ∨ o = 60 ∨ o = 62 ∨ o = 64) ∧ k = nd) → ¬ (o = 66 ∧ 3 * nd ≤ k) → ¬ ((o = 57 ∨ o = 59 ∨ o = 61 ∨ o = 63 ∨ o = 65) ∧ k = 1) → w7 o k = w o k := fun o k r1 r2 r3 => (q7 o k (by omega) (by omega) (by omega)).trans (a3 o k (by omega) (by omega))
  have N : px_N 56 w7 nd K v h st a b c := ⟨(q7 58 nd (by omega) (by omega) (by omega)).trans c10, (q7 60 nd (by omega) (by omega) (by omega)).trans c12, (q7 62 nd (by omega) (by omega) (by omega)).trans c14, c16, p1, p2, p3⟩
  have Z : px_sza (nd + 1) w7 := ⟨(q7 57 1 (by omega) (by omega) (by omega)).trans s9, (q7 59 1 (by omega) (by omega) (by omega)).trans s11, (q7 61 1 (by omega) (by omega) (by omega)).trans s13, s15, s17, (q0 67 1 (by omega) (by omega) (by omega)).trans z6, (q0 69 1 (by omega) (by omega) (by omega)).trans z7, (q0 71 1 (by omega) (by omega) (by omega)).trans z8, (q0 75 1 (by omega) (by omega) (by omega)).trans z9⟩
  clear q7 a3 c10 c12 c14 s9 s11 s13 p1 p2 p3 s17 s15 c16 z1 z2 z3 z4 z5 z6 z7 z8 z9 hs0 hst
  obtain ⟨x1, x2, x3, x4, x5, x6, x7, x8, x9⟩ := id Z
  obtain ⟨y1, y2, y3, y4, y5, y6, y7⟩ := id N
  rw [pb_wr (n := K) (by omega)]
  by_cases k9 : K = 9
  · rw [if_pos (by omega)]
    have s := px_set1 (r := 67) (k := v) (v := (nd : Int)) rfl x6 (h9 k9) (by decide)
    refine ⟨_, rfl, ⟨?_, ?_, ?_, ?_, ?_, ?_, ?_⟩, ⟨?_, ?_, ?_, ?_, ?_, ?_, ?_, ?_, ?_⟩, fun _ => s.1, fun q => by omega, fun q => by omega, fun o k q => ?_⟩
    all_goals first
      | (rw [s.2 _ _ (by omega)]; assumption)
      | (rw [s.2 o k (by have := q.2.2.2.1; omega)]; exact q0 o k q.1 q.2.1 q.2.2.1)
  · rw [if_neg (by omega)]
    by_cases k7 : K = 7
    · rw [if_pos (by omega)]
      have s := px_set1 (r := 71) (k := v) (v := (nd : Int)) rfl x8 (h7 k7) (by decide)
      refine ⟨_, rfl, ⟨?_, ?_, ?_, ?_, ?_, ?_, ?_⟩, ⟨?_, ?_, ?_, ?_, ?_, ?_, ?_, ?_, ?_⟩, fun q => by omega, fun _ => s.1, fun q => by omega, fun o k q => ?_⟩
      all_goals first
        | (rw [s.2 _ _ (by omega)]; assumption)
        | (rw [s.2 o k (by have := q.2.2.2.2.1; omega)]; exact q0 o k q.1 q.2.1 q.2.2.1)
    · rw [if_neg (by omega)]
      by_cases k5 : K = 5
      · rw [if_pos (by omega)]
        have s := px_set1 (r := 71) (k := v) (v := (nd : Int)) rfl x8 (by have := h5 k5; omega) (by decide)
        have s2 := px_set1 (r := 75) (k := v) (v := a) rfl ((s.2 75 1 (by omega)).trans x9) (h5 k5) (by decide)
        refine ⟨_, rfl, ⟨?_, ?_, ?_, ?_, ?_, ?_, ?_⟩, ⟨?_, ?_, ?_, ?_, ?_, ?_, ?_, ?_, ?_⟩, fun q => by omega, fun _ => (s2.2 72 v (by omega)).trans s.1, fun _ => s2.1, fun o k q => ?_⟩
        all_goals first
          | (rw [s2.2 _ _ (by omega), s.2 _ _ (by omega)]; assumption)
          | (rw [s2.2 o k (by have := q.2.2.2.2.2; omega), s.2 o k (by have := q.2.2.2.2.1; omega)]; exact q0 o k q.1 q.2.1 q.2.2.1)
      · rw [if_neg (by omega)]
        exact ⟨w7, rfl, N, Z, fun q => by omega, fun q => by omega, fun q => by omega, fun o k q => q0 o k q.1 q.2.1 q.2.2.1⟩

theorem px_pcleara (w : fa_W) : (∀ o, (o = 57 ∨ o = 59 ∨ o = 61 ∨ o = 63 ∨ o = 65 ∨ o = 73) → fm_Program_clear 56 w o 1 = 0) ∧ fm_Program_clear 56 w 67 1 = ((100 : Nat) : Int) ∧ fm_Program_clear 56 w 69 1 = ((74 : Nat) : Int) ∧ fm_Program_clear 56 w 71 1 = ((74 : Nat) : Int) ∧ fm_Program_clear 56 w 75 1 = ((24 : Nat) : Int) ∧ fm_Program_clear 56 w 56 13 = 0 ∧ fm_Program_clear 56 w 56 14 = 0 ∧ fm_Program_clear 56 w 56 15 = 0 ∧ fm_Program_clear 56 w 56 16 = -1 ∧ (∀ k, k < 100 → fm_Program_clear 56 w 68 k = -1) ∧ (∀ k, k < 74 → fm_Program_clear 56 w 70 k = 0) ∧ (∀ k, k < 74 → fm_Program_clear 56 w 72 k = -1) ∧ (∀ k, k < 24 → fm_Program_clear 56 w 76 k = -1) ∧ ∀ o k, (o < 56 ∨ 76 < o) → fm_Program_clear 56 w o k = w o k := by
  obtain ⟨w10, h10⟩ : ∃ x, x = fa_st (fa_st (fa_st (fa_st (fa_st w 57 1 0) 59 1 0) 61 1 0) 63 1 0) 65 1 0 := ⟨_, rfl⟩
  obtain ⟨w12, h12⟩ : ∃ x, x = fr_refill 67 ((100 : Nat) : Int) (-1) w10 := ⟨_, rfl⟩
  obtain ⟨w14, h14⟩ : ∃ x, x = fr_refill 69 ((74 : Nat) : Int) 0 w12 := ⟨_, rfl⟩
  obtain ⟨w16, h16⟩ : ∃ x, x = fr_refill 71 ((74 : Nat) : Int) (-1) w14 := ⟨_, rfl⟩
  obtain ⟨w20, h20⟩ : ∃ x, x = fr_refill 75 ((24 : Nat) : Int) (-1) (fa_st w16 73 1 0) := ⟨_, rfl⟩
  have E : fm_Program_clear 56 w = fa_st (fa_st (fa_st (fa_st w20 56 13 0) 56 14 0) 56 15 0) 56 16 (-1) := by
    rw [h20, h16, h14, h12, h10]
    rfl
  have r19 := pb_refill (r := 67) (m := 100) (v := -1) (by decide) (by decide) w10
  have r21 := pb_refill (r := 69) (m := 74) (v := 0) (by decide) (by decide) w12
  have r23 := pb_refill (r := 71) (m := 74) (v := -1) (by decide) (by decide) w14
  have r27 := pb_refill (r := 75) (m := 24) (v := -1) (by decide) (by decide) (fa_st w16 73 1 0)
  rw [← h12, show fa_rf 67 0 = 68 from rfl] at r19
  rw [← h14, show fa_rf 69 0 = 70 from rfl] at r21
  rw [← h16, show fa_rf 71 0 = 72 from rfl] at r23
  rw [← h20, show fa_rf 75 0 = 76 from rfl] at r27
  have k20 : ∀ o k, o ≠ 56 → fm_Program_clear 56 w o k = w20 o k := by
    intro o k q
    rw [E, fa_st_ne (fun z => q z.1), fa_st_ne (fun z => q z.1), fa_st_ne (fun z => q z.1), fa_st_ne (fun z => q z.1)]
  have k16 : ∀ o k, o ≠ 75 → o ≠ 76 → o ≠ 73 → w20 o k = w16 o k := by
    intro o k a b d
    rw [r27.2.2 o a b, fa_st_ne (fun z => d z.1)]
  have k14 : ∀ o k, o ≠ 71 → o ≠ 72 → w16 o k = w14 o k := fun o k a b => by rw [r23.2.2 o a b]
  have k12 : ∀ o k, o ≠ 69 → o ≠ 70 → w14 o k = w12 o k := fun o k a b => by rw [r21.2.2 o a b]
  have k10 : ∀ o k, o ≠ 67 → o ≠ 68 → w12 o k = w10 o k := fun o k a b => by rw [r19.2.2 o a b]
  have kA : ∀ o k, o < 56 ∨ 76 < o ∨ (57 ≤ o ∧ o ≤ 65) → fm_Program_clear 56 w o k = w10 o k := by
    intro o k q
    rw [k20 o k (by omega), k16 o k (by omega) (by omega) (by omega), k14 o k (by omega) (by omega), k12 o k (by omega) (by omega), k10 o k (by omega) (by omega)]
  refine ⟨?_, ?_, ?_, ?_, ?_, ?_, ?_, ?_, ?_, ?_, ?_, ?_, ?_, ?_⟩
  · intro o q
    rcases q with rfl | rfl | rfl | rfl | rfl | rfl
    · rw [kA _ _ (by omega), h10]; rfl
    · rw [kA _ _ (by omega), h10]; rfl
    · rw [kA _ _ (by omega), h10]; rfl
    · rw [kA _ _ (by omega), h10]; rfl
    · rw [kA _ _ (by omega), h10]; rfl
    · rw [k20 _ _ (by omega), r27.2.2 73 (by omega) (by omega), fa_st_eq]
  · rw [k20 _ _ (by omega), k16 _ _ (by omega) (by omega) (by omega), k14 _ _ (by omega) (by omega), k12 _ _ (by omega) (by omega)]; exact r19.1
  · rw [k20 _ _ (by omega), k16 _ _ (by omega) (by omega) (by omega), k14 _ _ (by omega) (by omega)]; exact r21.1
  · rw [k20 _ _ (by omega), k16 _ _ (by omega) (by omega) (by omega)]; exact r23.1
  · rw [k20 _ _ (by omega)]; exact r27.1
  · rw [E]; rfl
  · rw [E]; rfl
  · rw [E]; rfl
  · rw [E]; rfl
  · intro k hk
    rw [k20 _ _ (by omega), k16 _ _ (by omega) (by omega) (by omega), k14 _ _ (by omega) (by omega), k12 _ _ (by omega) (by omega)]; exact r19.2.1 k hk
  · intro k hk
    rw [k20 _ _ (by omega), k16 _ _ (by omega) (by omega) (by omega), k14 _ _ (by omega) (by omega)]; exact r21.2.1 k hk
  · intro k hk
    rw [k20 _ _ (by omega), k16 _ _ (by omega) (by omega) (by omega)]; exact r23.2.1 k hk
  · intro k hk
    rw [k20 _ _ (by omega)]; exact r27.2.1 k hk
  · intro o k q
    rw [kA o k (by omega), h10, fa_st_ne (by omega), fa_st_ne (by omega), fa_st_ne (by omega), fa_st_ne (by omega), fa_st_ne (by omega)]

def px_szb (nd : Nat) (w : fa_W) : Prop := w 120 1 = (nd : Int) ∧ w 122 1 = (nd : Int) ∧ w 124 1 = (nd : Int) ∧ w 126 1 = (nd : Int) ∧ w 128 1 = ((3 * nd : Nat) : Int) ∧ w 130 1 = ((100 : Nat) : Int) ∧ w 132 1 = ((74 : Nat) : Int) ∧ w 134 1 = ((74 : Nat) : Int) ∧ w 138 1 = ((24 : Nat) : Int)
def px_unb (nd K v o k : Nat) : Prop := ¬ ((o = 121 ∨ o = 123 ∨ o = 125 ∨ o = 127) ∧ k = nd) ∧ ¬ (o = 129 ∧ 3 * nd ≤ k) ∧ ¬ ((o = 120 ∨ o = 122 ∨ o = 124 ∨ o = 126 ∨ o = 128) ∧ k = 1) ∧ ¬ (o = 131 ∧ k = v ∧ K = 9) ∧ ¬ (o = 135 ∧ k = v ∧ (K = 7 ∨ K = 5)) ∧ ¬ (o = 139 ∧ k = v ∧ K = 5)
theorem px_paddb {nd K v st : Nat} {h a b c : Int} {w : fa_W} (hz : px_szb nd w) (hnd : nd < 100) (hst : (fa_wr a = -1 ∧ st = nd) ∨ ∃ a' : Nat, a = (a' : Int) ∧ a' < nd ∧ w 127 a' = (st : Int)) (hK : K ≤ 9) (h9 : K = 9 → v < 100) (h7 : K = 7 → v < 74) (h5 : K = 5 → v < 24) : ∃ w', fm_Program_add 119 (K : Int) (v : Int) h a b c w = ((nd : Int), w') ∧ px_N 119 w' nd K v h st a b c ∧ px_szb (nd + 1) w' ∧ (K = 9 → w' 131 v = (nd : Int)) ∧ (K = 7 ∨ K = 5 → w' 135 v = (nd : Int)) ∧ (K = 5 → w' 139 v = a) ∧ ∀ o k, px_unb nd K v o k → w' o k = w o k := by
  obtain ⟨z1, z2, z3, z4, z5, z6, z7, z8, z9⟩ := hz
  have i1 := px_ad1 (r := 120) (v := (K : Int)) rfl z1 (by show nd < 100; exact hnd)
  have n2 : fr_add 120 (K : Int) w 122 1 = (nd : Int) := (i1.2.2 122 1 (by omega) (by omega)).trans z2
  have i2 := px_ad1 (r := 122) (v := (v : Int)) rfl n2 (by show nd < 100; exact hnd)
  have n3 : fr_add 122 (v : Int) (fr_add 120 (K : Int) w) 124 1 = (nd : Int) := (i2.2.2 124 1 (by omega) (by omega)).trans ((i1.2.2 124 1 (by omega) (by omega)).trans z3)
  have i3 := px_ad1 (r := 124) (v := h) rfl n3 (by show nd < 100; exact hnd)
  have a3 : ∀ o k, ¬ ((o = 120 ∨ o = 122 ∨ o = 124) ∧ k = 1) → ¬ ((o = 121 ∨ o = 123 ∨ o = 125) ∧ k = nd) → fr_add 124 h (fr_add 122 (v : Int) (fr_add 120 (K : Int) w)) o k = w o k := fun o k q1 q2 => (i3.2.2 o k (by omega) (by omega)).trans ((i2.2.2 o k (by omega) (by omega)).trans (i1.2.2 o k (by omega) (by omega)))
  have c10 : fr_add 124 h (fr_add 122 (v : Int) (fr_add 120 (K : Int) w)) 121 nd = (K : Int) := (i3.2.2 121 nd (by omega) (by omega)).trans ((i2.2.2 121 nd (by omega) (by omega)).trans i1.2.1)
  have c12 : fr_add 124 h (fr_add 122 (v : Int) (fr_add 120 (K : Int) w)) 123 nd = (v : Int) := (i3.2.2 123 nd (by omega) (by omega)).trans i2.2.1
  have c14 : fr_add 124 h (fr_add 122 (v : Int) (fr_add 120 (K : Int) w)) 125 nd = h := i3.2.1
  have s9 : fr_add 124 h (fr_add 122 (v : Int) (fr_add 120 (K : Int) w)) 120 1 = ((nd + 1 : Nat) : Int) := (i3.2.2 120 1 (by omega) (by omega)).trans ((i2.2.2 120 1 (by omega) (by omega)).trans i1.1)
  have s11 : fr_add 124 h (fr_add 122 (v : Int) (fr_add 120 (K : Int) w)) 122 1 = ((nd + 1 : Nat) : Int) := (i3.2.2 122 1 (by omega) (by omega)).trans i2.1
  have s13 : fr_add 124 h (fr_add 122 (v : Int) (fr_add 120 (K : Int) w)) 124 1 = ((nd + 1 : Nat) : Int) := i3.1
  clear i1 i2 i3 n2 n3
  unfold fm_Program_add fm_Row_size
  dsimp only [fa_let]
  rw [show fa_rf 119 0 = 120 from rfl, show fa_rf 119 1 = 122 from rfl, show fa_rf 119 2 = 124 from rfl, z1]
  generalize fr_add 124 h (fr_add 122 (v : Int) (fr_add 120 (K : Int) w)) = w3 at a3 c10 c12 c14 s9 s11 s13 ⊢
  have hs0 : (if fa_wr a = -1 then fm_Program_add_j57 119 (K : Int) (v : Int) h a b c (nd : Int) (nd : Int) w3 else fm_Program_add_j57 119 (K : Int) (v : Int) h a b c (nd : Int) (fr_at (fa_rf 119 3) a w3) w3) = fm_Program_add_j57 119 (K : Int) (v : Int) h a b c (nd : Int) (st : Int) w3 := by
    rcases hst with ⟨e1, e2⟩ | ⟨a', e1, e2, e3⟩
    · rw [if_pos e1, e2]
    · subst e1
      rw [pb_wr (by omega), if_neg (by omega), show fa_rf 119 3 = 126 from rfl, pb_at (n := nd) (by rw [a3 126 1 (by omega) (by omega)]; exact z4) e2 (by show nd ≤ 100; omega), show fa_rf 126 0 = 127 from rfl, a3 127 a' (by omega) (by omega), e3]
  rw [hs0]
  unfold fm_Program_add_j57
  dsimp only [fa_let]
  rw [show fa_rf 119 3 = 126 from rfl, show fa_rf 119 4 = 128 from rfl, show fa_rf 119 5 = 130 from rfl, show fa_rf 119 7 = 134 from rfl, show fa_rf 119 9 = 138 from rfl]
  have i4 := px_ad1 (r := 126) (v := (st : Int)) rfl ((a3 126 1 (by omega) (by omega)).trans z4) (by show nd < 100; exact hnd)
  have n5 : fr_add 126 (st : Int) w3 128 1 = ((3 * nd : Nat) : Int) := (i4.2.2 128 1 (by omega) (by omega)).trans ((a3 128 1 (by omega) (by omega)).trans z5)
  have i5 := px_ad1 (r := 128) (v := a) rfl n5 (by show 3 * nd < 300; omega)
  have i6 := px_ad1 (r := 128) (v := b) rfl i5.1 (by show 3 * nd + 1 < 300; omega)
  have i7 := px_ad1 (r := 128) (v := c) rfl i6.1 (by show 3 * nd + 1 + 1 < 300; omega)
  have p1 : fr_add 128 c (fr_add 128 b (fr_add 128 a (fr_add 126 (st : Int) w3))) 129 (3 * nd) = a := (i7.2.2 129 _ (by omega) (by omega)).trans ((i6.2.2 129 _ (by omega) (by omega)).trans i5.2.1)
  have p2 : fr_add 128 c (fr_add 128 b (fr_add 128 a (fr_add 126 (st : Int) w3))) 129 (3 * nd + 1) = b := (i7.2.2 129 _ (by omega) (by omega)).trans i6.2.1
  have p3 : fr_add 128 c (fr_add 128 b (fr_add 128 a (fr_add 126 (st : Int) w3))) 129 (3 * nd + 2) = c := i7.2.1
  have q7 : ∀ o k, ¬ ((o = 126 ∨ o = 128) ∧ k = 1) → ¬ (o = 127 ∧ k = nd) → ¬ (o = 129 ∧ 3 * nd ≤ k) → fr_add 128 c (fr_add 128 b (fr_add 128 a (fr_add 126 (st : Int) w3))) o k = w3 o k := fun o k r1 r2 r3 => (i7.2.2 o k (by omega) (by omega)).trans ((i6.2.2 o k (by omega) (by omega)).trans ((i5.2.2 o k (by omega) (by omega)).trans (i4.2.2 o k (by omega) (by omega))))
  have s17 : fr_add 128 c (fr_add 128 b (fr_add 128 a (fr_add 126 (st : Int) w3))) 128 1 = ((3 * (nd + 1) : Nat) : Int) := by rw [i7.1]; congr 1
  have s15 : fr_add 128 c (fr_add 128 b (fr_add 128 a (fr_add 126 (st : Int) w3))) 126 1 = ((nd + 1 : Nat) : Int) := (i7.2.2 126 1 (by omega) (by omega)).trans ((i6.2.2 126 1 (by omega) (by omega)).trans ((i5.2.2 126 1 (by omega) (by omega)).trans i4.1))
  have c16 : fr_add 128 c (fr_add 128 b (fr_add 128 a (fr_add 126 (st : Int) w3))) 127 nd = (st : Int) := (i7.2.2 127 nd (by omega) (by omega)).trans ((i6.2.2 127 nd (by omega) (by omega)).trans ((i5.2.2 127 nd (by omega) (by omega)).trans i4.2.1))
  clear i4 i5 i6 i7 n5
  generalize fr_add 128 c (fr_add 128 b (fr_add 128 a (fr_add 126 (st : Int) w3))) = w7 at p1 p2 p3 q7 s17 s15 c16 ⊢
  have q0 : ∀ o k, ¬ ((o = 121 ∨ o = 123 ∨ o = 125 ∨ o = 127) ∧ k = nd) → ¬ (o = 129 ∧ 3 * nd ≤ k) → ¬ ((o = 120 ∨ o = 122 ∨ o = 124 ∨ o = 126 ∨ o = 128) ∧ k = 1) → w7 o k = w o k := fun o k r1 r2 r3 => (q7 o k (by omega) (by omega) (by omega)).trans (a3 o k (by omega) (by omega))
  have N : px_N 119 w7 nd K v h st a b c := ⟨(q7 121 nd (by omega) (by omega) (by omega)).trans c10, (q7 123 nd (by omega) (by omega) (by omega)).trans c12, (q7 125 nd (by omega) (by omega) (by omega)).trans c14, c16, p1, p2, p3⟩
  have Z : px_szb (nd + 1) w7 := ⟨(q7 120 1 (by omega) (by omega) (by omega)).trans s9, (q7 122 1 (by omega) (by omega) (by omega)).trans s11, (q7 124 1 (by omega) (by omega) (by omega)).trans s13, s15, s17, (q0 130 1 (by omega) (by omega) (by omega)).trans z6, (q0 132 1 (by omega) (by omega) (by omega)).trans z7, (q0 134 1 (by omega) (by omega) (by omega)).trans z8, (q0 138 1 (by omega) (by omega) (by omega)).trans z9⟩
  clear q7 a3 c10 c12 c14 s9 s11 s13 p1 p2 p3 s17 s15 c16 z1 z2 z3 z4 z5 z6 z7 z8 z9 hs0 hst
  obtain ⟨x1, x2, x3, x4, x5, x6, x7, x8, x9⟩ := id Z
  obtain ⟨y1, y2, y3, y4, y5, y6, y7⟩ := id N
  rw [pb_wr (n := K) (by omega)]
  by_cases k9 : K = 9
  · rw [if_pos (by omega)]
    have s := px_set1 (r := 130) (k := v) (v := (nd : Int)) rfl x6 (h9 k9) (by decide)
    refine ⟨_, rfl, ⟨?_, ?_, ?_, ?_, ?_, ?_, ?_⟩, ⟨?_, ?_, ?_, ?_, ?_, ?_, ?_, ?_, ?_⟩, fun _ => s.1, fun q => by omega, fun q => by omega, fun o k q => ?_⟩
    all_goals first
      | (rw [s.2 _ _ (by omega)]; assumption)
      | (rw [s.2 o k (by have := q.2.2.2.1; omega)]; exact q0 o k q.1 q.2.1 q.2.2.1)
  · rw [if_neg (by omega)]
    by_cases k7 : K = 7
    · rw [if_pos (by omega)]
      have s := px_set1 (r := 134) (k := v) (v := (nd : Int)) rfl x8 (h7 k7) (by decide)
      refine ⟨_, rfl, ⟨?_, ?_, ?_, ?_, ?_, ?_, ?_⟩, ⟨?_, ?_, ?_, ?_, ?_, ?_, ?_, ?_, ?_⟩, fun q => by omega, fun _ => s.1, fun q => by omega, fun o k q => ?_⟩
      all_goals first
        | (rw [s.2 _ _ (by omega)]; assumption)
        | (rw [s.2 o k (by have := q.2.2.2.2.1; omega)]; exact q0 o k q.1 q.2.1 q.2.2.1)
    · rw [if_neg (by omega)]
      by_cases k5 : K = 5
      · rw [if_pos (by omega)]
        have s := px_set1 (r := 134) (k := v) (v := (nd : Int)) rfl x8 (by have := h5 k5; omega) (by decide)
        have s2 := px_set1 (r := 138) (k := v) (v := a) rfl ((s.2 138 1 (by omega)).trans x9) (h5 k5) (by decide)
        refine ⟨_, rfl, ⟨?_, ?_, ?_, ?_, ?_, ?_, ?_⟩, ⟨?_, ?_, ?_, ?_, ?_, ?_, ?_, ?_, ?_⟩, fun q => by omega, fun _ => (s2.2 135 v (by omega)).trans s.1, fun _ => s2.1, fun o k q => ?_⟩
        all_goals first
          | (rw [s2.2 _ _ (by omega), s.2 _ _ (by omega)]; assumption)
          | (rw [s2.2 o k (by have := q.2.2.2.2.2; omega), s.2 o k (by have := q.2.2.2.2.1; omega)]; exact q0 o k q.1 q.2.1 q.2.2.1)
      · rw [if_neg (by omega)]
        exact ⟨w7, rfl, N, Z, fun q => by omega, fun q => by omega, fun q => by omega, fun o k q => q0 o k q.1 q.2.1 q.2.2.1⟩

theorem px_pclearb (w : fa_W) : (∀ o, (o = 120 ∨ o = 122 ∨ o = 124 ∨ o = 126 ∨ o = 128 ∨ o = 136) → fm_Program_clear 119 w o 1 = 0) ∧ fm_Program_clear 119 w 130 1 = ((100 : Nat) : Int) ∧ fm_Program_clear 119 w 132 1 = ((74 : Nat) : Int) ∧ fm_Program_clear 119 w 134 1 = ((74 : Nat) : Int) ∧ fm_Program_clear 119 w 138 1 = ((24 : Nat) : Int) ∧ fm_Program_clear 119 w 119 13 = 0 ∧ fm_Program_clear 119 w 119 14 = 0 ∧ fm_Program_clear 119 w 119 15 = 0 ∧ fm_Program_clear 119 w 119 16 = -1 ∧ (∀ k, k < 100 → fm_Program_clear 119 w 131 k = -1) ∧ (∀ k, k < 74 → fm_Program_clear 119 w 133 k = 0) ∧ (∀ k, k < 74 → fm_Program_clear 119 w 135 k = -1) ∧ (∀ k, k < 24 → fm_Program_clear 119 w 139 k = -1) ∧ ∀ o k, (o < 119 ∨ 139 < o) → fm_Program_clear 119 w o k = w o k := by
  obtain ⟨w10, h10⟩ : ∃ x, x = fa_st (fa_st (fa_st (fa_st (fa_st w 120 1 0) 122 1 0) 124 1 0) 126 1 0) 128 1 0 := ⟨_, rfl⟩
  obtain ⟨w12, h12⟩ : ∃ x, x = fr_refill 130 ((100 : Nat) : Int) (-1) w10 := ⟨_, rfl⟩
  obtain ⟨w14, h14⟩ : ∃ x, x = fr_refill 132 ((74 : Nat) : Int) 0 w12 := ⟨_, rfl⟩
  obtain ⟨w16, h16⟩ : ∃ x, x = fr_refill 134 ((74 : Nat) : Int) (-1) w14 := ⟨_, rfl⟩
  obtain ⟨w20, h20⟩ : ∃ x, x = fr_refill 138 ((24 : Nat) : Int) (-1) (fa_st w16 136 1 0) := ⟨_, rfl⟩
  have E : fm_Program_clear 119 w = fa_st (fa_st (fa_st (fa_st w20 119 13 0) 119 14 0) 119 15 0) 119 16 (-1) := by
    rw [h20, h16, h14, h12, h10]
    rfl
  have r19 := pb_refill (r := 130) (m := 100) (v := -1) (by decide) (by decide) w10
  have r21 := pb_refill (r := 132) (m := 74) (v := 0) (by decide) (by decide) w12
  have r23 := pb_refill (r := 134) (m := 74) (v := -1) (by decide) (by decide) w14
  have r27 := pb_refill (r := 138) (m := 24) (v := -1) (by decide) (by decide) (fa_st w16 136 1 0)
  rw [← h12, show fa_rf 130 0 = 131 from rfl] at r19
  rw [← h14, show fa_rf 132 0 = 133 from rfl] at r21
  rw [← h16, show fa_rf 134 0 = 135 from rfl] at r23
  rw [← h20, show fa_rf 138 0 = 139 from rfl] at r27
  have k20 : ∀ o k, o ≠ 119 → fm_Program_clear 119 w o k = w20 o k := by
    intro o k q
    rw [E, fa_st_ne (fun z => q z.1), fa_st_ne (fun z => q z.1), fa_st_ne (fun z => q z.1), fa_st_ne (fun z => q z.1)]
  have k16 : ∀ o k, o ≠ 138 → o ≠ 139 → o ≠ 136 → w20 o k = w16 o k := by
    intro o k a b d
    rw [r27.2.2 o a b, fa_st_ne (fun z => d z.1)]
  have k14 : ∀ o k, o ≠ 134 → o ≠ 135 → w16 o k = w14 o k := fun o k a b => by rw [r23.2.2 o a b]
  have k12 : ∀ o k, o ≠ 132 → o ≠ 133 → w14 o k = w12 o k := fun o k a b => by rw [r21.2.2 o a b]
  have k10 : ∀ o k, o ≠ 130 → o ≠ 131 → w12 o k = w10 o k := fun o k a b => by rw [r19.2.2 o a b]
  have kA : ∀ o k, o < 119 ∨ 139 < o ∨ (120 ≤ o ∧ o ≤ 128) → fm_Program_clear 119 w o k = w10 o k := by
    intro o k q
    rw [k20 o k (by omega), k16 o k (by omega) (by omega) (by omega), k14 o k (by omega) (by omega), k12 o k (by omega) (by omega), k10 o k (by omega) (by omega)]
  refine ⟨?_, ?_, ?_, ?_, ?_, ?_, ?_, ?_, ?_, ?_, ?_, ?_, ?_, ?_⟩
  · intro o q
    rcases q with rfl | rfl | rfl | rfl | rfl | rfl
    · rw [kA _ _ (by omega), h10]; rfl
    · rw [kA _ _ (by omega), h10]; rfl
    · rw [kA _ _ (by omega), h10]; rfl
    · rw [kA _ _ (by omega), h10]; rfl
    · rw [kA _ _ (by omega), h10]; rfl
    · rw [k20 _ _ (by omega), r27.2.2 136 (by omega) (by omega), fa_st_eq]
  · rw [k20 _ _ (by omega), k16 _ _ (by omega) (by omega) (by omega), k14 _ _ (by omega) (by omega), k12 _ _ (by omega) (by omega)]; exact r19.1
  · rw [k20 _ _ (by omega), k16 _ _ (by omega) (by omega) (by omega), k14 _ _ (by omega) (by omega)]; exact r21.1
  · rw [k20 _ _ (by omega), k16 _ _ (by omega) (by omega) (by omega)]; exact r23.1
  · rw [k20 _ _ (by omega)]; exact r27.1
  · rw [E]; rfl
  · rw [E]; rfl
  · rw [E]; rfl
  · rw [E]; rfl
  · intro k hk
    rw [k20 _ _ (by omega), k16 _ _ (by omega) (by omega) (by omega), k14 _ _ (by omega) (by omega), k12 _ _ (by omega) (by omega)]; exact r19.2.1 k hk
  · intro k hk
    rw [k20 _ _ (by omega), k16 _ _ (by omega) (by omega) (by omega), k14 _ _ (by omega) (by omega)]; exact r21.2.1 k hk
  · intro k hk
    rw [k20 _ _ (by omega), k16 _ _ (by omega) (by omega) (by omega)]; exact r23.2.1 k hk
  · intro k hk
    rw [k20 _ _ (by omega)]; exact r27.2.1 k hk
  · intro o k q
    rw [kA o k (by omega), h10, fa_st_ne (by omega), fa_st_ne (by omega), fa_st_ne (by omega), fa_st_ne (by omega), fa_st_ne (by omega)]

/-! both at once -/
def px_sze (o nd : Nat) (w : fa_W) : Prop := w (o + 1) 1 = (nd : Int) ∧ w (o + 3) 1 = (nd : Int) ∧ w (o + 5) 1 = (nd : Int) ∧ w (o + 7) 1 = (nd : Int) ∧ w (o + 9) 1 = ((3 * nd : Nat) : Int) ∧ w (o + 11) 1 = ((100 : Nat) : Int) ∧ w (o + 13) 1 = ((74 : Nat) : Int) ∧ w (o + 15) 1 = ((74 : Nat) : Int) ∧ w (o + 19) 1 = ((24 : Nat) : Int)
def px_une (o nd K v O k : Nat) : Prop := ¬ ((O = o + 2 ∨ O = o + 4 ∨ O = o + 6 ∨ O = o + 8) ∧ k = nd) ∧ ¬ (O = o + 10 ∧ 3 * nd ≤ k) ∧ ¬ ((O = o + 1 ∨ O = o + 3 ∨ O = o + 5 ∨ O = o + 7 ∨ O = o + 9) ∧ k = 1) ∧ ¬ (O = o + 12 ∧ k = v ∧ K = 9) ∧ ¬ (O = o + 16 ∧ k = v ∧ (K = 7 ∨ K = 5)) ∧ ¬ (O = o + 20 ∧ k = v ∧ K = 5)
def px_oe (o : Nat) : Prop := o = 56 ∨ o = 119
theorem px_adde {o : Nat} (ho : px_oe o) {nd K v st : Nat} {h a b c : Int} {w : fa_W} (hz : px_sze o nd w) (hnd : nd < 100) (hst : (fa_wr a = -1 ∧ st = nd) ∨ ∃ a' : Nat, a = (a' : Int) ∧ a' < nd ∧ w (o + 8) a' = (st : Int)) (hK : K ≤ 9) (h9 : K = 9 → v < 100) (h7 : K = 7 → v < 74) (h5 : K = 5 → v < 24) : ∃ w', fm_Program_add o (K : Int) (v : Int) h a b c w = ((nd : Int), w') ∧ px_N o w' nd K v h st a b c ∧ px_sze o (nd + 1) w' ∧ (K = 9 → w' (o + 12) v = (nd : Int)) ∧ (K = 7 ∨ K = 5 → w' (o + 16) v = (nd : Int)) ∧ (K = 5 → w' (o + 20) v = a) ∧ ∀ O k, px_une o nd K v O k → w' O k = w O k := by
  rcases ho with rfl | rfl
  · exact px_padda hz hnd hst hK h9 h7 h5
  · exact px_paddb hz hnd hst hK h9 h7 h5
theorem px_cleare {o : Nat} (ho : px_oe o) (w : fa_W) : (∀ i, (i = o + 1 ∨ i = o + 3 ∨ i = o + 5 ∨ i = o + 7 ∨ i = o + 9 ∨ i = o + 17) → fm_Program_clear o w i 1 = 0) ∧ fm_Program_clear o w (o + 11) 1 = ((100 : Nat) : Int) ∧ fm_Program_clear o w (o + 13) 1 = ((74 : Nat) : Int) ∧ fm_Program_clear o w (o + 15) 1 = ((74 : Nat) : Int) ∧ fm_Program_clear o w (o + 19) 1 = ((24 : Nat) : Int) ∧ fm_Program_clear o w o 13 = 0 ∧ fm_Program_clear o w o 14 = 0 ∧ fm_Program_clear o w o 15 = 0 ∧ fm_Program_clear o w o 16 = -1 ∧ (∀ k, k < 100 → fm_Program_clear o w (o + 12) k = -1) ∧ (∀ k, k < 74 → fm_Program_clear o w (o + 14) k = 0) ∧ (∀ k, k < 74 → fm_Program_clear o w (o + 16) k = -1) ∧ (∀ k, k < 24 → fm_Program_clear o w (o + 20) k = -1) ∧ ∀ i k, (i < o ∨ o + 20 < i) → fm_Program_clear o w i k = w i k := by
  rcases ho with rfl | rfl
  · exact px_pcleara w
  · exact px_pclearb w
