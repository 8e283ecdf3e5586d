/-- the raw Program, emptied -/
theorem px_pclear (w : fa_W) : (∀ o, (o = 9 ∨ o = 11 ∨ o = 13 ∨ o = 15 ∨ o = 17 ∨ o = 25) → fm_Program_clear 8 w o 1 = 0) ∧ fm_Program_clear 8 w 19 1 = ((100 : Nat) : Int) ∧ fm_Program_clear 8 w 21 1 = ((74 : Nat) : Int) ∧ fm_Program_clear 8 w 23 1 = ((74 : Nat) : Int) ∧ fm_Program_clear 8 w 27 1 = ((24 : Nat) : Int) ∧ fm_Program_clear 8 w 8 13 = 0 ∧ fm_Program_clear 8 w 8 14 = 0 ∧ fm_Program_clear 8 w 8 15 = 0 ∧ fm_Program_clear 8 w 8 16 = -1 ∧ (∀ k, k < 100 → fm_Program_clear 8 w 20 k = -1) ∧ (∀ k, k < 74 → fm_Program_clear 8 w 22 k = 0) ∧ (∀ k, k < 74 → fm_Program_clear 8 w 24 k = -1) ∧ (∀ k, k < 24 → fm_Program_clear 8 w 28 k = -1) ∧ ∀ o k, (o < 8 ∨ 28 < o) → fm_Program_clear 8 w o k = w o k := by
  obtain ⟨w10, h10⟩ : ∃ x, x = fa_st (fa_st (fa_st (fa_st (fa_st w 9 1 0) 11 1 0) 13 1 0) 15 1 0) 17 1 0 := ⟨_, rfl⟩
  obtain ⟨w12, h12⟩ : ∃ x, x = fr_refill 19 ((100 : Nat) : Int) (-1) w10 := ⟨_, rfl⟩
  obtain ⟨w14, h14⟩ : ∃ x, x = fr_refill 21 ((74 : Nat) : Int) 0 w12 := ⟨_, rfl⟩
  obtain ⟨w16, h16⟩ : ∃ x, x = fr_refill 23 ((74 : Nat) : Int) (-1) w14 := ⟨_, rfl⟩
  obtain ⟨w20, h20⟩ : ∃ x, x = fr_refill 27 ((24 : Nat) : Int) (-1) (fa_st w16 25 1 0) := ⟨_, rfl⟩
  have E : fm_Program_clear 8 w = fa_st (fa_st (fa_st (fa_st w20 8 13 0) 8 14 0) 8 15 0) 8 16 (-1) := by
    rw [h20, h16, h14, h12, h10]
    rfl
  have r19 := pb_refill (r := 19) (m := 100) (v := -1) (by decide) (by decide) w10
  have r21 := pb_refill (r := 21) (m := 74) (v := 0) (by decide) (by decide) w12
  have r23 := pb_refill (r := 23) (m := 74) (v := -1) (by decide) (by decide) w14
  have r27 := pb_refill (r := 27) (m := 24) (v := -1) (by decide) (by decide) (fa_st w16 25 1 0)
  rw [← h12, show fa_rf 19 0 = 20 from rfl] at r19
  rw [← h14, show fa_rf 21 0 = 22 from rfl] at r21
  rw [← h16, show fa_rf 23 0 = 24 from rfl] at r23
  rw [← h20, show fa_rf 27 0 = 28 from rfl] at r27
  have k20 : ∀ o k, o ≠ 8 → fm_Program_clear 8 w o k = w20 o k := by
    intro o k q
    rw [E, fa_st_ne (fun z => q z.1), fa_st_ne (fun z => q z.1), fa_st_ne (fun z => q z.1), fa_st_ne (fun z => q z.1)]
  have k16 : ∀ o k, o ≠ 27 → o ≠ 28 → o ≠ 25 → w20 o k = w16 o k := by
    intro o k a b d
    rw [r27.2.2 o a b, fa_st_ne (fun z => d z.1)]
  have k14 : ∀ o k, o ≠ 23 → o ≠ 24 → w16 o k = w14 o k := fun o k a b => by rw [r23.2.2 o a b]
  have k12 : ∀ o k, o ≠ 21 → o ≠ 22 → w14 o k = w12 o k := fun o k a b => by rw [r21.2.2 o a b]
  have k10 : ∀ o k, o ≠ 19 → o ≠ 20 → w12 o k = w10 o k := fun o k a b => by rw [r19.2.2 o a b]
  have kA : ∀ o k, o < 8 ∨ 28 < o ∨ (9 ≤ o ∧ o ≤ 17) → fm_Program_clear 8 w o k = w10 o k := by
    intro o k q
    rw [k20 o k (by omega), k16 o k (by omega) (by omega) (by omega), k14 o k (by omega) (by omega), k12 o k (by omega) (by omega), k10 o k (by omega) (by omega)]
  refine ⟨?_, ?_, ?_, ?_, ?_, ?_, ?_, ?_, ?_, ?_, ?_, ?_, ?_, ?_⟩
  · intro o q
    rcases q with rfl | rfl | rfl | rfl | rfl | rfl
    · rw [kA _ _ (by omega), h10]; rfl
    · rw [kA _ _ (by omega), h10]; rfl
    · rw [kA _ _ (by omega), h10]; rfl
    · rw [kA _ _ (by omega), h10]; rfl
    · rw [kA _ _ (by omega), h10]; rfl
    · rw [k20 _ _ (by omega), r27.2.2 25 (by omega) (by omega), fa_st_eq]
  · rw [k20 _ _ (by omega), k16 _ _ (by omega) (by omega) (by omega), k14 _ _ (by omega) (by omega), k12 _ _ (by omega) (by omega)]; exact r19.1
  · rw [k20 _ _ (by omega), k16 _ _ (by omega) (by omega) (by omega), k14 _ _ (by omega) (by omega)]; exact r21.1
  · rw [k20 _ _ (by omega), k16 _ _ (by omega) (by omega) (by omega)]; exact r23.1
  · rw [k20 _ _ (by omega)]; exact r27.1
  · rw [E]; rfl
  · rw [E]; rfl
  · rw [E]; rfl
  · rw [E]; rfl
  · intro k hk
    rw [k20 _ _ (by omega), k16 _ _ (by omega) (by omega) (by omega), k14 _ _ (by omega) (by omega), k12 _ _ (by omega) (by omega)]; exact r19.2.1 k hk
  · intro k hk
    rw [k20 _ _ (by omega), k16 _ _ (by omega) (by omega) (by omega), k14 _ _ (by omega) (by omega)]; exact r21.2.1 k hk
  · intro k hk
    rw [k20 _ _ (by omega), k16 _ _ (by omega) (by omega) (by omega)]; exact r23.2.1 k hk
  · intro k hk
    rw [k20 _ _ (by omega)]; exact r27.2.1 k hk
  · intro o k q
    rw [kA o k (by omega), h10, fa_st_ne (by omega), fa_st_ne (by omega), fa_st_ne (by omega), fa_st_ne (by omega), fa_st_ne (by omega)]
/-- the class's reader, before its first word -/
theorem px_start {c : Nat → Int} {n : Nat} {w : fa_W} (ht : px_tx c n w) : pb_ok (fm_Reader_advance (fm_Reader_clear w)) (fun w' => px_S c n ([], [], -1, 0) (0, 0, 0, [], 0, 0, 0) w' ∧ px_fo w w' ∧ w' 8 14 = 0 ∧ w' 8 16 = -1) := by
  obtain ⟨p1, p2, p3, p4, p5, p6, p7, p8, p9, p10, p11, p12, p13, p14⟩ := px_pclear w
  have E : fm_Reader_clear w = fa_st (fa_st (fa_st (fa_st (fa_st (fa_st (fa_st (fa_st (fm_Program_clear 8 w) 35 1 0) 7 3 0) 7 7 (-1)) 7 8 0) 7 9 0) 7 10 0) 7 11 0) 7 12 (-1) := rfl
  rw [E]
  generalize fm_Program_clear 8 w = w1 at p1 p2 p3 p4 p5 p6 p7 p8 p9 p10 p11 p12 p13 p14 ⊢
  have nn : ∀ o k, o ≠ 7 → o ≠ 35 → fa_st (fa_st (fa_st (fa_st (fa_st (fa_st (fa_st (fa_st w1 35 1 0) 7 3 0) 7 7 (-1)) 7 8 0) 7 9 0) 7 10 0) 7 11 0) 7 12 (-1) o k = w1 o k := by
    intro o k a b
    rw [fa_st_ne (fun z => a z.1), fa_st_ne (fun z => a z.1), fa_st_ne (fun z => a z.1), fa_st_ne (fun z => a z.1), fa_st_ne (fun z => a z.1), fa_st_ne (fun z => a z.1), fa_st_ne (fun z => a z.1), fa_st_ne (fun z => b z.1)]
  have c3 : fa_st (fa_st (fa_st (fa_st (fa_st (fa_st (fa_st (fa_st w1 35 1 0) 7 3 0) 7 7 (-1)) 7 8 0) 7 9 0) 7 10 0) 7 11 0) 7 12 (-1) 7 3 = ((0 : Nat) : Int) := rfl
  have c7 : fa_st (fa_st (fa_st (fa_st (fa_st (fa_st (fa_st (fa_st w1 35 1 0) 7 3 0) 7 7 (-1)) 7 8 0) 7 9 0) 7 10 0) 7 11 0) 7 12 (-1) 7 7 = -1 := rfl
  have c8 : fa_st (fa_st (fa_st (fa_st (fa_st (fa_st (fa_st (fa_st w1 35 1 0) 7 3 0) 7 7 (-1)) 7 8 0) 7 9 0) 7 10 0) 7 11 0) 7 12 (-1) 7 8 = ((0 : Nat) : Int) := rfl
  have c9 : fa_st (fa_st (fa_st (fa_st (fa_st (fa_st (fa_st (fa_st w1 35 1 0) 7 3 0) 7 7 (-1)) 7 8 0) 7 9 0) 7 10 0) 7 11 0) 7 12 (-1) 7 9 = ((0 : Nat) : Int) := rfl
  have c10 : fa_st (fa_st (fa_st (fa_st (fa_st (fa_st (fa_st (fa_st w1 35 1 0) 7 3 0) 7 7 (-1)) 7 8 0) 7 9 0) 7 10 0) 7 11 0) 7 12 (-1) 7 10 = ((0 : Nat) : Int) := rfl
  have c11 : fa_st (fa_st (fa_st (fa_st (fa_st (fa_st (fa_st (fa_st w1 35 1 0) 7 3 0) 7 7 (-1)) 7 8 0) 7 9 0) 7 10 0) 7 11 0) 7 12 (-1) 7 11 = ((0 : Nat) : Int) := rfl
  have c12 : fa_st (fa_st (fa_st (fa_st (fa_st (fa_st (fa_st (fa_st w1 35 1 0) 7 3 0) 7 7 (-1)) 7 8 0) 7 9 0) 7 10 0) 7 11 0) 7 12 (-1) 7 12 = -1 := rfl
  have c35 : fa_st (fa_st (fa_st (fa_st (fa_st (fa_st (fa_st (fa_st w1 35 1 0) 7 3 0) 7 7 (-1)) 7 8 0) 7 9 0) 7 10 0) 7 11 0) 7 12 (-1) 35 1 = ((0 : Nat) : Int) := rfl
  have oo : ∀ o k, (o < 7 ∨ 36 < o) → fa_st (fa_st (fa_st (fa_st (fa_st (fa_st (fa_st (fa_st w1 35 1 0) 7 3 0) 7 7 (-1)) 7 8 0) 7 9 0) 7 10 0) 7 11 0) 7 12 (-1) o k = w o k := by
    intro o k q
    rw [nn o k (by omega) (by omega), p14 o k (by omega)]
  generalize fa_st (fa_st (fa_st (fa_st (fa_st (fa_st (fa_st (fa_st w1 35 1 0) 7 3 0) 7 7 (-1)) 7 8 0) 7 9 0) 7 10 0) 7 11 0) 7 12 (-1) = w2 at nn c3 c7 c8 c9 c10 c11 c12 c35 oo ⊢
  have t2 : px_tx c n w2 := px_tx_of ht (oo 1 1 (by omega)) (fun k => oo 2 k (by omega))
  refine pb_mono (px_advance t2 c7 c3 (Nat.zero_le n)) (fun w3 q => ?_)
  obtain ⟨q1, q2⟩ := q
  have m : ∀ o k, o ≠ 7 → w3 o k = w2 o k := fun o k a => q2 o k (by omega)
  have m8 : ∀ o k, o ≠ 7 → o ≠ 35 → w3 o k = w1 o k := fun o k a b => (m o k a).trans (nn o k a b)
  refine ⟨⟨px_k_tx q2 t2, q1, (q2 7 7 (by omega)).trans c7, (q2 7 8 (by omega)).trans c8, (q2 7 9 (by omega)).trans c9, (q2 7 10 (by omega)).trans c10, (q2 7 11 (by omega)).trans c11, (q2 7 12 (by omega)).trans c12, (m8 8 15 (by omega) (by omega)).trans p8, ⟨(m8 9 1 (by omega) (by omega)).trans (p1 9 (by omega)), (m8 11 1 (by omega) (by omega)).trans (p1 11 (by omega)), (m8 13 1 (by omega) (by omega)).trans (p1 13 (by omega)), (m8 15 1 (by omega) (by omega)).trans (p1 15 (by omega)), (m8 17 1 (by omega) (by omega)).trans (p1 17 (by omega)), (m8 19 1 (by omega) (by omega)).trans p2, (m8 21 1 (by omega) (by omega)).trans p3, (m8 23 1 (by omega) (by omega)).trans p4, (m8 27 1 (by omega) (by omega)).trans p5⟩, ⟨(m8 8 13 (by omega) (by omega)).trans p6, (m8 25 1 (by omega) (by omega)).trans (p1 25 (by omega)), fun k x q => by cases q⟩, (m 35 1 (by omega)).trans c35, trivial, by omega⟩, ?_, (m8 8 14 (by omega) (by omega)).trans p7, (m8 8 16 (by omega) (by omega)).trans p9⟩
  intro o k q
  exact (m o k (by omega)).trans (oo o k q)
