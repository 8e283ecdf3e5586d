/-! the rows of a Program, one by one -/
theorem px_po_r0 {o : Nat} (hp : px_po o) : fa_rf o 0 = o + 1 ∧ fa_rf (o + 1) 0 = o + 1 + 1 ∧ fa_cp (o + 1) = 100 := ⟨hp.1.1, hp.2.1.1, hp.2.2.1⟩
theorem px_po_r1 {o : Nat} (hp : px_po o) : fa_rf o 1 = o + 3 ∧ fa_rf (o + 3) 0 = o + 3 + 1 ∧ fa_cp (o + 3) = 100 := ⟨hp.1.2.1, hp.2.1.2.1, hp.2.2.2.1⟩
theorem px_po_r2 {o : Nat} (hp : px_po o) : fa_rf o 2 = o + 5 ∧ fa_rf (o + 5) 0 = o + 5 + 1 ∧ fa_cp (o + 5) = 100 := ⟨hp.1.2.2.1, hp.2.1.2.2.1, hp.2.2.2.2.1⟩
theorem px_po_r3 {o : Nat} (hp : px_po o) : fa_rf o 3 = o + 7 ∧ fa_rf (o + 7) 0 = o + 7 + 1 ∧ fa_cp (o + 7) = 100 := ⟨hp.1.2.2.2.1, hp.2.1.2.2.2.1, hp.2.2.2.2.2.1⟩
theorem px_po_r4 {o : Nat} (hp : px_po o) : fa_rf o 4 = o + 9 ∧ fa_rf (o + 9) 0 = o + 9 + 1 ∧ fa_cp (o + 9) = 300 := ⟨hp.1.2.2.2.2.1, hp.2.1.2.2.2.2.1, hp.2.2.2.2.2.2.1⟩
theorem px_po_r5 {o : Nat} (hp : px_po o) : fa_rf o 5 = o + 11 ∧ fa_rf (o + 11) 0 = o + 11 + 1 ∧ fa_cp (o + 11) = 100 := ⟨hp.1.2.2.2.2.2.1, hp.2.1.2.2.2.2.2.1, hp.2.2.2.2.2.2.2.1⟩
theorem px_po_r6 {o : Nat} (hp : px_po o) : fa_rf o 6 = o + 13 ∧ fa_rf (o + 13) 0 = o + 13 + 1 ∧ fa_cp (o + 13) = 74 := ⟨hp.1.2.2.2.2.2.2.1, hp.2.1.2.2.2.2.2.2.1, hp.2.2.2.2.2.2.2.2.1⟩
theorem px_po_r7 {o : Nat} (hp : px_po o) : fa_rf o 7 = o + 15 ∧ fa_rf (o + 15) 0 = o + 15 + 1 ∧ fa_cp (o + 15) = 74 := ⟨hp.1.2.2.2.2.2.2.2.1, hp.2.1.2.2.2.2.2.2.2.1, hp.2.2.2.2.2.2.2.2.2.1⟩
theorem px_po_r8 {o : Nat} (hp : px_po o) : fa_rf o 8 = o + 17 ∧ fa_rf (o + 17) 0 = o + 17 + 1 ∧ fa_cp (o + 17) = 6 := ⟨hp.1.2.2.2.2.2.2.2.2.1, hp.2.1.2.2.2.2.2.2.2.2.1, hp.2.2.2.2.2.2.2.2.2.2.1⟩
theorem px_po_r9 {o : Nat} (hp : px_po o) : fa_rf o 9 = o + 19 ∧ fa_rf (o + 19) 0 = o + 19 + 1 ∧ fa_cp (o + 19) = 24 := ⟨hp.1.2.2.2.2.2.2.2.2.2.1, hp.2.1.2.2.2.2.2.2.2.2.2.1, hp.2.2.2.2.2.2.2.2.2.2.2.1⟩
theorem px_po_r10 {o : Nat} (hp : px_po o) : fa_rf o 10 = o + 21 ∧ fa_rf (o + 21) 0 = o + 21 + 1 ∧ fa_cp (o + 21) = 24 := ⟨hp.1.2.2.2.2.2.2.2.2.2.2.1, hp.2.1.2.2.2.2.2.2.2.2.2.2.1, hp.2.2.2.2.2.2.2.2.2.2.2.2.1⟩
theorem px_po_r11 {o : Nat} (hp : px_po o) : fa_rf o 11 = o + 23 ∧ fa_rf (o + 23) 0 = o + 23 + 1 ∧ fa_cp (o + 23) = 100 := ⟨hp.1.2.2.2.2.2.2.2.2.2.2.2.1, hp.2.1.2.2.2.2.2.2.2.2.2.2.2.1, hp.2.2.2.2.2.2.2.2.2.2.2.2.2.1⟩
theorem px_po_r12 {o : Nat} (hp : px_po o) : fa_rf o 12 = o + 25 ∧ fa_rf (o + 25) 0 = o + 25 + 1 ∧ fa_cp (o + 25) = 100 := ⟨hp.1.2.2.2.2.2.2.2.2.2.2.2.2, hp.2.1.2.2.2.2.2.2.2.2.2.2.2.2, hp.2.2.2.2.2.2.2.2.2.2.2.2.2.2⟩
