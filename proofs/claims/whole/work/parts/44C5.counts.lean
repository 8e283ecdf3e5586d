/-! SITES are counted -/
def pd_ct (p : Nat → Bool) : Nat → Nat → Nat
  | _, 0 => 0
  | k, d + 1 => (p k).toNat + pd_ct p (k + 1) d
theorem pd_ct_le (p : Nat → Bool) : ∀ d k, pd_ct p k d ≤ d := by
  intro d
  induction d with
  | zero => intro k; exact Nat.le_refl _
  | succ d ih =>
    intro k
    have := ih (k + 1)
    show (p k).toNat + pd_ct p (k + 1) d ≤ d + 1
    cases p k
    · show 0 + _ ≤ _; omega
    · show 1 + _ ≤ _; omega
theorem pd_one (b : Bool) (w : fa_W) : fm_Face_oneIf b w = ((b.toNat : Nat) : Int) := by cases b <;> rfl
theorem px_csites_l {o oP nf si f : Nat} {fb : Nat → pt_T} {t : pt_T} {sb : pf_sT} {w : fa_W} (h24 : nf ≤ 24) (hsi : si ≤ 100) (hf : f < 24) (hS : px_SV o oP nf si fb t sb w) : ∀ (d k F acc : Nat), si = k + d → d < F → fm_Flow_countSitesOf_l5 o oP (f : Int) w F (acc : Int) (k : Int) = some ((acc + pd_ct (fun s => (pf_A fb t sb nf s).testBit f) k d : Nat) : Int) := by
  intro d
  induction d with
  | zero =>
    intro k F acc hk hF
    obtain ⟨F, rfl⟩ : ∃ G, F = G + 1 := ⟨F - 1, by omega⟩
    unfold fm_Flow_countSitesOf_l5
    rw [hS.1, pb_wr (by omega), pb_wr (by omega), if_pos (by omega)]
    rfl
  | succ d ih =>
    intro k F acc hk hF
    obtain ⟨F, rfl⟩ : ∃ G, F = G + 1 := ⟨F - 1, by omega⟩
    obtain ⟨i, q1, q2, _⟩ := hS.2 k (by omega)
    have lA : pf_A fb t sb nf k < 2 ^ nf := pf_num_lt _ nf
    unfold fm_Flow_countSitesOf_l5
    rw [hS.1, pb_wr (by omega), pb_wr (by omega), if_neg (by omega), q1, q2, pf_hb (pf_lt24 (pf_two h24 lA)) hf, pd_one, pf_let_eq, pf_let_eq, show (acc : Int) + (((pf_A fb t sb nf k).testBit f).toNat : Int) = ((acc + ((pf_A fb t sb nf k).testBit f).toNat : Nat) : Int) from rfl, show ((k : Nat) : Int) + 1 = ((k + 1 : Nat) : Int) from rfl, ih (k + 1) F _ (by omega) (by omega)]
    show _ = some (((acc + (((pf_A fb t sb nf k).testBit f).toNat + pd_ct (fun s => (pf_A fb t sb nf s).testBit f) (k + 1) d) : Nat) : Int))
    rw [Nat.add_assoc]
theorem px_countSitesOf {o oP nf si f : Nat} {fb : Nat → pt_T} {t : pt_T} {sb : pf_sT} {w : fa_W} (h24 : nf ≤ 24) (hsi : si ≤ 100) (hf : f < 24) (hS : px_SV o oP nf si fb t sb w) : fm_Flow_countSitesOf o oP (f : Int) w = some ((pd_ct (fun s => (pf_A fb t sb nf s).testBit f) 0 si : Nat) : Int) := by
  obtain ⟨FU, hFU⟩ : ∃ F, F = fa_FU := ⟨_, rfl⟩
  have hF2 : 1000 < FU := by rw [hFU]; unfold fa_FU; omega
  unfold fm_Flow_countSitesOf
  rw [← hFU]
  have := px_csites_l h24 hsi hf hS si 0 FU 0 (by omega) (by omega)
  rw [Nat.zero_add] at this
  exact this
theorem px_cl_l {o oP nf si : Nat} {fb : Nat → pt_T} {t : pt_T} {sb : pf_sT} {w : fa_W} (hsi : si ≤ 100) (hS : px_SV o oP nf si fb t sb w) : ∀ (d k F acc : Nat), si = k + d → d < F → fm_Flow_countLooked_l4 o oP w F (acc : Int) (k : Int) = some ((acc + pd_ct (pf_lkb fb t sb) k d : Nat) : Int) := by
  intro d
  induction d with
  | zero =>
    intro k F acc hk hF
    obtain ⟨F, rfl⟩ : ∃ G, F = G + 1 := ⟨F - 1, by omega⟩
    unfold fm_Flow_countLooked_l4
    rw [hS.1, pb_wr (by omega), pb_wr (by omega), if_pos (by omega)]
    rfl
  | succ d ih =>
    intro k F acc hk hF
    obtain ⟨F, rfl⟩ : ∃ G, F = G + 1 := ⟨F - 1, by omega⟩
    obtain ⟨i, q1, _, _, _, q5, q6⟩ := hS.2 k (by omega)
    unfold fm_Flow_countLooked_l4
    rw [hS.1, pb_wr (by omega), pb_wr (by omega), if_neg (by omega), q1, q5, q6, pd_one, pf_let_eq, pf_let_eq, show (acc : Int) + ((pf_lkb fb t sb k).toNat : Int) = ((acc + (pf_lkb fb t sb k).toNat : Nat) : Int) from rfl, show ((k : Nat) : Int) + 1 = ((k + 1 : Nat) : Int) from rfl, ih (k + 1) F _ (by omega) (by omega)]
    show _ = some (((acc + ((pf_lkb fb t sb k).toNat + pd_ct (pf_lkb fb t sb) (k + 1) d) : Nat) : Int))
    rw [Nat.add_assoc]
theorem px_countLooked {o oP nf si : Nat} {fb : Nat → pt_T} {t : pt_T} {sb : pf_sT} {w : fa_W} (hsi : si ≤ 100) (hS : px_SV o oP nf si fb t sb w) : fm_Flow_countLooked o oP w = some ((pd_ct (pf_lkb fb t sb) 0 si : Nat) : Int) := by
  obtain ⟨FU, hFU⟩ : ∃ F, F = fa_FU := ⟨_, rfl⟩
  have hF2 : 1000 < FU := by rw [hFU]; unfold fa_FU; omega
  unfold fm_Flow_countLooked
  rw [← hFU]
  have := px_cl_l hsi hS si 0 FU 0 (by omega) (by omega)
  rw [Nat.zero_add] at this
  exact this
theorem px_ck_l {o oP nf si : Nat} {fb : Nat → pt_T} {t : pt_T} {sb : pf_sT} {w : fa_W} (h24 : nf ≤ 24) (hsi : si ≤ 100) (hS : px_SV o oP nf si fb t sb w) : ∀ (d k F acc : Nat), si = k + d → d < F → fm_Flow_countKnown_l4 o oP w F (acc : Int) (k : Int) = some ((acc + pd_ct (fun s => decide (pf_pop (pf_A fb t sb nf s) = 1)) k d : Nat) : Int) := by
  intro d
  induction d with
  | zero =>
    intro k F acc hk hF
    obtain ⟨F, rfl⟩ : ∃ G, F = G + 1 := ⟨F - 1, by omega⟩
    unfold fm_Flow_countKnown_l4
    rw [hS.1, pb_wr (by omega), pb_wr (by omega), if_pos (by omega)]
    rfl
  | succ d ih =>
    intro k F acc hk hF
    obtain ⟨F, rfl⟩ : ∃ G, F = G + 1 := ⟨F - 1, by omega⟩
    obtain ⟨i, q1, q2, _⟩ := hS.2 k (by omega)
    have lA : pf_A fb t sb nf k < 2 ^ nf := pf_num_lt _ nf
    have pl := pf_pop_le (pf_A fb t sb nf k)
    have nextv : pd_ct (fun s => decide (pf_pop (pf_A fb t sb nf s) = 1)) k (d + 1) = (decide (pf_pop (pf_A fb t sb nf k) = 1)).toNat + pd_ct (fun s => decide (pf_pop (pf_A fb t sb nf s) = 1)) (k + 1) d := rfl
    unfold fm_Flow_countKnown_l4 fm_Flow_countKnown_j38
    rw [hS.1, pb_wr (by omega), pb_wr (by omega), if_neg (by omega), q1, q2, pf_bitCount (pf_two h24 lA), pb_wr (by omega), nextv]
    by_cases e : pf_pop (pf_A fb t sb nf k) = 1
    · rw [if_pos (by omega), pd_one, pf_let_eq, pf_let_eq, decide_eq_true e]
      show fm_Flow_countKnown_l4 o oP w F ((acc + 1 : Nat) : Int) ((k + 1 : Nat) : Int) = _
      rw [ih (k + 1) F _ (by omega) (by omega), Nat.add_assoc]
      rfl
    · rw [if_neg (by omega), pd_one, pf_let_eq, pf_let_eq, decide_eq_false e]
      show fm_Flow_countKnown_l4 o oP w F ((acc + 0 : Nat) : Int) ((k + 1 : Nat) : Int) = _
      rw [ih (k + 1) F _ (by omega) (by omega), Nat.add_assoc]
      rfl
theorem px_countKnown {o oP nf si : Nat} {fb : Nat → pt_T} {t : pt_T} {sb : pf_sT} {w : fa_W} (h24 : nf ≤ 24) (hsi : si ≤ 100) (hS : px_SV o oP nf si fb t sb w) : fm_Flow_countKnown o oP w = some ((pd_ct (fun s => decide (pf_pop (pf_A fb t sb nf s) = 1)) 0 si : Nat) : Int) := by
  obtain ⟨FU, hFU⟩ : ∃ F, F = fa_FU := ⟨_, rfl⟩
  have hF2 : 1000 < FU := by rw [hFU]; unfold fa_FU; omega
  unfold fm_Flow_countKnown
  rw [← hFU]
  have := px_ck_l h24 hsi hS si 0 FU 0 (by omega) (by omega)
  rw [Nat.zero_add] at this
  exact this
/-! the same by the reference -/
theorem pm_sitesBy_l {nf si f : Nat} {fb : Nat → pt_T} {t : pt_T} {sb : pf_sT} {w : fa_W} (h24 : nf ≤ 24) (hsi : si ≤ 100) (hf : f < 24) (hS : pm_SV nf si fb t sb w) : ∀ (d k F acc : Nat), si = k + d → d < F → fm_Mod_sitesBy_l4 (f : Int) w F (acc : Int) (k : Int) = some ((acc + pd_ct (fun s => (pf_A fb t sb nf s).testBit f) k d : Nat) : Int) := by
  intro d
  induction d with
  | zero =>
    intro k F acc hk hF
    obtain ⟨F, rfl⟩ : ∃ G, F = G + 1 := ⟨F - 1, by omega⟩
    unfold fm_Mod_sitesBy_l4
    rw [hS.1, pb_wr (by omega), pb_wr (by omega), if_pos (by omega)]
    rfl
  | succ d ih =>
    intro k F acc hk hF
    obtain ⟨F, rfl⟩ : ∃ G, F = G + 1 := ⟨F - 1, by omega⟩
    obtain ⟨_, q2, _, _, q5⟩ := hS.2 k (by omega)
    have lA : pf_A fb t sb nf k < 2 ^ nf := pf_num_lt _ nf
    have jk : fa_ix (k : Int) 101 = some k := pb_ix (by omega) (by omega)
    have nextv : pd_ct (fun s => (pf_A fb t sb nf s).testBit f) k (d + 1) = ((pf_A fb t sb nf k).testBit f).toNat + pd_ct (fun s => (pf_A fb t sb nf s).testBit f) (k + 1) d := rfl
    have go : ∀ x : Nat, fm_Mod_sitesBy_l4 (f : Int) w F ((acc + x : Nat) : Int) ((k + 1 : Nat) : Int) = some ((acc + (x + pd_ct (fun s => (pf_A fb t sb nf s).testBit f) (k + 1) d) : Nat) : Int) := fun x => by
      rw [ih (k + 1) F _ (by omega) (by omega), Nat.add_assoc]
    unfold fm_Mod_sitesBy_l4 fm_Mod_sitesBy_j39
    rw [hS.1, pb_wr (by omega), pb_wr (by omega), if_neg (by omega), jk, Option.bind_some, q5, Option.bind_some, q2, pf_hd (pf_lt24 (pf_two h24 lA)) (by omega), nextv]
    cases e : pf_lkb fb t sb k with
    | false =>
      rw [pf_A_0 e, Nat.zero_testBit]
      exact go 0
    | true =>
      cases e2 : (pf_A fb t sb nf k).testBit f with
      | false => exact go 0
      | true => exact go 1
theorem pm_sitesBy {nf si f : Nat} {fb : Nat → pt_T} {t : pt_T} {sb : pf_sT} {w : fa_W} (h24 : nf ≤ 24) (hsi : si ≤ 100) (hf : f < 24) (hS : pm_SV nf si fb t sb w) : fm_Mod_sitesBy (f : Int) w = some ((pd_ct (fun s => (pf_A fb t sb nf s).testBit f) 0 si : Nat) : Int) := by
  obtain ⟨FU, hFU⟩ : ∃ F, F = fa_FU := ⟨_, rfl⟩
  have hF2 : 1000 < FU := by rw [hFU]; unfold fa_FU; omega
  unfold fm_Mod_sitesBy
  rw [← hFU]
  have := pm_sitesBy_l h24 hsi hf hS si 0 FU 0 (by omega) (by omega)
  rw [Nat.zero_add] at this
  exact this
theorem pm_looked_l {nf si : Nat} {fb : Nat → pt_T} {t : pt_T} {sb : pf_sT} {w : fa_W} (h24 : nf ≤ 24) (hsi : si ≤ 100) (hS : pm_SV nf si fb t sb w) (kn : Bool) : ∀ (d k F acc : Nat), si = k + d → d < F → fm_Mod_looked_l4 kn w F (acc : Int) (k : Int) = some ((acc + pd_ct (fun s => if kn = true then decide (pf_pop (pf_A fb t sb nf s) = 1) else pf_lkb fb t sb s) k d : Nat) : Int) := by
  intro d
  induction d with
  | zero =>
    intro k F acc hk hF
    obtain ⟨F, rfl⟩ : ∃ G, F = G + 1 := ⟨F - 1, by omega⟩
    unfold fm_Mod_looked_l4
    rw [hS.1, pb_wr (by omega), pb_wr (by omega), if_pos (by omega)]
    rfl
  | succ d ih =>
    intro k F acc hk hF
    obtain ⟨F, rfl⟩ : ∃ G, F = G + 1 := ⟨F - 1, by omega⟩
    obtain ⟨_, q2, _, _, q5⟩ := hS.2 k (by omega)
    have lA : pf_A fb t sb nf k < 2 ^ nf := pf_num_lt _ nf
    have pl := pf_pop_le (pf_A fb t sb nf k)
    have jk : fa_ix (k : Int) 101 = some k := pb_ix (by omega) (by omega)
    have nextv : ∀ p : Nat → Bool, pd_ct p k (d + 1) = (p k).toNat + pd_ct p (k + 1) d := fun _ => rfl
    have go : ∀ x : Nat, fm_Mod_looked_l4 kn w F ((acc + x : Nat) : Int) ((k + 1 : Nat) : Int) = some ((acc + (x + pd_ct (fun s => if kn = true then decide (pf_pop (pf_A fb t sb nf s) = 1) else pf_lkb fb t sb s) (k + 1) d) : Nat) : Int) := fun x => by
      rw [ih (k + 1) F _ (by omega) (by omega), Nat.add_assoc]
    unfold fm_Mod_looked_l4 fm_Mod_looked_j43 fm_Mod_looked_j39
    rw [hS.1, pb_wr (by omega), pb_wr (by omega), if_neg (by omega), jk, Option.bind_some, q5, Option.bind_some, q2, pf_bits (pf_two h24 lA), Option.bind_some, pb_wr (by omega), nextv]
    cases e : pf_lkb fb t sb k with
    | false =>
      rw [pf_A_0 e, pf_pop_0]
      cases kn <;> exact go 0
    | true =>
      cases kn with
      | false => exact go 1
      | true =>
        by_cases e2 : pf_pop (pf_A fb t sb nf k) = 1
        · rw [e2]
          exact go 1
        · rw [decide_eq_false e2]
          rw [if_pos (by rfl), if_pos rfl, if_neg (by omega)]
          exact go 0
theorem pm_looked {nf si : Nat} {fb : Nat → pt_T} {t : pt_T} {sb : pf_sT} {w : fa_W} (h24 : nf ≤ 24) (hsi : si ≤ 100) (hS : pm_SV nf si fb t sb w) (kn : Bool) : fm_Mod_looked kn w = some ((pd_ct (fun s => if kn = true then decide (pf_pop (pf_A fb t sb nf s) = 1) else pf_lkb fb t sb s) 0 si : Nat) : Int) := by
  obtain ⟨FU, hFU⟩ : ∃ F, F = fa_FU := ⟨_, rfl⟩
  have hF2 : 1000 < FU := by rw [hFU]; unfold fa_FU; omega
  unfold fm_Mod_looked
  rw [← hFU]
  have := pm_looked_l h24 hsi hS kn si 0 FU 0 (by omega) (by omega)
  rw [Nat.zero_add] at this
  exact this
