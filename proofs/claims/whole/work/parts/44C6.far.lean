/-! how far it is by CALLS -/
def pd_u (cal : Nat → Nat) (S : Nat) : Nat → Nat
  | 0 => 0
  | k + 1 => pd_u cal S k ||| (if S.testBit k = true then cal k else 0)
def pd_d (cal : Nat → Nat) (nf g : Nat) : Nat → Nat → Nat → Int
  | 0, _, _ => -1
  | d + 1, n, S => if S.testBit g = true then (n : Int) else pd_d cal nf g d (n + 1) (S ||| pd_u cal S nf)
theorem pd_u_lt {nf : Nat} {cal : Nat → Nat} (hb : ∀ f, cal f < 2 ^ nf) (S : Nat) : ∀ k, pd_u cal S k < 2 ^ nf := by
  intro k
  induction k with
  | zero => exact Nat.two_pow_pos _
  | succ k ih =>
    unfold pd_u
    refine Nat.or_lt_two_pow ih ?_
    split
    · exact hb k
    · exact Nat.two_pow_pos _
theorem pd_d_one {nf g : Nat} {cal : Nat → Nat} (h24 : nf ≤ 24) (hb : ∀ f, cal f < 2 ^ nf) : ∀ (d n S : Nat), d + n = 24 → S < 2 ^ nf → ((S ||| pd_u cal S nf = S ∧ ¬ S.testBit g = true) ∨ n + 1 ≤ pf_pop S) → pd_d cal nf g (d + 1) n S = pd_d cal nf g d n S := by
  intro d
  induction d with
  | zero =>
    intro n S hn hS h
    rcases h with ⟨_, h⟩ | h
    · show (if S.testBit g = true then (n : Int) else -1) = -1
      rw [if_neg h]
    · have := pf_pop_le S
      omega
  | succ d ih =>
    intro n S hn hS h
    show (if S.testBit g = true then (n : Int) else pd_d cal nf g (d + 1) (n + 1) (S ||| pd_u cal S nf)) = if S.testBit g = true then (n : Int) else pd_d cal nf g d (n + 1) (S ||| pd_u cal S nf)
    by_cases e : S.testBit g = true
    · rw [if_pos e, if_pos e]
    · rw [if_neg e, if_neg e]
      have lu := pd_u_lt hb S nf
      have lor := Nat.or_lt_two_pow hS lu
      refine ih (n + 1) _ (by omega) lor ?_
      by_cases st : S ||| pd_u cal S nf = S
      · rw [st]; exact Or.inl ⟨st, e⟩
      · rcases h with h | h
        · exact absurd h.1 st
        · refine Or.inr ?_
          have sub : ∀ k, S.testBit k = true → (S ||| pd_u cal S nf).testBit k = true := fun k q => by rw [Nat.testBit_or, q]; rfl
          have m := pf_pop_mono sub
          have ne : pf_pop (S ||| pd_u cal S nf) ≠ pf_pop S := fun q => st (pf_pop_eq sub (pf_two h24 hS) (pf_two h24 lor) q)
          omega
theorem px_callsOf_l {o nf S : Nat} {cal : Nat → Nat} {w : fa_W} (ho : px_Fo o) (h24 : nf ≤ 24) (hS : S < 2 ^ nf) (h5 : w (o + 5) 1 = (nf : Int)) (h6 : ∀ f, f < nf → w (o + 6) f = (cal f : Int)) (hb : ∀ f, cal f < 2 ^ nf) : ∀ (d k F : Nat), nf = k + d → d < F → fm_Flow_callsOf_l4 o (S : Int) w F ((pd_u cal S k : Nat) : Int) (k : Int) = some ((pd_u cal S nf : Nat) : Int) := by
  intro d
  induction d with
  | zero =>
    intro k F hk hF
    obtain ⟨F, rfl⟩ : ∃ G, F = G + 1 := ⟨F - 1, by omega⟩
    unfold fm_Flow_callsOf_l4 fm_Row_size
    rw [ho.1.2.2.1, h5, pb_wr (by omega), pb_wr (by omega), if_pos (by omega), show nf = k by omega]
  | succ d ih =>
    intro k F hk hF
    obtain ⟨F, rfl⟩ : ∃ G, F = G + 1 := ⟨F - 1, by omega⟩
    have nextv : pd_u cal S (k + 1) = pd_u cal S k ||| (if S.testBit k = true then cal k else 0) := rfl
    have i := ih (k + 1) F (by omega) (by omega)
    unfold fm_Flow_callsOf_l4 fm_Row_size
    rw [ho.1.2.2.1, h5, pb_wr (by omega), pb_wr (by omega), if_neg (by omega), pf_hb (pf_lt24 (pf_two h24 hS)) (by omega)]
    by_cases e : S.testBit k = true
    · rw [if_pos e, pb_bits h5 (by omega) (by rw [ho.2.2.2.2.1]; exact h24), ho.2.1.2.2.1, show o + 5 + 1 = o + 6 by omega, h6 k (by omega), pb_or (pf_lt24 (pf_two h24 (pd_u_lt hb S k))) (pf_lt24 (pf_two h24 (hb k))), pf_let_eq, pf_let_eq]
      rw [nextv, if_pos e] at i
      exact i
    · rw [if_neg e, pf_let_eq]
      rw [nextv, if_neg e, Nat.or_zero] at i
      exact i
theorem px_far_l {o nf g : Nat} {a1 : Int} {cal : Nat → Nat} {w : fa_W} (ho : px_Fo o) (h24 : nf ≤ 24) (hg : g < nf) (h5 : w (o + 5) 1 = (nf : Int)) (h6 : ∀ f, f < nf → w (o + 6) f = (cal f : Int)) (hb : ∀ f, cal f < 2 ^ nf) : ∀ (d n F S : Nat), d + n = 24 → d < F → S < 2 ^ nf → fm_Flow_distance_l32 o a1 (g : Int) w F (S : Int) (n : Int) = some (pd_d cal nf g d n S) := by
  obtain ⟨FU, hFU⟩ : ∃ F, F = fa_FU := ⟨_, rfl⟩
  have hF2 : 1000 < FU := by rw [hFU]; unfold fa_FU; omega
  intro d
  induction d with
  | zero =>
    intro n F S hn hF hS
    obtain ⟨F, rfl⟩ : ∃ G, F = G + 1 := ⟨F - 1, by omega⟩
    unfold fm_Flow_distance_l32
    rw [pb_wr (by omega), if_pos (by omega)]
    rfl
  | succ d ih =>
    intro n F S hn hF hS
    obtain ⟨F, rfl⟩ : ∃ G, F = G + 1 := ⟨F - 1, by omega⟩
    have lu := pd_u_lt hb S nf
    have nextv : pd_d cal nf g (d + 1) n S = if S.testBit g = true then (n : Int) else pd_d cal nf g d (n + 1) (S ||| pd_u cal S nf) := rfl
    have c := px_callsOf_l ho h24 hS h5 h6 hb nf 0 FU (by omega) (by omega)
    unfold fm_Flow_distance_l32 fm_Flow_callsOf
    rw [← hFU, pb_wr (by omega), if_neg (by omega), pf_hb (pf_lt24 (pf_two h24 hS)) (by omega), nextv]
    by_cases e : S.testBit g = true
    · rw [if_pos e, if_pos e]
    · have z0 : ((0 : Nat) : Int) = 0 := rfl
      have u0 : pd_u cal S 0 = 0 := rfl
      rw [u0, z0] at c
      rw [if_neg e, if_neg e, c, Option.bind_some, pb_or (pf_lt24 (pf_two h24 hS)) (pf_lt24 (pf_two h24 lu)), pf_let_eq, pf_let_eq]
      exact ih (n + 1) F _ (by omega) (by omega) (Nat.or_lt_two_pow hS lu)
theorem px_distance {o nd nf f g : Nat} {cal : Nat → Nat} {z : pf_s} {b : Bool} {w : fa_W} (ho : px_Fo o) (h24 : nf ≤ 24) (hf : f < nf) (hg : g < nf) (hc : px_xc o nd z b w) (ok : pf_ok nf z) (h5 : w (o + 5) 1 = (nf : Int)) (h6 : ∀ f, f < nf → w (o + 6) f = (cal f : Int)) (hb : ∀ f, cal f < 2 ^ nf) : fm_Flow_distance o (f : Int) (g : Int) w = some (if z.2.2.1.testBit f = true ∧ z.2.2.1.testBit g = true then pd_d cal nf g 24 0 (2 ^ f) else -1) := by
  obtain ⟨FU, hFU⟩ : ∃ F, F = fa_FU := ⟨_, rfl⟩
  have hF2 : 1000 < FU := by rw [hFU]; unfold fa_FU; omega
  unfold fm_Flow_distance
  rw [← hFU, hc.2.2.2.1, pf_hb (pf_lt24 (pf_two h24 ok.2.2.1)) (by omega), pf_hb (pf_lt24 (pf_two h24 ok.2.2.1)) (by omega)]
  by_cases e1 : z.2.2.1.testBit f = true
  · rw [if_pos e1]
    by_cases e2 : z.2.2.1.testBit g = true
    · rw [if_pos e2, if_pos ⟨e1, e2⟩, pf_bit (by omega), pf_let_eq]
      exact px_far_l ho h24 hg h5 h6 hb 24 0 FU _ (by omega) (by omega) (Nat.pow_lt_pow_right (by decide) hf)
    · rw [if_neg e2, if_neg (fun q => e2 q.2)]
  · rw [if_neg e1, if_neg (fun q => e1 q.1)]
theorem pm_far_87 {nf S n : Nat} {a1 a2 : Int} {cal : Nat → Nat} {w : fa_W} {K : Int → Int → fa_W → Option (Int × fa_W)} (h24 : nf ≤ 24) (hS : S < 2 ^ nf) (h17 : w 181 17 + w 181 18 = (nf : Int)) (h6 : ∀ f, f < nf → w 217 f = (cal f : Int)) (hb : ∀ f, cal f < 2 ^ nf) : ∀ (d k F : Nat), nf = k + d → d < F → fm_Mod_far_l87 a1 a2 K F (S : Int) (n : Int) ((S ||| pd_u cal S k : Nat) : Int) (k : Int) w = K ((S ||| pd_u cal S nf : Nat) : Int) ((n : Int) + 1) w := by
  intro d
  induction d with
  | zero =>
    intro k F hk hF
    obtain ⟨F, rfl⟩ : ∃ G, F = G + 1 := ⟨F - 1, by omega⟩
    unfold fm_Mod_far_l87 fm_Mod_functions
    rw [h17, pb_wr (by omega), pb_wr (by omega), if_pos (by omega), pf_let_eq, show nf = k by omega]
  | succ d ih =>
    intro k F hk hF
    obtain ⟨F, rfl⟩ : ∃ G, F = G + 1 := ⟨F - 1, by omega⟩
    have nextv : pd_u cal S (k + 1) = pd_u cal S k ||| (if S.testBit k = true then cal k else 0) := rfl
    have i := ih (k + 1) F (by omega) (by omega)
    have lS := Nat.or_lt_two_pow hS (pd_u_lt hb S k)
    unfold fm_Mod_far_l87 fm_Mod_functions
    rw [h17, pb_wr (by omega), pb_wr (by omega), if_neg (by omega), pf_hd (pf_lt24 (pf_two h24 hS)) (by omega)]
    by_cases e : S.testBit k = true
    · rw [if_pos e, pb_ix (k := k) (n := 24) (by omega) (by omega), Option.bind_some, h6 k (by omega), pb_or (pf_lt24 (pf_two h24 lS)) (pf_lt24 (pf_two h24 (hb k))), pf_let_eq, pf_let_eq]
      rw [nextv, if_pos e, ← Nat.or_assoc] at i
      exact i
    · rw [if_neg e, show (0 : Int) = ((0 : Nat) : Int) from rfl, pb_or (pf_lt24 (pf_two h24 lS)) (by decide), Nat.or_zero, pf_let_eq, pf_let_eq]
      rw [nextv, if_neg e, Nat.or_zero] at i
      exact i
theorem pm_far_l {nf g : Nat} {a1 : Int} {cal : Nat → Nat} {w : fa_W} (h24 : nf ≤ 24) (hg : g < nf) (h17 : w 181 17 + w 181 18 = (nf : Int)) (h6 : ∀ f, f < nf → w 217 f = (cal f : Int)) (hb : ∀ f, cal f < 2 ^ nf) : ∀ (d n F S : Nat), d + n = 25 → d < F → S < 2 ^ nf → fm_Mod_far_l63 a1 (g : Int) F (S : Int) (n : Int) w = some (pd_d cal nf g d n S, w) := by
  obtain ⟨FU, hFU⟩ : ∃ F, F = fa_FU := ⟨_, rfl⟩
  have hF2 : 1000 < FU := by rw [hFU]; unfold fa_FU; omega
  intro d
  induction d with
  | zero =>
    intro n F S hn hF hS
    obtain ⟨F, rfl⟩ : ∃ G, F = G + 1 := ⟨F - 1, by omega⟩
    unfold fm_Mod_far_l63
    rw [pb_wr (by omega), if_pos (by omega)]
    rfl
  | succ d ih =>
    intro n F S hn hF hS
    obtain ⟨F, rfl⟩ : ∃ G, F = G + 1 := ⟨F - 1, by omega⟩
    have lu := pd_u_lt hb S nf
    have nextv : pd_d cal nf g (d + 1) n S = if S.testBit g = true then (n : Int) else pd_d cal nf g d (n + 1) (S ||| pd_u cal S nf) := rfl
    have c := pm_far_87 (a1 := a1) (a2 := (g : Int)) (n := n) (K := fun x3 x4 w9 => fm_Mod_far_l63 a1 (g : Int) F x3 x4 w9) h24 hS h17 h6 hb nf 0 FU (by omega) (by omega)
    unfold fm_Mod_far_l63
    rw [← hFU, pb_wr (by omega), if_neg (by omega), pf_hd (pf_lt24 (pf_two h24 hS)) (by omega), nextv]
    by_cases e : S.testBit g = true
    · rw [if_pos e, if_pos e]
    · have z0 : ((0 : Nat) : Int) = 0 := rfl
      have u0 : pd_u cal S 0 = 0 := rfl
      rw [u0, z0, Nat.or_zero] at c
      rw [if_neg e, if_neg e, c]
      exact ih (n + 1) F _ (by omega) (by omega) (Nat.or_lt_two_pow hS lu)
theorem pm_far_set {nf f g : Nat} {a1 : Int} {cal : Nat → Nat} {w : fa_W} (h24 : nf ≤ 24) (hf : f < nf) (hg : g < nf) (h17 : w 181 17 + w 181 18 = (nf : Int)) (h6 : ∀ f, f < nf → w 217 f = (cal f : Int)) (hb : ∀ f, cal f < 2 ^ nf) : fm_Mod_far_l63 a1 (g : Int) fa_FU (fa_ishl 1 (f : Int)) 0 w = some (pd_d cal nf g 24 0 (2 ^ f), w) := by
  obtain ⟨FU, hFU⟩ : ∃ F, F = fa_FU := ⟨_, rfl⟩
  have hF2 : 1000 < FU := by rw [hFU]; unfold fa_FU; omega
  have lf : 2 ^ f < 2 ^ nf := Nat.pow_lt_pow_right (by decide) hf
  rw [← hFU, pf_shl1 (by omega)]
  have c := pm_far_l (a1 := a1) h24 hg h17 h6 hb 25 0 FU (2 ^ f) (by omega) (by omega) lf
  have z0 : ((0 : Nat) : Int) = 0 := rfl
  rw [z0] at c
  rw [c, pd_d_one h24 hb 24 0 (2 ^ f) (by omega) lf (Or.inr ?_)]
  have : pf_pop 0 < pf_pop (2 ^ f) := pf_pop_lt (fun k _ q => by rw [Nat.zero_testBit] at q; cases q) (show f < 24 by omega) (pf_one.mpr rfl) (Nat.zero_testBit f)
  omega
