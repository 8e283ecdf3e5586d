/-! what the class tells of GROUPS -/
def px_GX (o nf sp : Nat) (l : List Nat) (w : fa_W) : Prop := px_Go o ∧ nf ≤ 24 ∧ sp < 3 ∧ l.length ≤ nf ∧ (∀ k, k < l.length → l.getD k 0 < 2 ^ nf) ∧ w (o + 1) 1 = ((72 : Nat) : Int) ∧ w (o + 3) 1 = ((3 : Nat) : Int) ∧ px_GL o sp l w
theorem px_gmany {o nf sp : Nat} {l : List Nat} {w : fa_W} (h : px_GX o nf sp l w) : fm_Groups_many o (sp : Int) w = (l.length : Int) ∧ fr_bits (fa_rf o 1) (sp : Int) w = (l.length : Int) := by
  obtain ⟨ho, h24, hsp, hl, hb, h1, h3, hG⟩ := h
  have e : fr_bits (fa_rf o 1) (sp : Int) w = (l.length : Int) := by
    rw [ho.1.2.1, pb_bits h3 hsp (by rw [ho.2.2.2.1]; exact Nat.le_refl _), ho.2.1.2.1, show o + 3 + 1 = o + 4 by omega]
    exact hG.1
  exact ⟨e, e⟩
theorem px_gset {o nf sp k : Nat} {l : List Nat} {w : fa_W} (h : px_GX o nf sp l w) (hk : k < l.length) : fr_bits (fa_rf o 0) ((sp : Int) * 24 + (k : Int)) w = ((l.getD k 0 : Nat) : Int) := by
  obtain ⟨ho, h24, hsp, hl, hb, h1, h3, hG⟩ := h
  rw [ho.1.1, show (sp : Int) * 24 + (k : Int) = ((24 * sp + k : Nat) : Int) by omega, pb_bits h1 (by omega) (by rw [ho.2.2.1]; exact Nat.le_refl _), ho.2.1.1, show o + 1 + 1 = o + 2 by omega]
  exact hG.2 k hk
theorem px_members {o nf sp k : Nat} {l : List Nat} {w : fa_W} (h : px_GX o nf sp l w) (hk : k < l.length) : fm_Groups_members o (sp : Int) (k : Int) w = ((l.getD k 0 : Nat) : Int) := by
  have := h.2.2.2.1
  have := h.2.1
  unfold fm_Groups_members
  rw [(px_gmany h).1, pb_wr (by omega), pb_wr (by omega), if_neg (by omega), if_neg (by omega)]
  exact px_gset h hk
theorem px_groupOf_l {o nf sp f : Nat} {l : List Nat} {w : fa_W} (h : px_GX o nf sp l w) (hf : f < 24) : ∀ (r : List Nat) (k F : Nat), l.drop k = r → k ≤ l.length → r.length < F → fm_Groups_groupOf_l2 o (sp : Int) (f : Int) w F (k : Int) = some (pf_fi f r k) := by
  have hl := h.2.2.2.1
  have h24 := h.2.1
  intro r
  induction r with
  | nil =>
    intro k F hd hk hF
    obtain ⟨F, rfl⟩ : ∃ G, F = G + 1 := ⟨F - 1, by omega⟩
    have e := pb_drop_nil hd hk
    unfold fm_Groups_groupOf_l2
    rw [(px_gmany h).2, pb_wr (by omega), pb_wr (by omega), if_pos (by omega)]
    rfl
  | cons m r ih =>
    intro k F hd hk hF
    rw [List.length_cons] at hF
    obtain ⟨F, rfl⟩ : ∃ G, F = G + 1 := ⟨F - 1, by omega⟩
    obtain ⟨c1, c2, c3⟩ := pb_drop_cons (d := 0) hd
    have lm := h.2.2.2.2.1 k c1
    unfold fm_Groups_groupOf_l2
    rw [(px_gmany h).2, pb_wr (by omega), pb_wr (by omega), if_neg (by omega), px_gset h c1, pf_hb (pf_lt24 (pf_two h24 lm)) hf, c2]
    show _ = some (if m.testBit f = true then (k : Int) else pf_fi f r (k + 1))
    by_cases e : m.testBit f = true
    · rw [if_pos e, if_pos e]
    · rw [if_neg e, if_neg e, pf_let_eq]
      exact ih (k + 1) F c3 (by omega) (by omega)
theorem px_groupOf {o nf sp f : Nat} {l : List Nat} {w : fa_W} (h : px_GX o nf sp l w) (hf : f < 24) : fm_Groups_groupOf o (sp : Int) (f : Int) w = some (pf_fi f l 0) := by
  obtain ⟨FU, hFU⟩ : ∃ F, F = fa_FU := ⟨_, rfl⟩
  have hF2 : 1000 < FU := by rw [hFU]; unfold fa_FU; omega
  have hl := h.2.2.2.1
  have h24 := h.2.1
  unfold fm_Groups_groupOf
  rw [← hFU]
  exact px_groupOf_l h hf l 0 FU rfl (Nat.zero_le _) (by omega)
theorem px_groupOf_neg {o nf sp : Nat} {l : List Nat} {w : fa_W} (h : px_GX o nf sp l w) : fm_Groups_groupOf o (sp : Int) (-1) w = some (-1) := by
  obtain ⟨FU, hFU⟩ : ∃ F, F = fa_FU := ⟨_, rfl⟩
  have hF2 : 1000 < FU := by rw [hFU]; unfold fa_FU; omega
  have hl := h.2.2.2.1
  have h24 := h.2.1
  unfold fm_Groups_groupOf
  rw [← hFU]
  have key : ∀ (d k F : Nat), l.length = k + d → d < F → fm_Groups_groupOf_l2 o (sp : Int) (-1) w F (k : Int) = some (-1) := by
    intro d
    induction d with
    | zero =>
      intro k F hk hF
      obtain ⟨F, rfl⟩ : ∃ G, F = G + 1 := ⟨F - 1, by omega⟩
      unfold fm_Groups_groupOf_l2
      rw [(px_gmany h).2, pb_wr (by omega), pb_wr (by omega), if_pos (by omega)]
    | succ d ih =>
      intro k F hk hF
      obtain ⟨F, rfl⟩ : ∃ G, F = G + 1 := ⟨F - 1, by omega⟩
      unfold fm_Groups_groupOf_l2
      rw [(px_gmany h).2, pb_wr (by omega), pb_wr (by omega), if_neg (by omega), pf_hb_neg, if_neg (by decide), pf_let_eq]
      exact ih (k + 1) F (by omega) (by omega)
  exact key l.length 0 FU (by omega) (by omega)
theorem px_many_l {o nf sp C : Nat} {l : List Nat} {w : fa_W} (h : px_GX o nf sp l w) (hC : C < 2 ^ nf) : ∀ (r : List Nat) (k F acc : Nat), l.drop k = r → k ≤ l.length → r.length < F → fm_Groups_manyWithCases_l5 o (sp : Int) (C : Int) w F (acc : Int) (k : Int) = some ((acc + pg_w C r : Nat) : Int) := by
  have hl := h.2.2.2.1
  have h24 := h.2.1
  intro r
  induction r with
  | nil =>
    intro k F acc hd hk hF
    obtain ⟨F, rfl⟩ : ∃ G, F = G + 1 := ⟨F - 1, by omega⟩
    have e := pb_drop_nil hd hk
    unfold fm_Groups_manyWithCases_l5
    rw [(px_gmany h).1, pb_wr (by omega), pb_wr (by omega), if_pos (by omega)]
    rfl
  | cons m r ih =>
    intro k F acc hd hk hF
    rw [List.length_cons] at hF
    obtain ⟨F, rfl⟩ : ∃ G, F = G + 1 := ⟨F - 1, by omega⟩
    obtain ⟨c1, c2, c3⟩ := pb_drop_cons (d := 0) hd
    have lm := h.2.2.2.2.1 k c1
    have lc := pf_lt24 (pf_two h24 hC)
    have la : m &&& C ≤ C := Nat.and_le_right
    have nextv : pg_w C (m :: r) = (if m &&& C = 0 then 0 else 1) + pg_w C r := rfl
    unfold fm_Groups_manyWithCases_l5 fm_Groups_manyWithCases_j33
    rw [(px_gmany h).1, pb_wr (by omega), pb_wr (by omega), if_neg (by omega), px_members h c1, pb_and (pf_lt24 (pf_two h24 lm)) lc, c2, pb_wr (by omega), nextv]
    by_cases e : m &&& C = 0
    · rw [if_pos (by omega), if_pos e, pd_one, pf_let_eq, pf_let_eq]
      show fm_Groups_manyWithCases_l5 o (sp : Int) (C : Int) w F ((acc + 0 : Nat) : Int) ((k + 1 : Nat) : Int) = _
      rw [ih (k + 1) F _ c3 (by omega) (by omega), Nat.add_assoc]
    · rw [if_neg (by omega), if_neg e, pd_one, pf_let_eq, pf_let_eq]
      show fm_Groups_manyWithCases_l5 o (sp : Int) (C : Int) w F ((acc + 1 : Nat) : Int) ((k + 1 : Nat) : Int) = _
      rw [ih (k + 1) F _ c3 (by omega) (by omega), Nat.add_assoc]
theorem px_manyWithCases {o nf sp C : Nat} {l : List Nat} {w : fa_W} (h : px_GX o nf sp l w) (hC : C < 2 ^ nf) : fm_Groups_manyWithCases o (sp : Int) (C : Int) w = some ((pg_w C l : Nat) : Int) := by
  obtain ⟨FU, hFU⟩ : ∃ F, F = fa_FU := ⟨_, rfl⟩
  have hF2 : 1000 < FU := by rw [hFU]; unfold fa_FU; omega
  have hl := h.2.2.2.1
  have h24 := h.2.1
  unfold fm_Groups_manyWithCases
  rw [← hFU]
  have := px_many_l h hC l 0 FU 0 rfl (Nat.zero_le _) (by omega)
  rw [Nat.zero_add] at this
  exact this
theorem px_most_l {o nf sp C : Nat} {l : List Nat} {w : fa_W} (h : px_GX o nf sp l w) (hC : C < 2 ^ nf) : ∀ (r : List Nat) (k F acc : Nat), l.drop k = r → k ≤ l.length → r.length < F → acc ≤ 24 → fm_Groups_mostCases_l5 o (sp : Int) (C : Int) w F (acc : Int) (k : Int) = some ((pg_x C acc r : Nat) : Int) := by
  have hl := h.2.2.2.1
  have h24 := h.2.1
  intro r
  induction r with
  | nil =>
    intro k F acc hd hk hF ha
    obtain ⟨F, rfl⟩ : ∃ G, F = G + 1 := ⟨F - 1, by omega⟩
    have e := pb_drop_nil hd hk
    unfold fm_Groups_mostCases_l5
    rw [(px_gmany h).1, pb_wr (by omega), pb_wr (by omega), if_pos (by omega)]
    rfl
  | cons m r ih =>
    intro k F acc hd hk hF ha
    rw [List.length_cons] at hF
    obtain ⟨F, rfl⟩ : ∃ G, F = G + 1 := ⟨F - 1, by omega⟩
    obtain ⟨c1, c2, c3⟩ := pb_drop_cons (d := 0) hd
    have lm := h.2.2.2.2.1 k c1
    have lc := pf_lt24 (pf_two h24 hC)
    have la : m &&& C < 2 ^ 24 := Nat.lt_of_le_of_lt Nat.and_le_right (pf_two h24 hC)
    have pl := pf_pop_le (m &&& C)
    have nextv : pg_x C acc (m :: r) = pg_x C (max acc (pf_pop (m &&& C))) r := rfl
    have mx : fa_max (acc : Int) ((pf_pop (m &&& C) : Nat) : Int) = ((max acc (pf_pop (m &&& C)) : Nat) : Int) := by
      unfold fa_max
      rw [pb_wr (by omega), pb_wr (by omega)]
      by_cases e : acc < pf_pop (m &&& C)
      · rw [if_pos (by omega), Nat.max_eq_right (by omega)]
      · rw [if_neg (by omega), Nat.max_eq_left (by omega)]
    unfold fm_Groups_mostCases_l5
    rw [(px_gmany h).1, pb_wr (by omega), pb_wr (by omega), if_neg (by omega), px_members h c1, pb_and (pf_lt24 (pf_two h24 lm)) lc, c2, pf_bitCount la, mx, pf_let_eq, pf_let_eq, nextv]
    exact ih (k + 1) F _ c3 (by omega) (by omega) (by omega)
theorem px_mostCases {o nf sp C : Nat} {l : List Nat} {w : fa_W} (h : px_GX o nf sp l w) (hC : C < 2 ^ nf) : fm_Groups_mostCases o (sp : Int) (C : Int) w = some ((pg_x C 0 l : Nat) : Int) := by
  obtain ⟨FU, hFU⟩ : ∃ F, F = fa_FU := ⟨_, rfl⟩
  have hF2 : 1000 < FU := by rw [hFU]; unfold fa_FU; omega
  have hl := h.2.2.2.1
  have h24 := h.2.1
  unfold fm_Groups_mostCases
  rw [← hFU]
  exact px_most_l h hC l 0 FU 0 rfl (Nat.zero_le _) (by omega) (Nat.zero_le _)
theorem px_all_l {o nf sp C : Nat} {l : List Nat} {w : fa_W} (h : px_GX o nf sp l w) (hC : C < 2 ^ nf) : ∀ (r : List Nat) (k F acc : Nat), l.drop k = r → k ≤ l.length → r.length < F → acc < 2 ^ nf → fm_Groups_allCases_l5 o (sp : Int) (C : Int) w F (acc : Int) (k : Int) = some ((acc ||| (pg_o r &&& C) : Nat) : Int) := by
  have hl := h.2.2.2.1
  have h24 := h.2.1
  intro r
  induction r with
  | nil =>
    intro k F acc hd hk hF ha
    obtain ⟨F, rfl⟩ : ∃ G, F = G + 1 := ⟨F - 1, by omega⟩
    have e := pb_drop_nil hd hk
    unfold fm_Groups_allCases_l5
    rw [(px_gmany h).1, pb_wr (by omega), pb_wr (by omega), if_pos (by omega), show pg_o [] = 0 from rfl, Nat.zero_and, Nat.or_zero]
  | cons m r ih =>
    intro k F acc hd hk hF ha
    rw [List.length_cons] at hF
    obtain ⟨F, rfl⟩ : ∃ G, F = G + 1 := ⟨F - 1, by omega⟩
    obtain ⟨c1, c2, c3⟩ := pb_drop_cons (d := 0) hd
    have lm := h.2.2.2.2.1 k c1
    have lc := pf_lt24 (pf_two h24 hC)
    have la : m &&& C < 2 ^ nf := Nat.lt_of_le_of_lt Nat.and_le_right hC
    unfold fm_Groups_allCases_l5
    rw [(px_gmany h).1, pb_wr (by omega), pb_wr (by omega), if_neg (by omega), px_members h c1, pb_and (pf_lt24 (pf_two h24 lm)) lc, c2, pb_or (pf_lt24 (pf_two h24 ha)) (pf_lt24 (pf_two h24 la)), pf_let_eq, pf_let_eq]
    have := ih (k + 1) F (acc ||| (m &&& C)) c3 (by omega) (by omega) (Nat.or_lt_two_pow ha la)
    rw [show ((k : Nat) : Int) + 1 = ((k + 1 : Nat) : Int) from rfl, this]
    congr 2
    rw [show pg_o (m :: r) = m ||| pg_o r from rfl, Nat.and_or_distrib_right, Nat.or_assoc]
theorem px_allCases {o nf sp C : Nat} {l : List Nat} {w : fa_W} (h : px_GX o nf sp l w) (hC : C < 2 ^ nf) : fm_Groups_allCases o (sp : Int) (C : Int) w = some ((pg_o l &&& C : Nat) : Int) := by
  obtain ⟨FU, hFU⟩ : ∃ F, F = fa_FU := ⟨_, rfl⟩
  have hF2 : 1000 < FU := by rw [hFU]; unfold fa_FU; omega
  have hl := h.2.2.2.1
  have h24 := h.2.1
  unfold fm_Groups_allCases
  rw [← hFU]
  have := px_all_l h hC l 0 FU 0 rfl (Nat.zero_le _) (by omega) (Nat.two_pow_pos _)
  rw [Nat.zero_or] at this
  exact this
