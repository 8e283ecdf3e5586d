/-! the reference's COMES: its sets, and how they grow -/
def pf_sum (F : Nat → Nat) : Nat → Nat
  | 0 => 0
  | n + 1 => pf_sum F n + F n
theorem pf_sum_cong {F F' : Nat → Nat} : ∀ n, (∀ i, i < n → F i = F' i) → pf_sum F n = pf_sum F' n := by
  intro n
  induction n with
  | zero => intro _; rfl
  | succ n ih =>
    intro h
    show pf_sum F n + F n = pf_sum F' n + F' n
    rw [ih (fun i hi => h i (by omega)), h n (by omega)]
theorem pf_sum_set {F F' : Nat → Nat} {v : Nat} (h : ∀ i, i ≠ v → F' i = F i) : ∀ n, v < n → pf_sum F' n + F v = pf_sum F n + F' v := by
  intro n
  induction n with
  | zero => intro hv; omega
  | succ n ih =>
    intro hv
    show pf_sum F' n + F' n + F v = pf_sum F n + F n + F' v
    by_cases e : v = n
    · have := pf_sum_cong (F := F') (F' := F) n (fun i hi => h i (by omega))
      rw [e, this]
      omega
    · have := ih (by omega)
      have q := h n (fun z => e z.symm)
      omega
theorem pf_sum_le {F : Nat → Nat} {B : Nat} (h : ∀ i, F i ≤ B) : ∀ n, pf_sum F n ≤ B * n := by
  intro n
  induction n with
  | zero => exact Nat.zero_le _
  | succ n ih =>
    have := h n
    show pf_sum F n + F n ≤ B * (n + 1)
    rw [Nat.mul_succ]
    omega
abbrev pf_s : Type := (Nat → Nat) × (Nat → Nat) × Nat × Nat
def pf_Fi (z : pf_s) : Nat := pf_sum (fun v => pf_pop (z.1 v)) 124 + pf_sum (fun f => pf_pop (z.2.1 f)) 24 + pf_pop z.2.2.1 + pf_pop z.2.2.2
theorem pf_Fi_le (z : pf_s) : pf_Fi z ≤ 3600 := by
  have a := pf_sum_le (F := fun v => pf_pop (z.1 v)) (fun i => pf_pop_le _) 124
  have b := pf_sum_le (F := fun v => pf_pop (z.2.1 v)) (fun i => pf_pop_le _) 24
  have c := pf_pop_le z.2.2.1
  have d := pf_pop_le z.2.2.2
  unfold pf_Fi
  omega
def pf_ok (nf : Nat) (z : pf_s) : Prop := (∀ v, z.1 v < 2 ^ nf) ∧ (∀ f, z.2.1 f < 2 ^ nf) ∧ z.2.2.1 < 2 ^ nf ∧ z.2.2.2 < 2 ^ nf
def pf_mc (z : pf_s) (fo : Nat) (w : fa_W) : Prop := (∀ v, v < 124 → w 207 v = (z.1 v : Int)) ∧ (∀ f, f < 24 → w 208 f = (z.2.1 f : Int)) ∧ w 181 53 = (z.2.2.1 : Int) ∧ w 181 52 = (z.2.2.2 : Int) ∧ w 181 55 = (fo : Int)
def pf_ch (nf : Nat) (z : pf_s) (fo : Nat) (z' : pf_s) (fo' : Nat) : Prop := pf_ok nf z' ∧ fo' + pf_Fi z = fo + pf_Fi z' ∧ pf_Fi z ≤ pf_Fi z' ∧ (pf_Fi z' = pf_Fi z → z' = z)
def pf_sd (z : pf_s) (H R : Nat → Nat → Prop) (L M : Nat → Prop) : Prop := (∀ v f, (z.1 v).testBit f = true → H v f) ∧ (∀ v f, (z.2.1 v).testBit f = true → R v f) ∧ (∀ f, z.2.2.1.testBit f = true → L f) ∧ ∀ f, z.2.2.2.testBit f = true → M f
def pf_fw (S : Nat → Prop) (w w' : fa_W) : Prop := ∀ i j, ¬ (i = 207 ∨ i = 208) → ¬ (i = 181 ∧ (j = 52 ∨ j = 53 ∨ j = 55)) → ¬ (209 ≤ i ∧ i ≤ 212 ∧ S j) → w' i j = w i j
theorem pf_fw_refl (S : Nat → Prop) (w : fa_W) : pf_fw S w w := fun _ _ _ _ _ => rfl
theorem pf_fw_tr {S S' S'' : Nat → Prop} {a b c : fa_W} (h1 : pf_fw S a b) (h2 : pf_fw S' b c) (s1 : ∀ j, S j → S'' j) (s2 : ∀ j, S' j → S'' j) : pf_fw S'' a c := fun i j p q r => (h2 i j p q (fun ⟨x, y, z⟩ => r ⟨x, y, s2 j z⟩)).trans (h1 i j p q (fun ⟨x, y, z⟩ => r ⟨x, y, s1 j z⟩))
theorem pf_fw_ob {S : Nat → Prop} {w w' : fa_W} (h : pf_fw S w w') : pm_ob w w' := fun i j a b => h i j (by omega) (by omega) (by omega)
def pf_fv (S : Nat → Prop) (w w' : fa_W) : Prop := ∀ i j, ¬ i = 207 → ¬ (i = 181 ∧ (j = 52 ∨ j = 53 ∨ j = 55)) → ¬ (209 ≤ i ∧ i ≤ 212 ∧ S j) → w' i j = w i j
theorem pf_fw_of {S : Nat → Prop} {w w' : fa_W} (h : pf_fv S w w') : pf_fw S w w' := fun i j p q r => h i j (by omega) q r
theorem pf_fv_refl (S : Nat → Prop) (w : fa_W) : pf_fv S w w := fun _ _ _ _ _ => rfl
theorem pf_fv_tr {S S' S'' : Nat → Prop} {a b c : fa_W} (h1 : pf_fv S a b) (h2 : pf_fv S' b c) (s1 : ∀ j, S j → S'' j) (s2 : ∀ j, S' j → S'' j) : pf_fv S'' a c := fun i j p q r => (h2 i j p q (fun ⟨x, y, z⟩ => r ⟨x, y, s2 j z⟩)).trans (h1 i j p q (fun ⟨x, y, z⟩ => r ⟨x, y, s1 j z⟩))
theorem pf_fv_ob {S : Nat → Prop} {w w' : fa_W} (h : pf_fv S w w') : pm_ob w w' := fun i j a b => h i j (by omega) (by omega) (by omega)
theorem pf_ch_refl {nf : Nat} {z : pf_s} (fo : Nat) (h : pf_ok nf z) : pf_ch nf z fo z fo := ⟨h, rfl, Nat.le_refl _, fun _ => rfl⟩
theorem pf_ch_tr {nf : Nat} {a b c : pf_s} {x y u : Nat} (h1 : pf_ch nf a x b y) (h2 : pf_ch nf b y c u) : pf_ch nf a x c u := by
  obtain ⟨_, p2, p3, p4⟩ := h1
  obtain ⟨q1, q2, q3, q4⟩ := h2
  refine ⟨q1, by omega, by omega, fun e => ?_⟩
  rw [q4 (by omega), p4 (by omega)]
theorem pf_two {nf x : Nat} (h24 : nf ≤ 24) (h : x < 2 ^ nf) : x < 2 ^ 24 := Nat.lt_of_lt_of_le h (Nat.pow_le_pow_right (by decide) h24)
theorem pf_or_sub {a x f : Nat} (h : a ||| x = a) (hf : x.testBit f = true) : a.testBit f = true := by
  rw [← h, Nat.testBit_or, hf, Bool.or_true]
theorem pf_tb_lt {nf x f : Nat} (h : x < 2 ^ nf) (hf : x.testBit f = true) : f < nf := by
  by_cases z : f < nf
  · exact z
  · rw [Nat.testBit_lt_two_pow (Nat.lt_of_lt_of_le h (Nat.pow_le_pow_right (by decide) (by omega)))] at hf
    cases hf
theorem pf_moreH {nf fo v x : Nat} {z : pf_s} {w : fa_W} (h24 : nf ≤ 24) (hm : pf_mc z fo w) (ok : pf_ok nf z) (hv : v < 124) (hx : x < 2 ^ nf) : ∃ fo' : Nat, fm_Mod_more (w 207 v) (x : Int) w = some (((z.1 v ||| x : Nat) : Int), fa_st w 181 55 (fo' : Int)) ∧ pf_mc (pu_set z.1 v (z.1 v ||| x), z.2) fo' (fa_st (fa_st w 181 55 (fo' : Int)) 207 v ((z.1 v ||| x : Nat) : Int)) ∧ pf_ch nf z fo (pu_set z.1 v (z.1 v ||| x), z.2) fo' := by
  obtain ⟨m1, m2, m3, m4, m5⟩ := hm
  obtain ⟨p1, p2, p3, p4⟩ := pf_more (pf_two h24 (ok.1 v)) (pf_two h24 hx) m5
  refine ⟨fo + pf_pop (pf_an x (z.1 v)), by rw [m1 v hv]; exact p1, ⟨fun i hi => ?_, fun i hi => ?_, ?_, ?_, ?_⟩, ⟨⟨fun i => ?_, ok.2⟩, ?_, ?_, ?_⟩⟩
  · by_cases e : i = v
    · rw [e, fa_st_eq]; dsimp only; rw [pu_set_eq]
    · rw [fa_st_ne (by omega), fa_st_ne (by omega)]; dsimp only; rw [pu_set_ne _ _ e]; exact m1 i hi
  · rw [fa_st_ne (by omega), fa_st_ne (by omega)]; exact m2 i hi
  · rw [fa_st_ne (by omega), fa_st_ne (by omega)]; exact m3
  · rw [fa_st_ne (by omega), fa_st_ne (by omega)]; exact m4
  · rw [fa_st_ne (by omega), fa_st_eq]
  · dsimp only
    by_cases e : i = v
    · rw [e, pu_set_eq]; exact Nat.or_lt_two_pow (ok.1 v) hx
    · rw [pu_set_ne _ _ e]; exact ok.1 i
  all_goals
    have s := pf_sum_set (F := fun i => pf_pop (z.1 i)) (F' := fun i => pf_pop (pu_set z.1 v (z.1 v ||| x) i)) (v := v) (fun i hi => by rw [pu_set_ne _ _ hi]) 124 hv
    rw [pu_set_eq] at s
    unfold pf_Fi
    dsimp only
  · omega
  · omega
  · intro e
    have e2 := p4 (by omega)
    rw [e2]
    have : pu_set z.1 v (z.1 v) = z.1 := funext fun i => by
      by_cases q : i = v
      · rw [q, pu_set_eq]
      · rw [pu_set_ne _ _ q]
    rw [this]
theorem pf_moreR {nf fo v x : Nat} {z : pf_s} {w : fa_W} (h24 : nf ≤ 24) (hm : pf_mc z fo w) (ok : pf_ok nf z) (hv : v < 24) (hx : x < 2 ^ nf) : ∃ fo' : Nat, fm_Mod_more (w 208 v) (x : Int) w = some (((z.2.1 v ||| x : Nat) : Int), fa_st w 181 55 (fo' : Int)) ∧ pf_mc (z.1, pu_set z.2.1 v (z.2.1 v ||| x), z.2.2) fo' (fa_st (fa_st w 181 55 (fo' : Int)) 208 v ((z.2.1 v ||| x : Nat) : Int)) ∧ pf_ch nf z fo (z.1, pu_set z.2.1 v (z.2.1 v ||| x), z.2.2) fo' := by
  obtain ⟨m1, m2, m3, m4, m5⟩ := hm
  obtain ⟨p1, p2, p3, p4⟩ := pf_more (pf_two h24 (ok.2.1 v)) (pf_two h24 hx) m5
  refine ⟨fo + pf_pop (pf_an x (z.2.1 v)), by rw [m2 v hv]; exact p1, ⟨fun i hi => ?_, fun i hi => ?_, ?_, ?_, ?_⟩, ⟨⟨ok.1, fun i => ?_, ok.2.2⟩, ?_, ?_, ?_⟩⟩
  · rw [fa_st_ne (by omega), fa_st_ne (by omega)]; exact m1 i hi
  · by_cases e : i = v
    · rw [e, fa_st_eq]; dsimp only; rw [pu_set_eq]
    · rw [fa_st_ne (by omega), fa_st_ne (by omega)]; dsimp only; rw [pu_set_ne _ _ e]; exact m2 i hi
  · rw [fa_st_ne (by omega), fa_st_ne (by omega)]; exact m3
  · rw [fa_st_ne (by omega), fa_st_ne (by omega)]; exact m4
  · rw [fa_st_ne (by omega), fa_st_eq]
  · dsimp only
    by_cases e : i = v
    · rw [e, pu_set_eq]; exact Nat.or_lt_two_pow (ok.2.1 v) hx
    · rw [pu_set_ne _ _ e]; exact ok.2.1 i
  all_goals
    have s := pf_sum_set (F := fun i => pf_pop (z.2.1 i)) (F' := fun i => pf_pop (pu_set z.2.1 v (z.2.1 v ||| x) i)) (v := v) (fun i hi => by rw [pu_set_ne _ _ hi]) 24 hv
    rw [pu_set_eq] at s
    unfold pf_Fi
    dsimp only
  · omega
  · omega
  · intro e
    have e2 := p4 (by omega)
    rw [e2]
    have : pu_set z.2.1 v (z.2.1 v) = z.2.1 := funext fun i => by
      by_cases q : i = v
      · rw [q, pu_set_eq]
      · rw [pu_set_ne _ _ q]
    rw [this]
theorem pf_moreL {nf fo x : Nat} {z : pf_s} {w : fa_W} (h24 : nf ≤ 24) (hm : pf_mc z fo w) (ok : pf_ok nf z) (hx : x < 2 ^ nf) : ∃ fo' : Nat, fm_Mod_more (w 181 53) (x : Int) w = some (((z.2.2.1 ||| x : Nat) : Int), fa_st w 181 55 (fo' : Int)) ∧ pf_mc (z.1, z.2.1, z.2.2.1 ||| x, z.2.2.2) fo' (fa_st (fa_st w 181 55 (fo' : Int)) 181 53 ((z.2.2.1 ||| x : Nat) : Int)) ∧ pf_ch nf z fo (z.1, z.2.1, z.2.2.1 ||| x, z.2.2.2) fo' := by
  obtain ⟨m1, m2, m3, m4, m5⟩ := hm
  obtain ⟨p1, p2, p3, p4⟩ := pf_more (pf_two h24 ok.2.2.1) (pf_two h24 hx) m5
  refine ⟨fo + pf_pop (pf_an x z.2.2.1), by rw [m3]; exact p1, ⟨fun i hi => ?_, fun i hi => ?_, ?_, ?_, ?_⟩, ⟨⟨ok.1, ok.2.1, Nat.or_lt_two_pow ok.2.2.1 hx, ok.2.2.2⟩, ?_, ?_, ?_⟩⟩
  · rw [fa_st_ne (by omega), fa_st_ne (by omega)]; exact m1 i hi
  · rw [fa_st_ne (by omega), fa_st_ne (by omega)]; exact m2 i hi
  · rw [fa_st_eq]
  · rw [fa_st_ne (by omega), fa_st_ne (by omega)]; exact m4
  · rw [fa_st_ne (by omega), fa_st_eq]
  all_goals
    unfold pf_Fi
    dsimp only
  · omega
  · omega
  · intro e
    rw [p4 (by omega)]
theorem pf_moreM {nf fo x : Nat} {z : pf_s} {w : fa_W} (h24 : nf ≤ 24) (hm : pf_mc z fo w) (ok : pf_ok nf z) (hx : x < 2 ^ nf) : ∃ fo' : Nat, fm_Mod_more (w 181 52) (x : Int) w = some (((z.2.2.2 ||| x : Nat) : Int), fa_st w 181 55 (fo' : Int)) ∧ pf_mc (z.1, z.2.1, z.2.2.1, z.2.2.2 ||| x) fo' (fa_st (fa_st w 181 55 (fo' : Int)) 181 52 ((z.2.2.2 ||| x : Nat) : Int)) ∧ pf_ch nf z fo (z.1, z.2.1, z.2.2.1, z.2.2.2 ||| x) fo' := by
  obtain ⟨m1, m2, m3, m4, m5⟩ := hm
  obtain ⟨p1, p2, p3, p4⟩ := pf_more (pf_two h24 ok.2.2.2) (pf_two h24 hx) m5
  refine ⟨fo + pf_pop (pf_an x z.2.2.2), by rw [m4]; exact p1, ⟨fun i hi => ?_, fun i hi => ?_, ?_, ?_, ?_⟩, ⟨⟨ok.1, ok.2.1, ok.2.2.1, Nat.or_lt_two_pow ok.2.2.2 hx⟩, ?_, ?_, ?_⟩⟩
  · rw [fa_st_ne (by omega), fa_st_ne (by omega)]; exact m1 i hi
  · rw [fa_st_ne (by omega), fa_st_ne (by omega)]; exact m2 i hi
  · rw [fa_st_ne (by omega), fa_st_ne (by omega)]; exact m3
  · rw [fa_st_eq]
  · rw [fa_st_ne (by omega), fa_st_eq]
  all_goals
    unfold pf_Fi
    dsimp only
  · omega
  · omega
  · intro e
    rw [p4 (by omega)]
