/-! what the reference writes: words and numbers -/
def pm_wo (w w' : fa_W) : Prop := ∀ i j, i ≠ 197 → ¬ (i = 181 ∧ j = 70) → w' i j = w i j
theorem pm_wo_tr {a b c : fa_W} (h : pm_wo a b) (g : pm_wo b c) : pm_wo a c := fun i j p q => (g i j p q).trans (h i j p q)
theorem pm_say {l : List Nat} {w : fa_W} (h : pm_O l w) (hl : l.length < 40000) {b : Nat} (hb : b < 128) {x : Int} (hx : x = (b : Int)) : ∃ w', fm_Mod_says x w = some w' ∧ pm_O (l ++ [b]) w' ∧ pm_wo w w' := by
  rw [hx]
  exact pm_says h hl hb
theorem pm_cvf_pos : ∀ (f v : Nat), pk_vw f v → v ≠ 0 → 0 < pm_cvf f v := by
  intro f
  cases f with
  | zero => intro v h hn; exact (hn h).elim
  | succ f =>
    intro v h hn
    rcases h with h | ⟨h1, h2, h3⟩
    · exact (hn h).elim
    · show 0 < if v = 0 then 0 else 27 * pm_cvf f (v / 256) + (v % 256 - 96)
      rw [if_neg hn]
      omega
theorem pm_saysWord_f : ∀ (f v n : Nat) (l : List Nat) (w : fa_W), f ≤ 4 → pk_vw f v → v ≠ 0 → f ≤ n → pm_O l w → l.length + f ≤ 40000 → ∃ w', fm_Mod_saysWord n ((pm_cvf f v : Nat) : Int) w = some w' ∧ pm_O (l ++ pw_nmr f v) w' ∧ pm_wo w w' := by
  intro f
  induction f with
  | zero => intro v n l w _ h hn; exact (hn h).elim
  | succ f ih =>
    intro v n l w h4 h hn hf hO hl
    obtain ⟨n, rfl⟩ : ∃ m, n = m + 1 := ⟨n - 1, by omega⟩
    have hlt := pm_cvf_lt (f + 1) v h
    have h27 : 27 ^ (f + 1) ≤ 27 ^ 4 := Nat.pow_le_pow_right (by omega) h4
    have e27 : (27 : Nat) ^ 4 = 531441 := by decide
    rcases h with h | ⟨h1, h2, h3⟩
    · exact (hn h).elim
    · have ec : pm_cvf (f + 1) v = 27 * pm_cvf f (v / 256) + (v % 256 - 96) := by
        show (if v = 0 then 0 else _) = _
        rw [if_neg hn]
      have en : pw_nmr (f + 1) v = pw_nmr f (v / 256) ++ [v % 256] := by
        show (if v = 0 then [] else _) = _
        rw [if_neg hn]
      generalize pm_cvf (f + 1) v = c at *
      have e1 : fa_idiv (c : Int) 27 = ((pm_cvf f (v / 256) : Nat) : Int) := by
        have := pb_idiv (a := c) (b := 27) (by omega) (by omega)
        rw [show c / 27 = pm_cvf f (v / 256) by omega] at this
        exact this
      have e2 : fa_irem (c : Int) 27 = ((v % 256 - 96 : Nat) : Int) := by
        have := pb_irem (a := c) (b := 27) (by omega) (by omega)
        rw [show c % 27 = v % 256 - 96 by omega] at this
        exact this
      have fin : ∀ (l1 : List Nat) (w1 : fa_W), pm_O l1 w1 → l1.length < 40000 → ∃ w', fm_Mod_saysWord_j14 (c : Int) (fm_Mod_saysWord n) w1 = some w' ∧ pm_O (l1 ++ [v % 256]) w' ∧ pm_wo w1 w' := fun l1 w1 hO1 hl1 => by
        obtain ⟨w', p1, p2, p3⟩ := pm_say hO1 hl1 (b := v % 256) (by omega) (x := 97 + fa_irem (c : Int) 27 - 1) (by rw [e2]; omega)
        refine ⟨w', ?_, p2, p3⟩
        unfold fm_Mod_saysWord_j14
        rw [p1]
        rfl
      show ∃ w', fm_Mod_saysWord_b (fm_Mod_saysWord n) (c : Int) w = some w' ∧ _
      unfold fm_Mod_saysWord_b
      rw [pb_wr (by omega), en]
      by_cases z : v / 256 = 0
      · have cz : pm_cvf f (v / 256) = 0 := by
          rw [z]
          cases f <;> rfl
        have nz : pw_nmr f (v / 256) = [] := by
          rw [z]
          cases f <;> rfl
        rw [if_pos (by omega), nz, List.nil_append]
        exact fin l w hO (by omega)
      · have cp := pm_cvf_pos f _ h3 z
        rw [if_neg (by omega), e1]
        obtain ⟨w1, p1, p2, p3⟩ := ih (v / 256) n l w (by omega) h3 z (by omega) hO (by omega)
        obtain ⟨w2, q1, q2, q3⟩ := fin _ w1 p2 (by
          rw [List.length_append]
          have := pw_nmr_len f (v / 256)
          omega)
        refine ⟨w2, ?_, ?_, pm_wo_tr p3 q3⟩
        · rw [p1]; exact q1
        · rw [← List.append_assoc]; exact q2
theorem pm_sayWord {v : Nat} (h : pk_vw 4 v) (hn : v ≠ 0) {l : List Nat} {w : fa_W} (hO : pm_O l w) (hl : l.length + 4 ≤ 40000) {x : Int} (hx : x = ((pm_cv v : Nat) : Int)) : ∃ w', fm_Mod_saysWord 900 x w = some w' ∧ pm_O (l ++ pw_nm v) w' ∧ pm_wo w w' := by
  rw [hx]
  exact pm_saysWord_f 4 v 900 l w (by omega) h hn (by omega) hO hl
theorem pm_sayNum_s {v n : Nat} (hv : v ≤ 9999) (d : List Nat) (hd : ∀ (l : List Nat) (w : fa_W), pm_O l w → l.length + 4 ≤ 40000 → ∃ w', fm_Mod_saysNumber n ((v / 10 : Nat) : Int) w = some w' ∧ pm_O (l ++ d) w' ∧ pm_wo w w') (hlen : d.length ≤ 3) (h10 : 10 ≤ v) : ∀ (l : List Nat) (w : fa_W), pm_O l w → l.length + 4 ≤ 40000 → ∃ w', fm_Mod_saysNumber (n + 1) (v : Int) w = some w' ∧ pm_O (l ++ (d ++ [48 + v % 10])) w' ∧ pm_wo w w' := fun l w hO hl => by
  have e1 : fa_idiv (v : Int) 10 = ((v / 10 : Nat) : Int) := pb_idiv (a := v) (b := 10) (by omega) (by omega)
  have e2 : fa_irem (v : Int) 10 = ((v % 10 : Nat) : Int) := pb_irem (a := v) (b := 10) (by omega) (by omega)
  obtain ⟨w1, p1, p2, p3⟩ := hd l w hO hl
  obtain ⟨w2, q1, q2, q3⟩ := pm_say p2 (by rw [List.length_append]; omega) (b := 48 + v % 10) (by omega) (x := 48 + fa_irem (v : Int) 10) (by rw [e2]; omega)
  refine ⟨w2, ?_, by rw [← List.append_assoc]; exact q2, pm_wo_tr p3 q3⟩
  show fm_Mod_saysNumber_b (fm_Mod_saysNumber n) (v : Int) w = _
  unfold fm_Mod_saysNumber_b fm_Mod_saysNumber_j14
  rw [pb_wr (by omega), if_neg (by omega), e1, p1, Option.bind_some, q1]
  rfl
theorem pm_sayNum_1 {v n : Nat} (hv : v < 10) : ∀ (l : List Nat) (w : fa_W), pm_O l w → l.length + 4 ≤ 40000 → ∃ w', fm_Mod_saysNumber (n + 1) (v : Int) w = some w' ∧ pm_O (l ++ [48 + v]) w' ∧ pm_wo w w' := fun l w hO hl => by
  have e2 : fa_irem (v : Int) 10 = ((v % 10 : Nat) : Int) := pb_irem (a := v) (b := 10) (by omega) (by omega)
  rw [Nat.mod_eq_of_lt hv] at e2
  obtain ⟨w2, q1, q2, q3⟩ := pm_say hO (by omega) (b := 48 + v) (by omega) (x := 48 + fa_irem (v : Int) 10) (by rw [e2]; omega)
  refine ⟨w2, ?_, q2, q3⟩
  show fm_Mod_saysNumber_b (fm_Mod_saysNumber n) (v : Int) w = _
  unfold fm_Mod_saysNumber_b fm_Mod_saysNumber_j14
  rw [pb_wr (by omega), if_pos (by omega), q1]
  rfl
theorem pm_sayNum {v : Nat} (hv : v ≤ 9999) {l : List Nat} {w : fa_W} (hO : pm_O l w) (hl : l.length + 4 ≤ 40000) {x : Int} (hx : x = (v : Int)) : ∃ w', fm_Mod_saysNumber 900 x w = some w' ∧ pm_O (l ++ pw_nu v) w' ∧ pm_wo w w' := by
  rw [hx]
  unfold pw_nu
  by_cases c1 : v < 10
  · rw [if_pos c1]; exact pm_sayNum_1 (n := 899) c1 l w hO hl
  · rw [if_neg c1]
    by_cases c2 : v < 100
    · rw [if_pos c2]
      exact pm_sayNum_s (n := 899) hv [48 + v / 10] (pm_sayNum_1 (n := 898) (by omega)) (by show 1 ≤ 3; omega) (by omega) l w hO hl
    · rw [if_neg c2]
      by_cases c3 : v < 1000
      · rw [if_pos c3]
        have := pm_sayNum_s (n := 898) (v := v / 10) (by omega) [48 + v / 10 / 10] (pm_sayNum_1 (n := 897) (by omega)) (by show 1 ≤ 3; omega) (by omega)
        rw [show v / 10 / 10 = v / 100 by omega] at this
        exact pm_sayNum_s (n := 899) hv [48 + v / 100, 48 + v / 10 % 10] this (by show 2 ≤ 3; omega) (by omega) l w hO hl
      · rw [if_neg c3]
        have a := pm_sayNum_s (n := 897) (v := v / 100) (by omega) [48 + v / 1000] (by
          have := pm_sayNum_1 (n := 896) (v := v / 1000) (by omega)
          rw [show v / 100 / 10 = v / 1000 by omega]
          exact this) (by show 1 ≤ 3; omega) (by omega)
        have b := pm_sayNum_s (n := 898) (v := v / 10) (by omega) [48 + v / 1000, 48 + v / 100 % 10] (by
          rw [show v / 10 / 10 = v / 100 by omega]
          exact a) (by show 2 ≤ 3; omega) (by omega)
        exact pm_sayNum_s (n := 899) hv [48 + v / 1000, 48 + v / 100 % 10, 48 + v / 10 % 10] b (by show 3 ≤ 3; omega) (by omega) l w hO hl
