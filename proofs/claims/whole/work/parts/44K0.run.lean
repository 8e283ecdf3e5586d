/-! what is written: texts, names, numbers; the class's rows -/
def pw_tx (i : Fin 35) : List Nat := (fa_byts.getD i.val []).map (fun b => b.toInt.toNat)
theorem pw_tx_ok : ∀ i : Fin 35, fa_lens.getD i.val 0 = (pw_tx i).length ∧ (pw_tx i).length ≤ 40 ∧ ∀ j : Fin 40, j.val < (pw_tx i).length → fs_ch i j.val = ((((pw_tx i).getD j.val 0 : Nat)) : Int) := by decide +kernel
/-- so much more stands in the class's SHOWN, nothing else but the rows of writing has changed -/
def pw_fr (w w' : fa_W) : Prop := ∀ i j, i ≠ 3 → i ≠ 4 → w' i j = w i j
theorem pw_ftr {a b c : fa_W} (h : pw_fr a b) (g : pw_fr b c) : pw_fr a c := fun i j p q => (g i j p q).trans (h i j p q)
theorem px_say {l : List Nat} {w : fa_W} (h : px_RL 3 l w) (hl : l.length < 7000) (x : Nat) : px_RL 3 (l ++ [x]) (fr_add 3 (x : Int) w) ∧ pw_fr w (fr_add 3 (x : Int) w) := by
  have := px_RL_add (r := 3) (by decide +kernel) h (by rw [show fa_cp 3 = 7000 by decide +kernel]; exact hl) x
  exact ⟨this.1, fun i j p q => this.2 i j p q⟩
theorem px_putText_l (i : Fin 35) : ∀ (d k F : Nat) (l : List Nat) (w : fa_W), k + d = (pw_tx i).length → d < F → px_RL 3 l w → l.length + d ≤ 7000 → ∃ w', fm_Writer_putText_l2 i F (k : Int) w = some w' ∧ px_RL 3 (l ++ (pw_tx i).drop k) w' ∧ pw_fr w w' := by
  obtain ⟨e1, e2, e3⟩ := pw_tx_ok i
  intro d
  induction d with
  | zero =>
    intro k F l w hk hF h hl
    obtain ⟨F, rfl⟩ : ∃ G, F = G + 1 := ⟨F - 1, by omega⟩
    refine ⟨w, ?_, ?_, fun _ _ _ _ => rfl⟩
    · unfold fm_Writer_putText_l2 fs_len
      rw [e1, pb_wr (by omega), pb_wr (by omega), if_pos (by omega)]
    · rw [List.drop_of_length_le (by omega), List.append_nil]; exact h
  | succ d ih =>
    intro k F l w hk hF h hl
    obtain ⟨F, rfl⟩ : ∃ G, F = G + 1 := ⟨F - 1, by omega⟩
    obtain ⟨s1, s2⟩ := px_say h (by omega) ((pw_tx i).getD k 0)
    obtain ⟨w', p1, p2, p3⟩ := ih (k + 1) F _ _ (by omega) (by omega) s1 (by rw [List.length_append, List.length_singleton]; omega)
    refine ⟨w', ?_, ?_, pw_ftr s2 p3⟩
    · conv => lhs; unfold fm_Writer_putText_l2
      unfold fs_len
      rw [e1, pb_wr (by omega), pb_wr (by omega), if_neg (by omega), pb_ix (by omega) (by omega), Option.bind_some, pf_let_eq, pf_let_eq, e3 ⟨k, by omega⟩ (by dsimp only; omega)]
      exact p1
    · have hd : (pw_tx i).drop k = (pw_tx i).getD k 0 :: (pw_tx i).drop (k + 1) := by
        rw [List.drop_eq_getElem_cons (by omega : k < (pw_tx i).length)]
        congr 1
        rw [List.getD_eq_getElem?_getD, List.getElem?_eq_getElem (by omega : k < (pw_tx i).length)]
        rfl
      rw [hd, show l ++ (pw_tx i).getD k 0 :: (pw_tx i).drop (k + 1) = l ++ [(pw_tx i).getD k 0] ++ (pw_tx i).drop (k + 1) by simp]
      exact p2
theorem px_putText (i : Fin 35) {l : List Nat} {w : fa_W} (h : px_RL 3 l w) (hl : l.length + (pw_tx i).length ≤ 7000) : ∃ w', fm_Writer_putText i w = some w' ∧ px_RL 3 (l ++ pw_tx i) w' ∧ pw_fr w w' := by
  have e2 := (pw_tx_ok i).2.1
  obtain ⟨w', p1, p2, p3⟩ := px_putText_l i (pw_tx i).length 0 fa_FU l w (by omega) (by unfold fa_FU; omega) h hl
  exact ⟨w', p1, by rw [List.drop_zero] at p2; exact p2, p3⟩
/-! names -/
def pw_nmr : Nat → Nat → List Nat
  | 0, _ => []
  | f + 1, v => if v = 0 then [] else pw_nmr f (v / 256) ++ [v % 256]
def pw_nm (v : Nat) : List Nat := pw_nmr 4 v
def pw_b (v : Nat) : List Nat := if v % 256 = 0 then [] else [v % 256]
def pw_nmf (v : Nat) : Nat → List Nat
  | 0 => []
  | k + 1 => pw_b (v / 256 ^ k) ++ pw_nmf v k
theorem pw_nmf_s (v : Nat) : ∀ k, pw_nmf v (k + 1) = pw_nmf (v / 256) k ++ pw_b v := by
  intro k
  induction k with
  | zero => show pw_b (v / 256 ^ 0) ++ [] = [] ++ pw_b v; rw [Nat.pow_zero, Nat.div_one, List.append_nil, List.nil_append]
  | succ k ih =>
    show pw_b (v / 256 ^ (k + 1)) ++ pw_nmf v (k + 1) = pw_b (v / 256 / 256 ^ k) ++ pw_nmf (v / 256) k ++ pw_b v
    rw [ih, ← List.append_assoc, Nat.div_div_eq_div_mul, ← Nat.pow_succ']
theorem pw_nm_eq : ∀ (f v : Nat), pk_vw f v → pw_nmf v f = pw_nmr f v := by
  intro f
  induction f with
  | zero => intro v _; rfl
  | succ f ih =>
    intro v h
    rw [pw_nmf_s]
    rcases h with h | ⟨h1, h2, h3⟩
    · subst h
      have z : ∀ k, pw_nmf 0 k = [] := by
        intro k
        induction k with
        | zero => rfl
        | succ k ih2 =>
          show pw_b (0 / 256 ^ k) ++ pw_nmf 0 k = []
          rw [ih2, Nat.zero_div]
          rfl
      show pw_nmf (0 / 256) f ++ pw_b 0 = if (0 : Nat) = 0 then [] else _
      rw [if_pos rfl, show (0 : Nat) / 256 = 0 by rfl, z]
      rfl
    · rw [ih _ h3]
      show _ = if v = 0 then [] else _
      rw [if_neg (by intro q; subst q; omega)]
      unfold pw_b
      rw [if_neg (by omega)]
theorem pw_nmr_len : ∀ (f v : Nat), (pw_nmr f v).length ≤ f := by
  intro f
  induction f with
  | zero => intro v; exact Nat.le_refl _
  | succ f ih =>
    intro v
    show (if v = 0 then [] else pw_nmr f (v / 256) ++ [v % 256]).length ≤ f + 1
    by_cases h : v = 0
    · rw [if_pos h]; exact Nat.zero_le _
    · rw [if_neg h, List.length_append, List.length_singleton]
      have := ih (v / 256)
      omega
theorem pk_vw_lt : ∀ f v, pk_vw f v → v < 256 ^ f ∧ (f ≤ 4 → v < 2147483648) := by
  intro f
  have key : ∀ f v, pk_vw f v → 2 * v < 256 ^ f := by
    intro f
    induction f with
    | zero => intro v h; have : v = 0 := h; subst this; decide
    | succ f ih =>
      intro v h
      rcases h with h | ⟨h1, h2, h3⟩
      · subst h; exact Nat.pow_pos (by omega)
      · cases f with
        | zero =>
          have e : v / 256 = 0 := h3
          rw [Nat.zero_add, Nat.pow_one]
          omega
        | succ f =>
          have := ih _ h3
          rw [Nat.pow_succ]
          have e := Nat.div_add_mod v 256
          generalize 256 ^ (f + 1) = P at this ⊢
          omega
  intro v h
  have k := key f v h
  refine ⟨by omega, fun hf => ?_⟩
  have : (256 : Nat) ^ f ≤ 256 ^ 4 := Nat.pow_le_pow_right (by omega) hf
  have e : (256 : Nat) ^ 4 = 4294967296 := by decide
  omega
theorem px_putName_l {x : Nat} (hx : x < 2147483648) : ∀ (k F : Nat) (l : List Nat) (w : fa_W), k ≤ 4 → k < F → px_RL 3 l w → l.length + k ≤ 7000 → ∃ w', fm_Writer_putName_l3 (x : Int) F (8 * (k : Int) - 8) w = some w' ∧ px_RL 3 (l ++ pw_nmf x k) w' ∧ pw_fr w w' := by
  intro k
  induction k with
  | zero =>
    intro F l w hk hF h hl
    obtain ⟨F, rfl⟩ : ∃ G, F = G + 1 := ⟨F - 1, by omega⟩
    refine ⟨w, ?_, ?_, fun _ _ _ _ => rfl⟩
    · unfold fm_Writer_putName_l3
      rw [fa_wr_id (by omega) (by omega), if_pos (by omega)]
    · show px_RL 3 (l ++ []) w
      rw [List.append_nil]; exact h
  | succ k ih =>
    intro F l w hk hF h hl
    obtain ⟨F, rfl⟩ : ∃ G, F = G + 1 := ⟨F - 1, by omega⟩
    have e1 : 8 * ((k + 1 : Nat) : Int) - 8 = ((8 * k : Nat) : Int) := by omega
    have e2 : fa_iand (fa_iushr (x : Int) ((8 * k : Nat) : Int)) 255 = ((x / 256 ^ k % 256 : Nat) : Int) := by
      rw [pb_shr hx (by omega)]
      have hs : x >>> (8 * k) ≤ x := Nat.shiftRight_le x (8 * k)
      have := pb_and (a := x >>> (8 * k)) (b := 255) (by omega) (by omega)
      rw [show (255 : Nat) = 2 ^ 8 - 1 by rfl, Nat.and_two_pow_sub_one_eq_mod, Nat.shiftRight_eq_div_pow, Nat.pow_mul] at this
      rw [Nat.shiftRight_eq_div_pow, Nat.pow_mul]
      exact this
    have e3 : ((8 * k : Nat) : Int) + (-8) = 8 * (k : Int) - 8 := by omega
    have hm : x / 256 ^ k % 256 < 256 := Nat.mod_lt _ (by omega)
    have step : fm_Writer_putName_l3 (x : Int) (F + 1) (8 * ((k + 1 : Nat) : Int) - 8) w = if x / 256 ^ k % 256 = 0 then fm_Writer_putName_l3 (x : Int) F (8 * (k : Int) - 8) w else fm_Writer_putName_l3 (x : Int) F (8 * (k : Int) - 8) (fr_add 3 ((x / 256 ^ k % 256 : Nat) : Int) w) := by
      conv => lhs; unfold fm_Writer_putName_l3
      rw [e1, pb_wr (by omega), if_neg (by omega), e2, pb_wr (by omega)]
      by_cases z : x / 256 ^ k % 256 = 0
      · rw [if_pos (by omega), if_pos z, pf_let_eq, e3]
      · rw [if_neg (by omega), if_neg z, pf_let_eq, pf_let_eq, e3]
    rw [step]
    show ∃ w', _ = some w' ∧ px_RL 3 (l ++ (pw_b (x / 256 ^ k) ++ pw_nmf x k)) w' ∧ pw_fr w w'
    unfold pw_b
    by_cases z : x / 256 ^ k % 256 = 0
    · rw [if_pos z, if_pos z, List.nil_append]
      exact ih F l w (by omega) (by omega) h (by omega)
    · rw [if_neg z, if_neg z]
      obtain ⟨s1, s2⟩ := px_say h (by omega) (x / 256 ^ k % 256)
      obtain ⟨w', p1, p2, p3⟩ := ih F _ _ (by omega) (by omega) s1 (by rw [List.length_append, List.length_singleton]; omega)
      refine ⟨w', p1, ?_, pw_ftr s2 p3⟩
      rw [← List.append_assoc]
      exact p2
theorem px_putName {x : Nat} (hx : pk_vw 4 x) {l : List Nat} {w : fa_W} (h : px_RL 3 l w) (hl : l.length + 4 ≤ 7000) : ∃ w', fm_Writer_putName (x : Int) w = some w' ∧ px_RL 3 (l ++ pw_nm x) w' ∧ pw_fr w w' := by
  obtain ⟨w', p1, p2, p3⟩ := px_putName_l ((pk_vw_lt 4 x hx).2 (by omega)) 4 fa_FU l w (by omega) (by unfold fa_FU; omega) h hl
  exact ⟨w', p1, by rw [pw_nm_eq 4 x hx] at p2; exact p2, p3⟩
/-! numbers -/
def pw_nu (v : Nat) : List Nat := if v < 10 then [48 + v] else if v < 100 then [48 + v / 10, 48 + v % 10] else if v < 1000 then [48 + v / 100, 48 + v / 10 % 10, 48 + v % 10] else [48 + v / 1000, 48 + v / 100 % 10, 48 + v / 10 % 10, 48 + v % 10]
theorem pw_nu_len (v : Nat) : 1 ≤ (pw_nu v).length ∧ (pw_nu v).length ≤ 4 := by
  unfold pw_nu
  split
  · exact ⟨by show 1 ≤ 1; omega, by show 1 ≤ 4; omega⟩
  · split
    · exact ⟨by show 1 ≤ 2; omega, by show 2 ≤ 4; omega⟩
    · split
      · exact ⟨by show 1 ≤ 3; omega, by show 3 ≤ 4; omega⟩
      · exact ⟨by show 1 ≤ 4; omega, by show 4 ≤ 4; omega⟩
theorem px_num1 {v u F : Nat} (hv : v ≤ 9999) (hu : u = 1000 ∨ u = 100 ∨ u = 10 ∨ u = 1) (b : Bool) (w : fa_W) : fm_Writer_putNumber_l6 (v : Int) (F + 1) b (u : Int) w = if b = true ∨ u = 1 ∨ u ≤ v then fm_Writer_putNumber_l6 (v : Int) F true ((u / 10 : Nat) : Int) (fr_add 3 ((48 + v / u % 10 : Nat) : Int) w) else fm_Writer_putNumber_l6 (v : Int) F false ((u / 10 : Nat) : Int) w := by
  have e1 : fa_idiv (u : Int) 10 = ((u / 10 : Nat) : Int) := pb_idiv (a := u) (b := 10) (by omega) (by omega)
  have e2 : fa_idiv (v : Int) (u : Int) = ((v / u : Nat) : Int) := pb_idiv (by omega) (by omega)
  have hvu : v / u ≤ v := Nat.div_le_self v u
  have e3 : fa_irem ((v / u : Nat) : Int) 10 = ((v / u % 10 : Nat) : Int) := pb_irem (a := v / u) (b := 10) (by omega) (by omega)
  have j24 : fm_Writer_putNumber_j24 (v : Int) (fun x2 x3 w9 => fm_Writer_putNumber_l6 (v : Int) F x2 x3 w9) (u : Int) w = fm_Writer_putNumber_l6 (v : Int) F true ((u / 10 : Nat) : Int) (fr_add 3 ((48 + v / u % 10 : Nat) : Int) w) := by
    unfold fm_Writer_putNumber_j24 fm_Writer_putNumber_j29 fm_Writer_putNumber_j50
    rw [if_pos rfl, pb_wr (by omega), if_neg (by omega), e2, e3, e1]
    rfl
  have j29 : fm_Writer_putNumber_j29 (v : Int) (fun x2 x3 w9 => fm_Writer_putNumber_l6 (v : Int) F x2 x3 w9) (u : Int) false w = fm_Writer_putNumber_l6 (v : Int) F false ((u / 10 : Nat) : Int) w := by
    unfold fm_Writer_putNumber_j29 fm_Writer_putNumber_j50
    rw [if_neg (by decide), e1]
    rfl
  conv => lhs; unfold fm_Writer_putNumber_l6
  rw [pb_wr (by omega), pb_wr (by omega), if_neg (by omega), j24, j29]
  by_cases hb : b = true
  · rw [if_pos hb, if_pos (Or.inl hb)]
  · rw [if_neg hb]
    by_cases h1 : u = 1
    · rw [if_pos (by omega), if_pos (Or.inr (Or.inl h1))]
    · rw [if_neg (by omega)]
      by_cases h2 : u ≤ v
      · rw [if_neg (by omega), if_pos (Or.inr (Or.inr h2))]
      · rw [if_pos (by omega), if_neg (by rintro (h | h | h); exact hb h; exact h1 h; exact h2 h)]
theorem px_num0 {v F : Nat} (b : Bool) (w : fa_W) : fm_Writer_putNumber_l6 (v : Int) (F + 1) b ((1 / 10 : Nat) : Int) w = some w := by
  conv => lhs; unfold fm_Writer_putNumber_l6
  rw [show ((1 / 10 : Nat) : Int) = 0 by rfl, if_pos (by decide)]
theorem px_putNumber {v : Nat} (hv : v ≤ 9999) {l : List Nat} {w : fa_W} (h : px_RL 3 l w) (hl : l.length + 4 ≤ 7000) : ∃ w', fm_Writer_putNumber (v : Int) w = some w' ∧ px_RL 3 (l ++ pw_nu v) w' ∧ pw_fr w w' := by
  obtain ⟨F, hF⟩ : ∃ F, fa_FU = F + 1 + 1 + 1 + 1 + 1 := ⟨fa_FU - 5, by unfold fa_FU; omega⟩
  have e0 : fm_Writer_putNumber (v : Int) w = fm_Writer_putNumber_l6 (v : Int) (F + 1 + 1 + 1 + 1 + 1) false ((1000 : Nat) : Int) w := by unfold fm_Writer_putNumber; rw [hF]; rfl
  rw [e0]
  have two : ∀ {a b : List Nat} {w w1 w2 : fa_W} {x : Nat}, px_RL 3 a w1 ∧ pw_fr w w1 → a.length < 7000 → px_RL 3 (a ++ [x]) (fr_add 3 (x : Int) w1) ∧ pw_fr w (fr_add 3 (x : Int) w1) := fun {a b w w1 w2 x} p q => ⟨(px_say p.1 q x).1, pw_ftr p.2 (px_say p.1 q x).2⟩
  have z0 : px_RL 3 l w ∧ pw_fr w w := ⟨h, fun _ _ _ _ => rfl⟩
  rw [px_num1 hv (Or.inl rfl)]
  unfold pw_nu
  by_cases c1 : 1000 ≤ v
  · rw [if_pos (Or.inr (Or.inr c1)), show (1000 : Nat) / 10 = 100 by rfl, px_num1 hv (Or.inr (Or.inl rfl)), if_pos (Or.inl rfl), show (100 : Nat) / 10 = 10 by rfl, px_num1 hv (Or.inr (Or.inr (Or.inl rfl))), if_pos (Or.inl rfl), show (10 : Nat) / 10 = 1 by rfl, px_num1 hv (Or.inr (Or.inr (Or.inr rfl))), if_pos (Or.inl rfl), px_num0]
    rw [if_neg (by omega), if_neg (by omega), if_neg (by omega)]
    have a1 := two (b := []) (w2 := w) (x := 48 + v / 1000 % 10) z0 (by omega)
    have a2 := two (b := []) (w2 := w) (x := 48 + v / 100 % 10) a1 (by simp; omega)
    have a3 := two (b := []) (w2 := w) (x := 48 + v / 10 % 10) a2 (by simp; omega)
    have a4 := two (b := []) (w2 := w) (x := 48 + v / 1 % 10) a3 (by simp; omega)
    refine ⟨_, rfl, ?_, a4.2⟩
    have := a4.1
    rw [show v / 1000 % 10 = v / 1000 by omega, Nat.div_one] at this
    simp only [List.append_assoc, List.singleton_append] at this
    rw [show v / 1000 % 10 = v / 1000 by omega, Nat.div_one]
    exact this
  · rw [if_neg (by rintro (h | h | h); cases h; omega; exact c1 h), show (1000 : Nat) / 10 = 100 by rfl, px_num1 hv (Or.inr (Or.inl rfl))]
    by_cases c2 : 100 ≤ v
    · rw [if_pos (Or.inr (Or.inr c2)), show (100 : Nat) / 10 = 10 by rfl, px_num1 hv (Or.inr (Or.inr (Or.inl rfl))), if_pos (Or.inl rfl), show (10 : Nat) / 10 = 1 by rfl, px_num1 hv (Or.inr (Or.inr (Or.inr rfl))), if_pos (Or.inl rfl), px_num0]
      rw [if_neg (by omega), if_neg (by omega), if_pos (by omega)]
      have a2 := two (b := []) (w2 := w) (x := 48 + v / 100 % 10) z0 (by omega)
      have a3 := two (b := []) (w2 := w) (x := 48 + v / 10 % 10) a2 (by simp; omega)
      have a4 := two (b := []) (w2 := w) (x := 48 + v / 1 % 10) a3 (by simp; omega)
      refine ⟨_, rfl, ?_, a4.2⟩
      have := a4.1
      rw [show v / 100 % 10 = v / 100 by omega, Nat.div_one] at this
      simp only [List.append_assoc, List.singleton_append] at this
      rw [show v / 100 % 10 = v / 100 by omega, Nat.div_one]
      exact this
    · rw [if_neg (by rintro (h | h | h); cases h; omega; exact c2 h), show (100 : Nat) / 10 = 10 by rfl, px_num1 hv (Or.inr (Or.inr (Or.inl rfl)))]
      by_cases c3 : 10 ≤ v
      · rw [if_pos (Or.inr (Or.inr c3)), show (10 : Nat) / 10 = 1 by rfl, px_num1 hv (Or.inr (Or.inr (Or.inr rfl))), if_pos (Or.inl rfl), px_num0]
        rw [if_neg (by omega), if_pos (by omega)]
        have a3 := two (b := []) (w2 := w) (x := 48 + v / 10 % 10) z0 (by omega)
        have a4 := two (b := []) (w2 := w) (x := 48 + v / 1 % 10) a3 (by simp; omega)
        refine ⟨_, rfl, ?_, a4.2⟩
        have := a4.1
        rw [show v / 10 % 10 = v / 10 by omega, Nat.div_one] at this
        simp only [List.append_assoc, List.singleton_append] at this
        rw [show v / 10 % 10 = v / 10 by omega, Nat.div_one]
        exact this
      · rw [if_neg (by rintro (h | h | h); cases h; omega; exact c3 h), show (10 : Nat) / 10 = 1 by rfl, px_num1 hv (Or.inr (Or.inr (Or.inr rfl))), if_pos (Or.inr (Or.inl rfl)), px_num0]
        rw [if_pos (by omega)]
        have a4 := two (b := []) (w2 := w) (x := 48 + v / 1 % 10) z0 (by omega)
        refine ⟨_, rfl, ?_, a4.2⟩
        have := a4.1
        rw [Nat.div_one, Nat.mod_eq_of_lt (by omega)] at this
        rw [Nat.div_one, Nat.mod_eq_of_lt (show v < 10 by omega)]
        exact this
