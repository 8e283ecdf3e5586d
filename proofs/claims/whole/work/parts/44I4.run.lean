/-! numbers that are not below 0 are divided -/
theorem pb_idiv {a b : Nat} (ha : a < 2147483648) (hb : b < 2147483648) : fa_idiv (a : Int) (b : Int) = ((a / b : Nat) : Int) := by
  unfold fa_idiv
  have e1 : (fa_I (a : Int)).toInt = (a : Int) := fa_wr_id (x := (a : Int)) (by omega) (by omega)
  have e2 : (fa_I (b : Int)).toInt = (b : Int) := fa_wr_id (x := (b : Int)) (by omega) (by omega)
  rw [Int32.toInt_div_of_ne_left _ _ (fun h => by
    have := congrArg Int32.toInt h
    rw [e1] at this
    have m : Int32.minValue.toInt = -2147483648 := by decide
    omega), e1, e2]
  rfl
theorem pb_irem {a b : Nat} (ha : a < 2147483648) (hb : b < 2147483648) : fa_irem (a : Int) (b : Int) = ((a % b : Nat) : Int) := by
  have hq : fa_I (a : Int) / fa_I (b : Int) = fa_I ((a / b : Nat) : Int) := by
    apply Int32.toInt_inj.mp
    have := pb_idiv ha hb
    unfold fa_idiv at this
    rw [this]
    have hd : a / b ≤ a := Nat.div_le_self a b
    generalize a / b = q at hd ⊢
    exact (fa_wr_id (x := (q : Int)) (by omega) (by omega)).symm
  unfold fa_irem
  rw [hq]
  have e : fa_I (a : Int) - fa_I ((a / b : Nat) : Int) * fa_I (b : Int) = fa_I ((a : Int) - ((a / b : Nat) : Int) * (b : Int)) := by
    show Int32.ofInt _ - Int32.ofInt _ * Int32.ofInt _ = Int32.ofInt _
    rw [Int32.ofInt_sub, Int32.ofInt_mul]
  rw [e]
  have h1 : (a : Int) - ((a / b : Nat) : Int) * (b : Int) = ((a % b : Nat) : Int) := by
    have := Nat.div_add_mod a b
    have h2 : ((b * (a / b) + a % b : Nat) : Int) = (a : Int) := by rw [this]
    rw [Int.natCast_add, Int.natCast_mul] at h2
    rw [Int.mul_comm]
    omega
  rw [h1]
  have hm : a % b ≤ a := Nat.mod_le a b
  generalize a % b = q at hm ⊢
  exact fa_wr_id (by omega) (by omega)
/-! the class's machine: its rows -/
theorem px_mr : fa_rf 45 0 = 46 ∧ fa_rf 47 0 = 48 ∧ fa_rf 49 0 = 50 ∧ fa_rf 51 0 = 52 ∧ fa_rf 53 0 = 54 ∧ fa_cp 45 = 7474 ∧ fa_cp 47 = 5252 ∧ fa_cp 49 = 5252 ∧ fa_cp 51 = 100 ∧ fa_cp 53 = 100 := by decide +kernel
theorem px_push {r m n : Nat} {v : Int} {w : fa_W} (hr : fa_rf r 0 = r + 1) (hc : fa_cp r = m) (hn : w r 1 = (n : Int)) (h : n < m) : (fr_add r v w) r 1 = ((n + 1 : Nat) : Int) ∧ (fr_add r v w) (r + 1) n = v ∧ ∀ i j, ¬ (i = r ∧ j = 1) → ¬ (i = r + 1 ∧ j = n) → (fr_add r v w) i j = w i j := px_ad1 hr hn (by omega)
theorem px_pop {r m n : Nat} {w : fa_W} (hr : fa_rf r 0 = r + 1) (hc : fa_cp r = m) (hn : w r 1 = ((n + 1 : Nat) : Int)) (h : n + 1 ≤ m) : fr_drop r w = (w (r + 1) n, fa_st w r 1 (n : Int)) := by rw [pb_drop hn (by omega), hr]
theorem px_lastf {il : rv_I} {w : fa_W} (h : px_RL 53 (il.reverse.map (fun p => p.2)) w) (hl : il.length ≤ 100) (hj : rv_j il ≤ 100) : fm_Machine_frame w = (rv_j il : Int) := by
  unfold fm_Machine_frame
  have mx : ∀ x : Nat, x ≤ 100 → fa_max (x : Int) 0 = (x : Int) := fun x hx => by
    unfold fa_max
    rw [pb_wr (by omega), show fa_wr 0 = 0 from fa_wr_id (by omega) (by omega), if_neg (by omega)]
  cases il with
  | nil =>
    have e : fr_last 53 w = -1 := by
      unfold fr_last
      rw [h.1]
      exact pb_at_neg 53 w
    rw [e]
    unfold fa_max
    rw [pb_wr1, show fa_wr 0 = 0 from fa_wr_id (by omega) (by omega), if_pos (by omega)]
    rfl
  | cons p l =>
    have hl' : ((p :: l).reverse.map (fun p => p.2)).length = l.length + 1 := by simp
    have e1 : w 53 1 = ((l.length + 1 : Nat) : Int) := by rw [h.1, hl']
    have hcp : fa_cp 53 = 100 := by decide +kernel
    change l.length + 1 ≤ 100 at hl
    have e : fr_last 53 w = (p.2 : Int) := by
      rw [pb_last e1 (by rw [hcp]; exact hl)]
      have := h.2 l.length p.2 (by simp)
      rw [show fa_rf 53 0 = 54 by decide +kernel]
      exact this
    rw [e]
    exact mx p.2 hj
/-- a value as the class has it -/
def px_rE (n : Nat) (a : rv_V) (x : Int) : Prop := (a.2.1 = -1 ∧ x = a.1) ∨ ∃ f fr : Nat, f < 24 ∧ fr ≤ n ∧ a.2.1 = (f : Int) ∧ x = ((fr * 32 + f : Nat) : Int) ∧ (a.2.2 = -1 ∨ a.2.2 = (fr : Int))
theorem px_rE_m {n m : Nat} {a : rv_V} {x : Int} (h : n ≤ m) (e : px_rE n a x) : px_rE m a x := by
  rcases e with e | ⟨f, fr, h1, h2, h3⟩
  · exact Or.inl e
  · exact Or.inr ⟨f, fr, h1, Nat.le_trans h2 h, h3⟩
/-- the class's machine is in the state that is told; w0 is where the program lies, A what can be applied -/
def px_rS (ins : List Nat) (A : Int) (w0 : fa_W) (il : rv_I) (s : rv_S) (w : fa_W) : Prop := (∀ i j, ¬ (44 ≤ i ∧ i ≤ 54) → w i j = w0 i j) ∧ (w 44 6 = A ∧ w 44 7 = -1 ∧ w 44 8 = 0 ∧ w 44 9 = (s.1 : Int) ∧ w 44 10 = (s.2.2.2.2.2 : Int) ∧ w 44 11 = (s.2.2.2.2.1 : Int) ∧ w 44 5 = w0 44 5) ∧ w 45 1 = ((7474 : Nat) : Int) ∧ px_RL 51 (il.reverse.map (fun p => p.1)) w ∧ px_RL 53 (il.reverse.map (fun p => p.2)) w ∧ ∀ i v a, s.2.1 i v = some a → px_rE s.1 a (w 46 (i * 74 + px_xi ins v))
theorem px_rS_of {ins : List Nat} {A : Int} {w0 w w' : fa_W} {il : rv_I} {s : rv_S} (h : px_rS ins A w0 il s w) (e : ∀ i j, ¬ (47 ≤ i ∧ i ≤ 50) → w' i j = w i j) : px_rS ins A w0 il s w' := by
  obtain ⟨h1, ⟨a1, a2, a3, a4, a5, a6, a7⟩, h2, h3, h4, h5⟩ := h
  refine ⟨fun i j q => (e i j (by omega)).trans (h1 i j q), ⟨?_, ?_, ?_, ?_, ?_, ?_, ?_⟩, ?_, px_RL_of h3 (fun i j q => e i j (by omega)), px_RL_of h4 (fun i j q => e i j (by omega)), fun i v a q => ?_⟩
  all_goals rw [e _ _ (by omega)]
  all_goals first | assumption | skip
  exact h5 i v a q
/-- so many rounds lead from one world to another -/
def px_go (sc : Nat) (how : Int) (k : Nat) (w w' : fa_W) : Prop := ∀ F X : Nat, X + k ≤ 1000000 → fm_Machine_perform_l61 sc how (F + k) (X : Int) w = fm_Machine_perform_l61 sc how F ((X + k : Nat) : Int) w'
theorem px_go_tr {sc : Nat} {how : Int} {k m : Nat} {w w1 w2 : fa_W} (h : px_go sc how k w w1) (g : px_go sc how m w1 w2) : px_go sc how (k + m) w w2 := fun F X hX => by
  have e1 := h (F + m) X (by omega)
  have e2 := g F (X + k) (by omega)
  rw [show F + m + k = F + (k + m) by omega] at e1
  rw [show X + k + m = X + (k + m) by omega] at e2
  exact e1.trans e2
/-- one round: a THING's next phase -/
theorem px_round {sc o i ph T : Nat} {how : Int} {w w' : fa_W} (hsc : fa_rf sc 0 = o) (hw : w 44 7 = -1) (hT : w 47 1 = ((T + 1 : Nat) : Int)) (hT2 : T + 1 ≤ 5252) (ht : w 48 T = ((i * 4 + ph : Nat) : Int)) (hph : ph < 4) (hi : i < 100) (hg : fm_Machine_go o (i : Int) (ph : Int) (fa_st w 47 1 (T : Int)) = some w') : px_go sc how 1 w w' := fun F X hX => by
  show fm_Machine_perform_l61 sc how (F + 1) (X : Int) w = _
  have er : fm_Row_size 47 w = ((T + 1 : Nat) : Int) := hT
  have ed := px_pop (r := 47) (m := 5252) (by decide +kernel) (by decide +kernel) hT hT2
  have e4 : fa_idiv ((i * 4 + ph : Nat) : Int) 4 = (i : Int) := by
    have := pb_idiv (a := i * 4 + ph) (b := 4) (by omega) (by omega)
    rw [show (i * 4 + ph) / 4 = i by omega] at this
    exact this
  have e5 : fa_irem ((i * 4 + ph : Nat) : Int) 4 = (ph : Int) := by
    have := pb_irem (a := i * 4 + ph) (b := 4) (by omega) (by omega)
    rw [show (i * 4 + ph) % 4 = ph by omega] at this
    exact this
  conv => lhs; unfold fm_Machine_perform_l61
  rw [pb_wr (by omega), if_neg (by omega), hw, pb_wr1, if_pos rfl, er, pb_wr (by omega), if_neg (by omega), ed, ht]
  show (if fa_wr ((i * 4 + ph : Nat) : Int) = -1 then _ else _) = _
  rw [pb_wr (by omega), if_neg (by omega), e4, e5, hsc, hg]
  rfl
/-- a FUNCTION is left -/
theorem px_leave {sc T : Nat} {how : Int} {w : fa_W} {n : Nat} (hw : w 44 7 = -1) (hT : w 47 1 = ((T + 1 : Nat) : Int)) (hT2 : T + 1 ≤ 5252) (ht : w 48 T = -1) (h1 : w 51 1 = ((n + 1 : Nat) : Int)) (h2 : w 53 1 = ((n + 1 : Nat) : Int)) (hn : n + 1 ≤ 100) : px_go sc how 1 w (fa_st (fa_st (fa_st w 47 1 (T : Int)) 51 1 (n : Int)) 53 1 (n : Int)) := fun F X hX => by
  show fm_Machine_perform_l61 sc how (F + 1) (X : Int) w = _
  have er : fm_Row_size 47 w = ((T + 1 : Nat) : Int) := hT
  have ed := px_pop (r := 47) (m := 5252) (by decide +kernel) (by decide +kernel) hT hT2
  have ed1 := px_pop (r := 51) (m := 100) (n := n) (w := fa_st w 47 1 (T : Int)) (by decide +kernel) (by decide +kernel) (by rw [fa_st_ne (by omega)]; exact h1) hn
  have ed2 := px_pop (r := 53) (m := 100) (n := n) (w := fa_st (fa_st w 47 1 (T : Int)) 51 1 (n : Int)) (by decide +kernel) (by decide +kernel) (by rw [fa_st_ne (by omega), fa_st_ne (by omega)]; exact h2) hn
  conv => lhs; unfold fm_Machine_perform_l61
  rw [pb_wr (by omega), if_neg (by omega), hw, pb_wr1, if_pos rfl, er, pb_wr (by omega), if_neg (by omega), ed, ht]
  dsimp only [fa_l2]
  rw [pb_wr1, if_pos rfl, ed1]
  dsimp only
  rw [ed2]
  rfl
