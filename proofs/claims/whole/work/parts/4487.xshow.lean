/-! what is SHOWN, by bytes: the class's row 3, the reference's text -/
def px_RL (r : Nat) (l : List Nat) (w : fa_W) : Prop := w r 1 = (l.length : Int) ∧ ∀ (i x : Nat), l[i]? = some x → w (r + 1) i = (x : Int)
theorem px_RL_of {r : Nat} {l : List Nat} {w w' : fa_W} (h : px_RL r l w) (e : ∀ i j, i = r ∨ i = r + 1 → w' i j = w i j) : px_RL r l w' := ⟨by rw [e _ _ (Or.inl rfl)]; exact h.1, fun i x q => by rw [e _ _ (Or.inr rfl)]; exact h.2 i x q⟩
theorem px_RL_0 {r : Nat} {w : fa_W} : px_RL r [] (fm_Row_clear r w) := ⟨fa_st_eq _ _ _ _, fun i x q => by cases q⟩
theorem px_RL_add {r : Nat} (hr : fa_rf r 0 = r + 1) {l : List Nat} {w : fa_W} (h : px_RL r l w) (hl : l.length < fa_cp r) (x : Nat) : px_RL r (l ++ [x]) (fr_add r (x : Int) w) ∧ ∀ i j, i ≠ r → i ≠ r + 1 → fr_add r (x : Int) w i j = w i j := by
  have a := px_ad1 (v := (x : Int)) hr h.1 hl
  refine ⟨⟨by rw [a.1, List.length_append]; rfl, fun i y q => ?_⟩, fun i j h1 h2 => a.2.2 i j (by omega) (by omega)⟩
  by_cases z : i < l.length
  · rw [List.getElem?_append_left z] at q
    rw [a.2.2 _ _ (by omega) (by omega)]
    exact h.2 i y q
  · rw [List.getElem?_append_right (by omega)] at q
    have e : i = l.length := by
      cases k : i - l.length with
      | zero => omega
      | succ k' => rw [k] at q; cases q
    rw [e, Nat.sub_self] at q
    cases q
    rw [e]
    exact a.2.1
theorem px_seek {r : Nat} (hr : fa_rf r 0 = r + 1) {l : List Nat} {w : fa_W} (h : px_RL r l w) (hb : ∀ y ∈ l, y < 2147483648) {x : Nat} (hx : x < 2147483648) : ∀ (m : List Nat) (k : Nat), l.drop k = m → fr_seek r (x : Int) w m.length k = if x ∈ m then ((k + pv_ix m x : Nat) : Int) else -1 := by
  intro m
  induction m with
  | nil => intro k _; rfl
  | cons y m ih =>
    intro k hd
    have gk : l[k]? = some y := by
      have := congrArg (fun l => l[0]?) hd
      simpa using this
    have gd : l.drop (k + 1) = m := by
      have := congrArg List.tail hd
      simpa using this
    have hy := hb y (List.mem_of_getElem? gk)
    rw [List.length_cons]
    unfold fr_seek
    rw [hr, h.2 k y gk, pb_wr hy, pb_wr hx]
    have ei : pv_ix (y :: m) x = if y = x then 0 else pv_ix m x + 1 := rfl
    by_cases e : y = x
    · rw [if_pos (by rw [e]), if_pos (by rw [e]; exact List.mem_cons_self ..), ei, if_pos e]
      rfl
    · rw [if_neg (fun q => e (by omega)), ih (k + 1) gd, ei, if_neg e]
      by_cases q : x ∈ m
      · rw [if_pos q, if_pos (List.mem_cons_of_mem _ q)]
        congr 1
        omega
      · rw [if_neg q, if_neg (fun z => by
          rcases List.mem_cons.mp z with z | z
          · exact e z.symm
          · exact q z)]
theorem px_place {r : Nat} (hr : fa_rf r 0 = r + 1) {l : List Nat} {w : fa_W} (h : px_RL r l w) (hl : l.length ≤ fa_cp r) (hb : ∀ y ∈ l, y < 2147483648) {x : Nat} (hx : x < 2147483648) : fr_find r (x : Int) w = if x ∈ l then ((pv_ix l x : Nat) : Int) else -1 := by
  have hc := fa_cp_hi r
  unfold fr_find
  rw [h.1, pb_wr (by omega), Int.min_eq_left (by omega)]
  have := px_seek hr h hb hx l 0 rfl
  rw [Nat.zero_add] at this
  exact this
theorem pv_ix_len : ∀ (s : List Nat) (n : Nat), pv_ix s n ≤ s.length := by
  intro s
  induction s with
  | nil => intro n; exact Nat.le_refl _
  | cons y r ih =>
    intro n
    show (if y = n then 0 else pv_ix r n + 1) ≤ r.length + 1
    have := ih n
    split <;> omega
theorem pv_ix_app : ∀ (s : List Nat) (n : Nat), pv_ix (s ++ [n]) n = pv_ix s n := by
  intro s
  induction s with
  | nil => intro n; show (if n = n then 0 else _) = 0; rw [if_pos rfl]
  | cons y r ih =>
    intro n
    show (if y = n then 0 else pv_ix (r ++ [n]) n + 1) = if y = n then 0 else pv_ix r n + 1
    rw [ih]
theorem pb_min {a b : Nat} (ha : a < 2147483648) (hb : b < 2147483648) : fa_min (a : Int) (b : Int) = ((min a b : Nat) : Int) := by
  unfold fa_min
  rw [pb_wr ha, pb_wr hb]
  split <;> omega
/-! TYPES that wait to be written: signs and numbers -/
def px_wt : List (Bool × Nat) → Nat → fa_W → Prop
  | [], _, _ => True
  | (s, x) :: r, _, w => w 39 r.length = (if s = true then -(x : Int) else (x : Int)) ∧ px_wt r 0 w
theorem px_wt_of : ∀ (l : List (Bool × Nat)) {w w' : fa_W}, (∀ j, j < l.length → w' 39 j = w 39 j) → px_wt l 0 w → px_wt l 0 w' := by
  intro l
  induction l with
  | nil => intro w w' _ _; trivial
  | cons e r ih =>
    intro w w' h H
    obtain ⟨s, x⟩ := e
    rw [List.length_cons] at h
    exact ⟨by rw [h _ (by omega)]; exact H.1, ih (fun j hj => h j (by omega)) H.2⟩
/-- all that waits, written -/
def pv_pl (E : Nat → pv_T) : List (Bool × Nat) → List Nat → List Nat
  | [], _ => []
  | (s, x) :: r, o => if s = true then x :: pv_pl E r o else (pv_pr (E x) o).1 ++ pv_pl E r (pv_pr (E x) o).2
theorem px_wpush {l : List (Bool × Nat)} {w : fa_W} (hn : w 38 1 = (l.length : Int)) (hl : l.length < 1200) (H : px_wt l 0 w) (s : Bool) (x : Nat) : fr_add 38 (if s = true then -(x : Int) else (x : Int)) w 38 1 = (((s, x) :: l).length : Int) ∧ px_wt ((s, x) :: l) 0 (fr_add 38 (if s = true then -(x : Int) else (x : Int)) w) ∧ ∀ i j, i ≠ 38 → i ≠ 39 → fr_add 38 (if s = true then -(x : Int) else (x : Int)) w i j = w i j := by
  have a := px_ad1 (r := 38) (v := if s = true then -(x : Int) else (x : Int)) rfl hn (by show l.length < 1200; exact hl)
  exact ⟨a.1, ⟨a.2.1, px_wt_of l (fun j hj => a.2.2 39 j (by omega) (by omega)) H⟩, fun i j h1 h2 => a.2.2 i j (by omega) (by omega)⟩
/-- a TYPE's next byte -/
def px_wf (oT : Nat) (w w' : fa_W) : Prop := ∀ i j, i ≠ 3 → i ≠ 4 → ¬ (38 ≤ i ∧ i ≤ 41) → w' i j = w i j
set_option maxHeartbeats 1000000 in
theorem px_showT_l {oT T : Nat} (ho : px_to oT) (h42 : 42 ≤ oT) {up : Nat → Nat} {ar : pu_A} {cl : Bool} {R : Nat → Nat} {l : List Nat} {N : Nat} (hI : pu_I T up ar R l N) {rk : Nat → Nat} (hc : pu_ac T up ar R rk) {M : Nat} (hM : ∀ k, k < T → rk k < M) (a2 : Int) : ∀ (d F x3 : Nat) (bs o : List Nat) (it : List (Bool × Nat)) (w : fa_W), bs.length + d = 300 → d < F → x3 ≤ bs.length → px_U oT T up ar cl w → px_RL 3 bs w → px_RL 40 o w → o.length ≤ bs.length → (∀ y ∈ o, y < T) → w 38 1 = (it.length : Int) → it.length ≤ 1 + 3 * bs.length → px_wt it 0 w → (∀ e ∈ it, (e.1 = true → 0 < e.2 ∧ e.2 < 256) ∧ (e.1 = false → e.2 < T)) → ∃ w', fm_Writer_showType_l31 oT a2 F (x3 : Int) w = some ((((bs ++ pv_pl (pu_ev R ar (M + 1)) it o).take 300).length : Int), w') ∧ px_RL 3 ((bs ++ pv_pl (pu_ev R ar (M + 1)) it o).take 300) w' ∧ px_wf oT w w' := by
  have hab := hI.2.2.2.2.2.2.1
  intro d
  induction d with
  | zero =>
    intro F x3 bs o it w hbs hF hx hU hO hS hos hoT hn hit hw hb
    obtain ⟨F, rfl⟩ : ∃ z, F = z + 1 := ⟨F - 1, by omega⟩
    have e : (bs ++ pv_pl (pu_ev R ar (M + 1)) it o).take 300 = bs := by
      rw [show 300 = bs.length by omega, List.take_left]
    rw [e]
    refine ⟨w, ?_, hO, fun _ _ _ _ _ => rfl⟩
    unfold fm_Writer_showType_l31 fm_Writer_showType_j104 fm_Row_size
    rw [hO.1, hn, pb_wr (n := bs.length) (by omega), pb_wr (n := x3) (by omega), if_neg (by omega)]
    split
    · rfl
    · rw [if_pos (by omega)]
  | succ d ih =>
    intro F x3 bs o it w hbs hF hx hU hO hS hos hoT hn hit hw hb
    obtain ⟨F, rfl⟩ : ∃ z, F = z + 1 := ⟨F - 1, by omega⟩
    have hT : T ≤ 400 := hU.2.2.2.2.2.2.2
    unfold fm_Writer_showType_l31 fm_Writer_showType_j104 fm_Row_size
    rw [hO.1, hn, pb_wr (n := bs.length) (by omega), pb_wr (n := x3) (by omega), pb_wr (n := it.length) (by omega), if_neg (by omega)]
    cases it with
    | nil =>
      rw [if_pos (by rw [List.length_nil]; omega)]
      have e : (bs ++ pv_pl (pu_ev R ar (M + 1)) [] o).take 300 = bs := by
        show (bs ++ []).take 300 = bs
        rw [List.append_nil, List.take_of_length_le (by omega)]
      rw [e]
      exact ⟨w, rfl, hO, fun _ _ _ _ _ => rfl⟩
    | cons e it =>
      obtain ⟨s, x⟩ := e
      rw [List.length_cons] at hn hit
      have hbx := hb (s, x) (List.mem_cons_self ..)
      have hbr : ∀ e ∈ it, (e.1 = true → 0 < e.2 ∧ e.2 < 256) ∧ (e.1 = false → e.2 < T) := fun e he => hb e (List.mem_cons_of_mem _ he)
      dsimp only at hbx
      rw [if_neg (by rw [List.length_cons]; omega), if_neg (by omega), pb_drop (r := 38) (n := it.length) hn (by show it.length + 1 ≤ 1200; omega), show fa_rf 38 0 = 39 from rfl, hw.1]
      dsimp only [fa_l2]
      have k17 : ∀ i j, ¬ (i = 38 ∧ j = 1) → fa_st w 38 1 (it.length : Int) i j = w i j := fun i j q => fa_st_ne q
      have n17 : fa_st w 38 1 (it.length : Int) 38 1 = (it.length : Int) := fa_st_eq _ _ _ _
      generalize fa_st w 38 1 (it.length : Int) = w17 at k17 n17 ⊢
      have U17 := px_U_of hU (fun i j q => k17 i j (by omega))
      have O17 := px_RL_of hO (fun i j q => k17 i j (by omega))
      have S17 := px_RL_of hS (fun i j q => k17 i j (by omega))
      have W17 := px_wt_of it (fun j _ => k17 39 j (by omega)) hw.2
      have f17 : px_wf oT w w17 := fun i j a b c => k17 i j (by omega)
      have cx : (x3 : Int) + 1 = ((x3 + 1 : Nat) : Int) := rfl
      cases s with
      | true =>
        obtain ⟨b1, b2⟩ := hbx.1 rfl
        rw [if_pos rfl, fa_wr_id (x := -(x : Int)) (by omega) (by omega), if_neg (by omega), show -(-(x : Int)) = (x : Int) by omega]
        dsimp only [fa_let]
        rw [cx]
        have ad := px_RL_add (r := 3) rfl O17 (by show bs.length < 7000; omega) x
        obtain ⟨w', y1, y2, y3⟩ := ih F (x3 + 1) (bs ++ [x]) o it (fr_add 3 (x : Int) w17) (by simp; omega) (by omega) (by simp; omega) (px_U_of U17 (fun i j q => ad.2 i j (by omega) (by omega))) ad.1 (px_RL_of S17 (fun i j q => ad.2 i j (by omega) (by omega))) (by simp; omega) hoT (by rw [ad.2 _ _ (by omega) (by omega)]; exact n17) (by simp; omega) (px_wt_of it (fun j _ => ad.2 39 j (by omega) (by omega)) W17) hbr
        have e : bs ++ pv_pl (pu_ev R ar (M + 1)) ((true, x) :: it) o = bs ++ [x] ++ pv_pl (pu_ev R ar (M + 1)) it o := by
          show bs ++ (if true = true then _ else _) = _
          rw [if_pos rfl, List.append_assoc]
          rfl
        rw [e]
        exact ⟨w', y1, y2, fun i j a b c => (y3 i j a b c).trans ((ad.2 i j a b).trans (f17 i j a b c))⟩
      | false =>
        have xT := hbx.2 rfl
        have rx := pu_root hI xT
        have ee := pu_ev_eq hI hc hM xT
        have io := px_isOpen ho U17 hab rx.2.1
        have ef : (if (false : Bool) = true then -(x : Int) else (x : Int)) = (x : Int) := rfl
        rw [ef, pb_wr (n := x) (by omega), if_pos (by omega), px_root ho hI U17 xT]
        dsimp only [Option.bind_some, fa_let]
        rw [cx]
        have e : bs ++ pv_pl (pu_ev R ar (M + 1)) ((false, x) :: it) o = bs ++ ((pv_pr (pu_ev R ar (M + 1) x) o).1 ++ pv_pl (pu_ev R ar (M + 1)) it (pv_pr (pu_ev R ar (M + 1) x) o).2) := rfl
        rw [e]
        -- a byte, then what follows
        have step : ∀ (y : Nat) (o' : List Nat) (it' : List (Bool × Nat)) (w' : fa_W), bs ++ ((pv_pr (pu_ev R ar (M + 1) x) o).1 ++ pv_pl (pu_ev R ar (M + 1)) it (pv_pr (pu_ev R ar (M + 1) x) o).2) = bs ++ [y] ++ pv_pl (pu_ev R ar (M + 1)) it' o' → px_U oT T up ar cl w' → px_RL 3 (bs ++ [y]) w' → px_RL 40 o' w' → o'.length ≤ bs.length + 1 → (∀ y ∈ o', y < T) → w' 38 1 = (it'.length : Int) → it'.length ≤ it.length + 4 → px_wt it' 0 w' → (∀ e ∈ it', (e.1 = true → 0 < e.2 ∧ e.2 < 256) ∧ (e.1 = false → e.2 < T)) → px_wf oT w17 w' → ∃ w'', fm_Writer_showType_l31 oT a2 F ((x3 + 1 : Nat) : Int) w' = some ((((bs ++ ((pv_pr (pu_ev R ar (M + 1) x) o).1 ++ pv_pl (pu_ev R ar (M + 1)) it (pv_pr (pu_ev R ar (M + 1) x) o).2)).take 300).length : Int), w'') ∧ px_RL 3 ((bs ++ ((pv_pr (pu_ev R ar (M + 1) x) o).1 ++ pv_pl (pu_ev R ar (M + 1)) it (pv_pr (pu_ev R ar (M + 1) x) o).2)).take 300) w'' ∧ px_wf oT w w'' := by
          intro y o' it' w' he h1 h2 h3 h4 h5 h6 h7 h8 h9 h10
          obtain ⟨w'', y1, y2, y3⟩ := ih F (x3 + 1) (bs ++ [y]) o' it' w' (by simp; omega) (by omega) (by simp; omega) h1 h2 h3 (by simp; omega) h5 h6 (by simp; omega) h8 h9
          rw [he]
          exact ⟨w'', y1, y2, fun i j a b c => (y3 i j a b c).trans ((h10 i j a b c).trans (f17 i j a b c))⟩
        have rr : R (R x) = R x := by
          obtain ⟨dd, hdd⟩ := pu_walk hI
          exact (hdd _ rx.2.1).2.2.2.2.1 rx.2.2
        unfold fm_Writer_putType fm_Typing_isInt
        rw [px_root ho hI U17 rx.2.1, rr]
        dsimp only [Option.bind_some]
        rw [pb_wr (n := R x) (by omega)]
        by_cases z0 : R x = 0
        · rw [if_pos (by omega)]
          dsimp only [Option.bind_some, fa_let]
          rw [if_pos rfl]
          dsimp only [Option.bind_some]
          have ad := px_RL_add (r := 3) rfl O17 (by show bs.length < 7000; omega) 105
          change px_RL 3 (bs ++ [105]) (fr_add 3 105 w17) ∧ (∀ i j, i ≠ 3 → i ≠ 4 → fr_add 3 105 w17 i j = w17 i j) at ad
          rw [if_pos z0] at ee
          refine step 105 o it _ ?_ (px_U_of U17 (fun i j q => ad.2 i j (by omega) (by omega))) ad.1 (px_RL_of S17 (fun i j q => ad.2 i j (by omega) (by omega))) (by omega) hoT (by rw [ad.2 _ _ (by omega) (by omega)]; exact n17) (by omega) (px_wt_of it (fun j _ => ad.2 39 j (by omega) (by omega)) W17) hbr (fun i j a b c => ad.2 i j a b)
          rw [ee, List.append_assoc]
          rfl
        · rw [if_neg (by omega)]
          dsimp only [Option.bind_some, fa_let]
          rw [if_neg (by decide)]
          rw [if_neg z0] at ee
          cases qa : ar (R x) with
          | none =>
            rw [if_neg (by rw [io.2.2.1 qa]; decide)]
            rw [qa] at ee
            dsimp only at ee
            have pl := px_place (r := 40) rfl S17 (by show o.length ≤ 300; omega) (fun y hy => by have := hoT y hy; omega) (x := R x) (by omega)
            have hpr : pv_pr (pu_ev R ar (M + 1) x) o = ([97 + min (pv_ix o (R x)) 25], if R x ∈ o then o else o ++ [R x]) := by rw [ee]; rfl
            have ixl := pv_ix_len o (R x)
            unfold fm_Writer_putType_j102
            rw [pl]
            by_cases qo : R x ∈ o
            · rw [if_pos qo, pb_wr (by omega), if_neg (by omega)]
              dsimp only [fa_let, Option.bind_some]
              rw [show (97 : Int) + ((pv_ix o (R x) : Nat) : Int) = ((97 + pv_ix o (R x) : Nat) : Int) by omega, show (122 : Int) = ((122 : Nat) : Int) from rfl, pb_min (by omega) (by omega)]
              have ad := px_RL_add (r := 3) rfl O17 (by show bs.length < 7000; omega) (min (97 + pv_ix o (R x)) 122)
              refine step (min (97 + pv_ix o (R x)) 122) o it _ ?_ (px_U_of U17 (fun i j q => ad.2 i j (by omega) (by omega))) ad.1 (px_RL_of S17 (fun i j q => ad.2 i j (by omega) (by omega))) (by omega) hoT (by rw [ad.2 _ _ (by omega) (by omega)]; exact n17) (by omega) (px_wt_of it (fun j _ => ad.2 39 j (by omega) (by omega)) W17) hbr (fun i j a b c => ad.2 i j a b)
              rw [hpr, if_pos qo, List.append_assoc, show min (97 + pv_ix o (R x)) 122 = 97 + min (pv_ix o (R x)) 25 by omega]
            · rw [if_neg qo, pb_wr1, if_pos rfl]
              dsimp only [fa_let, Option.bind_some]
              have a4 := px_RL_add (r := 40) rfl S17 (by show o.length < 300; omega) (R x)
              have pl2 := px_place (r := 40) rfl a4.1 (by show (o ++ [R x]).length ≤ 300; simp; omega) (fun y hy => by
                rcases List.mem_append.mp hy with hy | hy
                · have := hoT y hy; omega
                · rw [List.mem_singleton] at hy; omega) (x := R x) (by omega)
              have mem : R x ∈ o ++ [R x] := by simp
              rw [pl2, if_pos mem, pv_ix_app, show (97 : Int) + ((pv_ix o (R x) : Nat) : Int) = ((97 + pv_ix o (R x) : Nat) : Int) by omega, show (122 : Int) = ((122 : Nat) : Int) from rfl, pb_min (by omega) (by omega)]
              have O18 := px_RL_of O17 (fun i j q => a4.2 i j (by omega) (by omega))
              have ad := px_RL_add (r := 3) rfl O18 (by show bs.length < 7000; omega) (min (97 + pv_ix o (R x)) 122)
              refine step (min (97 + pv_ix o (R x)) 122) (o ++ [R x]) it _ ?_ (px_U_of U17 (fun i j q => (ad.2 i j (by omega) (by omega)).trans (a4.2 i j (by omega) (by omega)))) ad.1 (px_RL_of a4.1 (fun i j q => ad.2 i j (by omega) (by omega))) (by simp; omega) (fun y hy => by
                rcases List.mem_append.mp hy with hy | hy
                · exact hoT y hy
                · rw [List.mem_singleton] at hy; rw [hy]; exact rx.2.1) (by rw [ad.2 _ _ (by omega) (by omega), a4.2 _ _ (by omega) (by omega)]; exact n17) (by omega) (px_wt_of it (fun j _ => (ad.2 39 j (by omega) (by omega)).trans (a4.2 39 j (by omega) (by omega))) W17) hbr (fun i j a b c => (ad.2 i j a b).trans (a4.2 i j (by omega) (by omega)))
              rw [hpr, if_neg qo, List.append_assoc, show min (97 + pv_ix o (R x)) 122 = 97 + min (pv_ix o (R x)) 25 by omega]
          | some q =>
            obtain ⟨a, b⟩ := q
            rw [if_pos (io.2.2.2 (by rw [qa]; simp))]
            rw [qa] at ee
            dsimp only at ee
            have bb := hab _ rx.2.1 a b qa
            have ta := U17.2.2.2.2.2.1 _ rx.2.1 a b qa
            have ad := px_RL_add (r := 3) rfl O17 (by show bs.length < 7000; omega) 40
            have n18 : fr_add 3 ((40 : Nat) : Int) w17 38 1 = (it.length : Int) := by rw [ad.2 _ _ (by omega) (by omega)]; exact n17
            have W18 := px_wt_of it (w' := fr_add 3 ((40 : Nat) : Int) w17) (fun j _ => ad.2 39 j (by omega) (by omega)) W17
            show ∃ w', ((fa_let (fr_add 3 ((40 : Nat) : Int) w17) fun w14 => fa_let (fr_add 38 (if true = true then -((41 : Nat) : Int) else ((41 : Nat) : Int)) w14) fun w16 => fa_let (fr_add 38 (fr_at (fa_rf oT 2) (R x : Int) w16) w16) fun w19 => fa_let (fr_add 38 (if true = true then -((62 : Nat) : Int) else ((62 : Nat) : Int)) w19) fun w21 => fa_let (fr_add 38 (fr_at (fa_rf oT 1) (R x : Int) w21) w21) fun w24 => some w24).bind fun w22 => fm_Writer_showType_l31 oT a2 F ((x3 + 1 : Nat) : Int) w22) = _ ∧ _
            dsimp only [fa_let, Option.bind_some]
            have f18 : px_wf oT w17 (fr_add 3 ((40 : Nat) : Int) w17) := fun i j a b c => ad.2 i j a b
            have k18 : ∀ i j, i ≠ 3 → i ≠ 4 → fr_add 3 ((40 : Nat) : Int) w17 i j = w17 i j := ad.2
            have o18 := ad.1
            generalize fr_add 3 ((40 : Nat) : Int) w17 = w18 at n18 W18 f18 k18 o18 ⊢
            have p1 := px_wpush n18 (by omega) W18 true 41
            generalize fr_add 38 (if true = true then -((41 : Nat) : Int) else ((41 : Nat) : Int)) w18 = w19 at p1 ⊢
            have U19 : px_U oT T up ar cl w19 := px_U_of U17 (fun i j q => (p1.2.2 i j (by omega) (by omega)).trans (k18 i j (by omega) (by omega)))
            rw [ho.1.2.2.1, pb_at U19.2.2.1 rx.2.1 (by rw [ho.2.2.2.2.1]; exact hT), ho.2.1.2.2.1, (U19.2.2.2.2.2.1 _ rx.2.1 a b qa).2]
            have p2 := px_wpush p1.1 (by simp; omega) p1.2.1 false b
            change (fr_add 38 (b : Int) w19) 38 1 = _ ∧ px_wt _ 0 (fr_add 38 (b : Int) w19) ∧ (∀ i j, i ≠ 38 → i ≠ 39 → (fr_add 38 (b : Int) w19) i j = w19 i j) at p2
            generalize fr_add 38 (b : Int) w19 = w20 at p2 ⊢
            have p3 := px_wpush p2.1 (by simp; omega) p2.2.1 true 62
            generalize fr_add 38 (if true = true then -((62 : Nat) : Int) else ((62 : Nat) : Int)) w20 = w21 at p3 ⊢
            have k21 : ∀ i j, i ≠ 38 → i ≠ 39 → w21 i j = w18 i j := fun i j a b => (p3.2.2 i j a b).trans ((p2.2.2 i j a b).trans (p1.2.2 i j a b))
            have U21 : px_U oT T up ar cl w21 := px_U_of U17 (fun i j q => (k21 i j (by omega) (by omega)).trans (k18 i j (by omega) (by omega)))
            rw [ho.1.2.1, pb_at U21.2.1 rx.2.1 (by rw [ho.2.2.2.1]; exact hT), ho.2.1.2.1, (U21.2.2.2.2.2.1 _ rx.2.1 a b qa).1]
            have p4 := px_wpush p3.1 (by simp; omega) p3.2.1 false a
            change (fr_add 38 (a : Int) w21) 38 1 = _ ∧ px_wt _ 0 (fr_add 38 (a : Int) w21) ∧ (∀ i j, i ≠ 38 → i ≠ 39 → (fr_add 38 (a : Int) w21) i j = w21 i j) at p4
            generalize fr_add 38 (a : Int) w21 = w24 at p4 ⊢
            have k24 : ∀ i j, i ≠ 38 → i ≠ 39 → w24 i j = w18 i j := fun i j a b => (p4.2.2 i j a b).trans (k21 i j a b)
            refine step 40 o ((false, a) :: (true, 62) :: (false, b) :: (true, 41) :: it) w24 ?_ (px_U_of U17 (fun i j q => (k24 i j (by omega) (by omega)).trans (k18 i j (by omega) (by omega)))) (px_RL_of o18 (fun i j q => k24 i j (by omega) (by omega))) (px_RL_of S17 (fun i j q => (k24 i j (by omega) (by omega)).trans (k18 i j (by omega) (by omega)))) (by omega) hoT p4.1 (by simp) p4.2.1 (fun e he => ?_) (fun i j a b c => (k24 i j (by omega) (by omega)).trans (f18 i j a b c))
            · rw [ee]
              have ep : pv_pr (pv_ar (pu_ev R ar (M + 1) a) (pu_ev R ar (M + 1) b)) o = (40 :: (pv_pr (pu_ev R ar (M + 1) a) o).1 ++ 62 :: (pv_pr (pu_ev R ar (M + 1) b) (pv_pr (pu_ev R ar (M + 1) a) o).2).1 ++ [41], (pv_pr (pu_ev R ar (M + 1) b) (pv_pr (pu_ev R ar (M + 1) a) o).2).2) := rfl
              rw [ep]
              show bs ++ (40 :: (pv_pr (pu_ev R ar (M + 1) a) o).1 ++ 62 :: (pv_pr (pu_ev R ar (M + 1) b) (pv_pr (pu_ev R ar (M + 1) a) o).2).1 ++ [41] ++ _) = bs ++ [40] ++ ((pv_pr (pu_ev R ar (M + 1) a) o).1 ++ 62 :: ((pv_pr (pu_ev R ar (M + 1) b) (pv_pr (pu_ev R ar (M + 1) a) o).2).1 ++ 41 :: _))
              simp only [List.append_assoc, List.cons_append, List.nil_append]
            · simp only [List.mem_cons] at he
              rcases he with rfl | rfl | rfl | rfl | he
              · exact ⟨(fun z => by cases z), fun _ => bb.1⟩
              · exact ⟨(fun _ => by dsimp only; omega), fun z => by cases z⟩
              · exact ⟨(fun z => by cases z), fun _ => bb.2⟩
              · exact ⟨(fun _ => by dsimp only; omega), fun z => by cases z⟩
              · exact hbr e he
/-- a TYPE, shown by the class -/
theorem px_showT {oT T : Nat} (ho : px_to oT) (h42 : 42 ≤ oT) {up : Nat → Nat} {ar : pu_A} {cl : Bool} {R : Nat → Nat} {l : List Nat} {N : Nat} (hI : pu_I T up ar R l N) {rk : Nat → Nat} (hc : pu_ac T up ar R rk) {M : Nat} (hM : ∀ k, k < T → rk k < M) {w : fa_W} (hU : px_U oT T up ar cl w) {q : Nat} (hq : q < T) : ∃ w', fm_Writer_showType oT (q : Int) w = some (((((pv_pr (pu_ev R ar (M + 1) q) []).1.take 300).length : Nat) : Int), w') ∧ px_RL 3 ((pv_pr (pu_ev R ar (M + 1) q) []).1.take 300) w' ∧ px_wf oT w w' := by
  obtain ⟨FU, hFU⟩ : ∃ F, F = fa_FU := ⟨_, rfl⟩
  have hF2 : 1000 < FU := by rw [hFU]; unfold fa_FU; omega
  unfold fm_Writer_showType
  rw [← hFU]
  dsimp only [fa_let]
  have k6 : ∀ i j, ¬ ((i = 3 ∨ i = 40 ∨ i = 38) ∧ j = 1) → fm_Row_clear 38 (fm_Row_clear 40 (fm_Row_clear 3 w)) i j = w i j := fun i j a => by
    show fa_st (fa_st (fa_st w 3 1 0) 40 1 0) 38 1 0 i j = w i j
    rw [fa_st_ne (by omega), fa_st_ne (by omega), fa_st_ne (by omega)]
  have c3 : fm_Row_clear 38 (fm_Row_clear 40 (fm_Row_clear 3 w)) 3 1 = ((0 : Nat) : Int) := rfl
  have c40 : fm_Row_clear 38 (fm_Row_clear 40 (fm_Row_clear 3 w)) 40 1 = ((0 : Nat) : Int) := rfl
  have c38 : fm_Row_clear 38 (fm_Row_clear 40 (fm_Row_clear 3 w)) 38 1 = (([] : List (Bool × Nat)).length : Int) := rfl
  generalize fm_Row_clear 38 (fm_Row_clear 40 (fm_Row_clear 3 w)) = w6 at k6 c3 c40 c38 ⊢
  have p1 := px_wpush (l := []) c38 (by decide) trivial false q
  change (fr_add 38 (q : Int) w6) 38 1 = _ ∧ px_wt _ 0 (fr_add 38 (q : Int) w6) ∧ (∀ i j, i ≠ 38 → i ≠ 39 → (fr_add 38 (q : Int) w6) i j = w6 i j) at p1
  generalize fr_add 38 (q : Int) w6 = w8 at p1 ⊢
  obtain ⟨w', y1, y2, y3⟩ := px_showT_l ho h42 hI hc hM (q : Int) 300 FU 0 [] [] [(false, q)] w8 rfl (by omega) (Nat.le_refl _) (px_U_of hU (fun i j z => (p1.2.2 i j (by omega) (by omega)).trans (k6 i j (by omega)))) ⟨by rw [p1.2.2 _ _ (by omega) (by omega)]; exact c3, fun i x z => by cases z⟩ ⟨by rw [p1.2.2 _ _ (by omega) (by omega)]; exact c40, fun i x z => by cases z⟩ (Nat.le_refl _) (fun y hy => by cases hy) p1.1 (Nat.le_refl _) p1.2.1 (fun e he => by
    rw [List.mem_singleton] at he
    rw [he]
    exact ⟨(fun z => by cases z), fun _ => hq⟩)
  have e : ([] : List Nat) ++ pv_pl (pu_ev R ar (M + 1)) [(false, q)] [] = (pv_pr (pu_ev R ar (M + 1) q) []).1 := by
    show (pv_pr (pu_ev R ar (M + 1) q) []).1 ++ [] = _
    exact List.append_nil _
  rw [e] at y1 y2
  exact ⟨w', y1, y2, fun i j a b c => (y3 i j a b c).trans ((p1.2.2 i j (by omega) (by omega)).trans (k6 i j (by omega)))⟩
