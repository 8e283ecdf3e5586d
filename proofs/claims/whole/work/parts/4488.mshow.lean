/-! what the reference writes -/
theorem pm_i2b : ∀ k : Fin 128, fa_i2b (fa_i2b ((k.val : Nat) : Int)) = ((k.val : Nat) : Int) := by decide +kernel
def pm_O (bs : List Nat) (w : fa_W) : Prop := w 181 70 = (bs.length : Int) ∧ ∀ (i x : Nat), bs[i]? = some x → w 197 i = (x : Int)
theorem pm_O_of {bs : List Nat} {w w' : fa_W} (h : pm_O bs w) (e1 : w' 181 70 = w 181 70) (e2 : ∀ j, w' 197 j = w 197 j) : pm_O bs w' := ⟨by rw [e1]; exact h.1, fun i x q => by rw [e2]; exact h.2 i x q⟩
theorem pm_says {bs : List Nat} {w : fa_W} (h : pm_O bs w) (hl : bs.length < 40000) {b : Nat} (hb : b < 128) : ∃ w', fm_Mod_says (b : Int) w = some w' ∧ pm_O (bs ++ [b]) w' ∧ ∀ i j, i ≠ 197 → ¬ (i = 181 ∧ j = 70) → w' i j = w i j := by
  have e : fm_Mod_says (b : Int) w = some (fa_st (fa_st w 197 bs.length (b : Int)) 181 70 ((bs.length + 1 : Nat) : Int)) := by
    unfold fm_Mod_says
    rw [h.1, pb_ix (n := 40000) hl (by omega)]
    dsimp only [Option.bind_some, fa_let]
    have := pm_i2b ⟨b, hb⟩
    dsimp only at this
    rw [this, fa_st_ne (by omega), h.1]
    rfl
  refine ⟨_, e, ⟨by rw [fa_st_eq, List.length_append]; rfl, fun i x q => ?_⟩, fun i j h1 h2 => (fa_st_ne h2).trans (fa_st_ne (fun z => h1 z.1))⟩
  rw [fa_st_ne (by omega)]
  by_cases z : i < bs.length
  · rw [List.getElem?_append_left z] at q
    rw [fa_st_ne (by omega)]
    exact h.2 i x q
  · rw [List.getElem?_append_right (by omega)] at q
    have e : i = bs.length := by
      cases k : i - bs.length with
      | zero => omega
      | succ k' => rw [k] at q; cases q
    rw [e, Nat.sub_self] at q
    cases q
    rw [e]
    exact fa_st_eq _ _ _ _
/-- open TYPES in the order in which they were met -/
def pm_op (s : List Nat) (w : fa_W) : Prop := w 181 74 = (s.length : Int) ∧ ∀ (i x : Nat), s[i]? = some x → w 225 i = (x : Int)
theorem pm_op_of {s : List Nat} {w w' : fa_W} (h : pm_op s w) (e1 : w' 181 74 = w 181 74) (e2 : ∀ j, w' 225 j = w 225 j) : pm_op s w' := ⟨by rw [e1]; exact h.1, fun i x q => by rw [e2]; exact h.2 i x q⟩
theorem pv_tk {l m : List Nat} (x y : List Nat) (h : l.take 300 = m.take 300) (hl : 300 ≤ l.length) : (l ++ x).take 300 = (m ++ y).take 300 := by
  have hm : 300 ≤ m.length := by
    have := congrArg List.length h
    rw [List.length_take, List.length_take] at this
    omega
  rw [List.take_append_of_le_length hl, List.take_append_of_le_length hm, h]
/-- what behind a TYPE stands: exactly, or enough of it -/
def pm_WQ (bs full s s' : List Nat) (lim : Nat) (w' : fa_W) : Prop := ∃ bs', pm_O bs' w' ∧ bs'.take 300 = (bs ++ full).take 300 ∧ bs'.length ≤ lim ∧ (bs'.length < 300 → bs' = bs ++ full ∧ pm_op s' w')
def pm_wq (w w' : fa_W) : Prop := ∀ i j, i ≠ 197 → i ≠ 225 → ¬ (i = 181 ∧ (j = 70 ∨ j = 74)) → w' i j = w i j
theorem pm_open_l {T x : Nat} (hx : x < T) (hT : T ≤ 400) (a1 : Int) (rc : Int → fa_W → Option fa_W) {bs s : List Nat} {w : fa_W} (hO : pm_O bs w) (hS : pm_op s w) (hs : s.length ≤ bs.length) (hb : bs.length < 300) (hsT : ∀ y ∈ s, y < T) : ∀ (m : List Nat) (k F : Nat), s.drop k = m → k + m.length = s.length → m.length < F → (∀ y ∈ s.take k, y ≠ x) → ∃ w', fm_Mod_writesType_l89 a1 rc F (x : Int) (k : Int) w = some w' ∧ pm_O (bs ++ [97 + min (k + pv_ix m x) 25]) w' ∧ pm_op (if x ∈ m then s else s ++ [x]) w' ∧ pm_wq w w' := by
  -- the letter itself
  have letter : ∀ (n : Nat) (w1 : fa_W) (s1 : List Nat), n ≤ s.length → pm_O bs w1 → pm_op s1 w1 → pm_wq w w1 → ∃ w', fm_Mod_writesType_j141 a1 rc (n : Int) w1 = some w' ∧ pm_O (bs ++ [97 + min n 25]) w' ∧ pm_op s1 w' ∧ pm_wq w w' := by
    intro n w1 s1 hn h1 h2 h3
    obtain ⟨w', e1, e2, e3⟩ := pm_says h1 (by omega) (b := 97 + min n 25) (by omega)
    refine ⟨w', ?_, e2, pm_op_of h2 (e3 _ _ (by omega) (by omega)) (fun j => e3 _ _ (by omega) (by omega)), fun i j a b c => (e3 i j a (by omega)).trans (h3 i j a b c)⟩
    unfold fm_Mod_writesType_j141 fm_Mod_writesType_j156
    rw [pb_wr (by omega)]
    by_cases z : 26 ≤ n
    · rw [if_pos (by omega), show (97 : Int) + 25 = ((97 + min n 25 : Nat) : Int) by omega, e1]
      rfl
    · rw [if_neg (by omega), show (97 : Int) + (n : Int) = ((97 + min n 25 : Nat) : Int) by omega, e1]
      rfl
  have found : ∀ (k : Nat) (q : List Nat), s.drop k = q → (∃ r, q = x :: r) ∨ q = [] → k + q.length = s.length → (∃ w', fm_Mod_writesType_j113 a1 rc (x : Int) (k : Int) w = some w' ∧ pm_O (bs ++ [97 + min k 25]) w' ∧ pm_op (if q = [] then s ++ [x] else s) w' ∧ pm_wq w w') := by
    intro k q hd hq hl
    unfold fm_Mod_writesType_j113
    rw [hS.1, pb_wr (by omega), pb_wr (by omega)]
    rcases hq with ⟨r, hq⟩ | hq
    · rw [hq] at hl
      rw [List.length_cons] at hl
      rw [if_neg (by omega), hq, if_neg (by simp)]
      exact letter k w s (by omega) hO hS (fun _ _ _ _ _ => rfl)
    · rw [hq] at hl
      have hk : k = s.length := by rw [List.length_nil] at hl; omega
      rw [if_pos (by omega), pb_ix (n := 1200) (by omega) (by omega), if_pos hq]
      dsimp only [Option.bind_some, fa_let]
      rw [fa_st_ne (by omega), hS.1]
      refine letter k _ (s ++ [x]) (by omega) (pm_O_of hO ((fa_st_ne (by omega)).trans (fa_st_ne (by omega))) (fun j => (fa_st_ne (by omega)).trans (fa_st_ne (by omega)))) ⟨?_, fun i y q => ?_⟩ (fun i j a b c => (fa_st_ne (by omega)).trans (fa_st_ne (by omega)))
      · rw [fa_st_eq, List.length_append]; rfl
      · rw [fa_st_ne (by omega)]
        by_cases z : i < s.length
        · rw [List.getElem?_append_left z] at q
          rw [fa_st_ne (by omega)]
          exact hS.2 i y q
        · rw [List.getElem?_append_right (by omega)] at q
          have e : i = s.length := by
            cases k : i - s.length with
            | zero => omega
            | succ k' => rw [k] at q; cases q
          rw [e, Nat.sub_self] at q
          cases q
          rw [e]
          exact fa_st_eq _ _ _ _
  intro m
  induction m with
  | nil =>
    intro k F hd hl hF hno
    obtain ⟨F, rfl⟩ : ∃ z, F = z + 1 := ⟨F - 1, by omega⟩
    rw [List.length_nil] at hl
    obtain ⟨w', e1, e2, e3, e4⟩ := found k [] hd (Or.inr rfl) hl
    refine ⟨w', ?_, e2, ?_, e4⟩
    · unfold fm_Mod_writesType_l89
      rw [hS.1, pb_wr (by omega), pb_wr (by omega), if_pos (by omega)]
      exact e1
    · rw [if_neg (by simp)]
      rw [if_pos rfl] at e3
      exact e3
  | cons y m ih =>
    intro k F hd hl hF hno
    obtain ⟨F, rfl⟩ : ∃ z, F = z + 1 := ⟨F - 1, by omega⟩
    rw [List.length_cons] at hl hF
    have gk : s[k]? = some y := by
      have := congrArg (fun l => l[0]?) hd
      simpa using this
    have gd : s.drop (k + 1) = m := by
      have := congrArg List.tail hd
      simpa using this
    have hy := hsT y (List.mem_of_getElem? gk)
    unfold fm_Mod_writesType_l89
    rw [hS.1, pb_wr (n := s.length) (by omega), pb_wr (n := k) (by omega), if_neg (by omega), pb_ix (n := 1200) (by omega) (by omega)]
    dsimp only [Option.bind_some]
    rw [hS.2 k y gk, pb_wr (n := y) (by omega), pb_wr (n := x) (by omega)]
    have ei : pv_ix (y :: m) x = if y = x then 0 else pv_ix m x + 1 := rfl
    by_cases e : y = x
    · rw [if_pos (by omega), ei, if_pos e, if_pos (by rw [e]; exact List.mem_cons_self ..)]
      obtain ⟨w', e1, e2, e3, e4⟩ := found k (y :: m) hd (Or.inl ⟨m, by rw [e]⟩) (by rw [List.length_cons]; omega)
      rw [if_neg (by simp)] at e3
      exact ⟨w', e1, e2, e3, e4⟩
    · rw [if_neg (by omega)]
      dsimp only [fa_let]
      obtain ⟨w', e1, e2, e3, e4⟩ := ih (k + 1) F gd (by omega) (by omega) (fun z hz => by
        rw [List.take_succ, gk] at hz
        rcases List.mem_append.mp hz with h | h
        · exact hno z h
        · have : z = y := by simpa using h
          rw [this]; exact e)
      refine ⟨w', e1, ?_, ?_, e4⟩
      · rw [ei, if_neg e, show k + (pv_ix m x + 1) = k + 1 + pv_ix m x by omega]; exact e2
      · by_cases q : x ∈ m
        · rw [if_pos q] at e3
          rw [if_pos (List.mem_cons_of_mem _ q)]; exact e3
        · rw [if_neg q] at e3
          rw [if_neg (fun z => by
            rcases List.mem_cons.mp z with z | z
            · exact e z.symm
            · exact q z)]
          exact e3
set_option maxHeartbeats 1000000 in
theorem pm_writesT {T : Nat} {up : Nat → Nat} {ar : pu_A} {R : Nat → Nat} {l : List Nat} {N : Nat} (hI : pu_I T up ar R l N) {rk : Nat → Nat} (hc : pu_ac T up ar R rk) {M : Nat} (hM : ∀ k, k < T → rk k < M) : ∀ (n k : Nat) (bs s : List Nat) (w : fa_W), n ≤ 900 → k < T → rk (R k) < n → pm_U T up ar false w → pm_O bs w → bs.length ≤ 3000 → (bs.length < 300 → pm_op s w ∧ s.length ≤ bs.length ∧ ∀ y ∈ s, y < T) → ∃ w', fm_Mod_writesType n (k : Int) w = some w' ∧ pm_WQ bs (pv_pr (pu_ev R ar (M + 1) k) s).1 s (pv_pr (pu_ev R ar (M + 1) k) s).2 (max bs.length (300 + 2 * n)) w' ∧ pm_wq w w' ∧ (bs.length < 300 → (bs ++ (pv_pr (pu_ev R ar (M + 1) k) s).1).length < 300 → (pv_pr (pu_ev R ar (M + 1) k) s).2.length ≤ (bs ++ (pv_pr (pu_ev R ar (M + 1) k) s).1).length ∧ ∀ y ∈ (pv_pr (pu_ev R ar (M + 1) k) s).2, y < T) := by
  have hab := hI.2.2.2.2.2.2.1
  have a0 : ar 0 = none := hI.2.2.2.2.2.1
  intro n
  induction n with
  | zero => intro k bs s w _ _ h; omega
  | succ n ih =>
    intro k bs s w hn9 hk hn hU hO hbs hS
    have hT := hU.2.1
    obtain ⟨_, rk2, rk3⟩ := pu_root hI hk
    have ee := pu_ev_eq hI hc hM hk
    show ∃ w', fm_Mod_writesType_b (fm_Mod_writesType n) (k : Int) w = some w' ∧ _
    unfold fm_Mod_writesType_b
    rw [hO.1, pb_wr (by omega)]
    by_cases hlt : bs.length < 300
    · rw [if_pos (by omega), pm_find hI hU hk]
      dsimp only [Option.bind_some]
      rw [pb_ix (n := 1200) (by omega) (by omega)]
      dsimp only [Option.bind_some]
      obtain ⟨hS1, hS2, hS3⟩ := hS hlt
      have so : pm_so ar (R k) = if R k = 0 then 1 else if ar (R k) = none then 0 else 2 := rfl
      rw [hU.2.2.2.1 _ rk2, pm_so_wr]
      by_cases z0 : R k = 0
      · rw [if_pos z0] at ee so
        rw [so, if_pos rfl]
        obtain ⟨w', e1, e2, e3⟩ := pm_says hO (by omega) (b := 105) (by decide)
        have e1' : fm_Mod_says 105 w = some w' := e1
        rw [e1']
        have ep : pv_pr pv_int s = ([105], s) := rfl
        rw [ee, ep]
        refine ⟨w', rfl, ⟨_, e2, rfl, by simp; omega, fun _ => ⟨rfl, pm_op_of hS1 (e3 _ _ (by omega) (by omega)) (fun j => e3 _ _ (by omega) (by omega))⟩⟩, fun i j a b c => e3 i j a (by omega), fun _ _ => ⟨by simp; omega, hS3⟩⟩
      · rw [if_neg z0] at ee so
        cases qa : ar (R k) with
        | none =>
          rw [qa] at ee
          rw [if_pos qa] at so
          dsimp only at ee
          rw [so, if_neg (by decide), if_neg (by decide)]
          obtain ⟨FU, hFU⟩ : ∃ F, F = fa_FU := ⟨_, rfl⟩
          have hF2 : 1000 < FU := by rw [hFU]; unfold fa_FU; omega
          rw [← hFU]
          obtain ⟨w', e1, e2, e3, e4⟩ := pm_open_l rk2 hT (k : Int) (fm_Mod_writesType n) hO hS1 hS2 hlt hS3 s 0 FU rfl (by omega) (by omega) (fun y hy => by cases hy)
          rw [Nat.zero_add] at e2
          have ep : pv_pr (pv_v (R k)) s = ([97 + min (pv_ix s (R k)) 25], if R k ∈ s then s else s ++ [R k]) := rfl
          rw [ee, ep]
          refine ⟨w', e1, ⟨_, e2, rfl, by simp; omega, fun _ => ⟨rfl, e3⟩⟩, e4, fun _ _ => ⟨?_, fun y hy => ?_⟩⟩
          · dsimp only; split <;> simp <;> omega
          · dsimp only at hy
            split at hy
            · exact hS3 y hy
            · rcases List.mem_append.mp hy with hy | hy
              · exact hS3 y hy
              · rw [List.mem_singleton] at hy; rw [hy]; exact rk2
        | some q =>
          obtain ⟨a, b⟩ := q
          rw [qa] at ee
          rw [if_neg (by rw [qa]; simp)] at so
          dsimp only at ee
          rw [so, if_neg (by decide), if_pos rfl]
          have bb := hab _ rk2 a b qa
          have ca := hc _ rk2 rk3 a b qa
          obtain ⟨w1, e1, e2, e3⟩ := pm_says hO (by omega) (b := 40) (by decide)
          have e1' : fm_Mod_says 40 w = some w1 := e1
          rw [e1']
          dsimp only [Option.bind_some]
          have U1 : pm_U T up ar false w1 := pm_U_of hU (fun i j q => e3 i j (by omega) (by omega))
          rw [(U1.2.2.2.2.1 _ rk2 a b qa).1]
          obtain ⟨w2, f1, ⟨bs2, f2, f3, f4, f5⟩, f6, f7⟩ := ih a (bs ++ [40]) s w1 (by omega) bb.1 (by omega) U1 e2 (by simp; omega) (fun h => ⟨pm_op_of hS1 (e3 _ _ (by omega) (by omega)) (fun j => e3 _ _ (by omega) (by omega)), by simp; omega, hS3⟩)
          rw [f1]
          dsimp only [Option.bind_some]
          have U2 : pm_U T up ar false w2 := pm_U_of U1 (fun i j q => f6 i j (by omega) (by omega) (by omega))
          have l1 : (bs ++ [40]).length = bs.length + 1 := by simp
          rw [l1] at f4 f7
          obtain ⟨w3, g1, g2, g3⟩ := pm_says f2 (by omega) (b := 62) (by decide)
          have g1' : fm_Mod_says 62 w2 = some w3 := g1
          rw [g1']
          dsimp only [Option.bind_some]
          have U3 : pm_U T up ar false w3 := pm_U_of U2 (fun i j q => g3 i j (by omega) (by omega))
          rw [(U3.2.2.2.2.1 _ rk2 a b qa).2]
          have ep : pv_pr (pv_ar (pu_ev R ar (M + 1) a) (pu_ev R ar (M + 1) b)) s = (40 :: (pv_pr (pu_ev R ar (M + 1) a) s).1 ++ 62 :: (pv_pr (pu_ev R ar (M + 1) b) (pv_pr (pu_ev R ar (M + 1) a) s).2).1 ++ [41], (pv_pr (pu_ev R ar (M + 1) b) (pv_pr (pu_ev R ar (M + 1) a) s).2).2) := rfl
          rw [ee, ep]
          generalize hA : pv_pr (pu_ev R ar (M + 1) a) s = A at f3 f5 f7
          have l3 : (bs2 ++ [62]).length = bs2.length + 1 := by simp
          obtain ⟨w4, h1, ⟨bs4, h2, h3, h4, h5⟩, h6, h7⟩ := ih b (bs2 ++ [62]) A.2 w3 (by omega) bb.2 (by omega) U3 g2 (by simp; omega) (fun h => by
            have lt : bs2.length < 300 := by omega
            obtain ⟨p1, p2⟩ := f5 lt
            have l2 : (bs ++ [40] ++ A.1).length < 300 := by rw [← p1]; exact lt
            have := f7 (by rw [List.length_append, l1] at l2; omega) l2
            refine ⟨pm_op_of p2 (g3 _ _ (by omega) (by omega)) (fun j => g3 _ _ (by omega) (by omega)), ?_, this.2⟩
            rw [l3, p1]
            omega)
          rw [h1]
          dsimp only [Option.bind_some]
          generalize hB : pv_pr (pu_ev R ar (M + 1) b) A.2 = B at h3 h5 h7
          rw [l3] at h4 h7
          obtain ⟨w5, m1, m2, m3⟩ := pm_says h2 (by omega) (b := 41) (by decide)
          have m1' : fm_Mod_says 41 w4 = some w5 := m1
          rw [m1']
          have efull : bs ++ (40 :: A.1 ++ 62 :: B.1 ++ [41]) = bs ++ [40] ++ A.1 ++ [62] ++ B.1 ++ [41] := by simp
          have take2 : (bs2 ++ [62]).take 300 = (bs ++ [40] ++ A.1 ++ [62]).take 300 := by
            by_cases lt : bs2.length < 300
            · rw [(f5 lt).1]
            · exact pv_tk _ _ f3 (by omega)
          have take4 : bs4.take 300 = (bs ++ [40] ++ A.1 ++ [62] ++ B.1).take 300 := by
            rw [h3]
            by_cases lt : bs2.length < 300
            · rw [(f5 lt).1]
            · exact pv_tk _ _ take2 (by rw [l3]; omega)
          refine ⟨w5, rfl, ⟨bs4 ++ [41], m2, ?_, by simp; omega, fun lt => ?_⟩, fun i j x y z => (m3 i j x (by omega)).trans ((h6 i j x y z).trans ((g3 i j x (by omega)).trans ((f6 i j x y z).trans (e3 i j x (by omega))))), fun _ hl => ?_⟩
          · rw [efull]
            by_cases lt : bs4.length < 300
            · have e4 := (h5 lt).1
              have lt2 : bs2.length < 300 := by
                have := congrArg List.length e4
                rw [List.length_append, l3] at this
                omega
              rw [e4, (f5 lt2).1]
            · exact pv_tk _ _ take4 (by omega)
          · rw [List.length_append] at lt
            have lt4 : bs4.length < 300 := by have : [41].length = 1 := rfl; omega
            obtain ⟨e4, p4⟩ := h5 lt4
            have lt2 : bs2.length < 300 := by
              have := congrArg List.length e4
              rw [List.length_append, l3] at this
              omega
            rw [efull, e4, (f5 lt2).1]
            exact ⟨rfl, pm_op_of p4 (m3 _ _ (by omega) (by omega)) (fun j => m3 _ _ (by omega) (by omega))⟩
          · rw [efull] at hl ⊢
            have hl2 : (bs ++ [40] ++ A.1 ++ [62] ++ B.1 ++ [41]).length = (bs ++ [40] ++ A.1 ++ [62] ++ B.1).length + 1 := by simp; omega
            have hl3 : (bs ++ [40] ++ A.1 ++ [62] ++ B.1).length = (bs ++ [40] ++ A.1).length + 1 + B.1.length := by simp; omega
            have hl4 : (bs ++ [40] ++ A.1).length = bs.length + 1 + A.1.length := by simp; omega
            have lt2 : bs2.length < 300 := by
              have := congrArg List.length f3
              rw [List.length_take, List.length_take] at this
              omega
            have e2' := (f5 lt2).1
            have := h7 (by rw [e2']; omega) (by rw [e2']; omega)
            rw [e2'] at this
            exact ⟨by omega, this.2⟩
    · rw [if_neg (by omega)]
      refine ⟨w, rfl, ⟨bs, hO, ?_, by omega, fun h => absurd h hlt⟩, fun _ _ _ _ _ => rfl, fun h => absurd h hlt⟩
      rw [List.take_append_of_le_length (by omega)]
/-- a TYPE, shown by the reference -/
theorem pm_showT {T : Nat} {up : Nat → Nat} {ar : pu_A} {R : Nat → Nat} {l : List Nat} {N : Nat} (hI : pu_I T up ar R l N) {rk : Nat → Nat} (hc : pu_ac T up ar R rk) (hb : ∀ k, rk k ≤ T) {M : Nat} (hM : ∀ k, k < T → rk k < M) {w : fa_W} (hU : pm_U T up ar false w) {k : Nat} (hk : k < T) : ∃ w', fm_Mod_showsType (k : Int) w = some (((((pv_pr (pu_ev R ar (M + 1) k) []).1.take 300).length : Nat) : Int), w') ∧ pm_O ((pv_pr (pu_ev R ar (M + 1) k) []).1.take 300) w' ∧ pm_wq w w' := by
  have hT := hU.2.1
  unfold fm_Mod_showsType
  dsimp only [fa_let]
  have k2 : ∀ i j, ¬ (i = 181 ∧ (j = 70 ∨ j = 74)) → fa_st (fa_st w 181 70 0) 181 74 0 i j = w i j := fun i j a => (fa_st_ne (by omega)).trans (fa_st_ne (by omega))
  have c70 : fa_st (fa_st w 181 70 0) 181 74 0 181 70 = ((0 : Nat) : Int) := (fa_st_ne (by omega)).trans (fa_st_eq _ _ _ _)
  have c74 : fa_st (fa_st w 181 70 0) 181 74 0 181 74 = ((0 : Nat) : Int) := fa_st_eq _ _ _ _
  generalize fa_st (fa_st w 181 70 0) 181 74 0 = w2 at k2 c70 c74 ⊢
  have rr := hb (R k)
  obtain ⟨w', e1, ⟨bs', e2, e3, e4, e5⟩, e6, _⟩ := pm_writesT hI hc hM 900 k [] [] w2 (Nat.le_refl _) hk (by omega) (pm_U_of hU (fun i j q => k2 i j (by omega))) ⟨c70, fun i x z => by cases z⟩ (Nat.zero_le _) (fun _ => ⟨⟨c74, fun i x z => by cases z⟩, Nat.le_refl _, fun y hy => by cases hy⟩)
  rw [e1]
  dsimp only [Option.bind_some]
  rw [List.nil_append] at e3 e5
  have fr : pm_wq w w' := fun i j a b c => (e6 i j a b c).trans (k2 i j c)
  rw [e2.1]
  have hl : bs'.length ≤ 3000 := by
    have : ([] : List Nat).length = 0 := rfl
    omega
  rw [pb_wr (by omega)]
  unfold fm_Mod_showsType_j32
  by_cases z : bs'.length ≤ 300
  · rw [if_pos (by omega), e2.1]
    have eb : bs' = (pv_pr (pu_ev R ar (M + 1) k) []).1.take 300 := by
      rw [← e3, List.take_of_length_le z]
    rw [← eb]
    exact ⟨w', rfl, e2, fr⟩
  · rw [if_neg (by omega), fa_st_eq]
    have lb : (bs'.take 300).length = 300 := by rw [List.length_take]; omega
    rw [← e3, lb]
    refine ⟨_, rfl, ⟨by rw [fa_st_eq, lb]; rfl, fun i x q => ?_⟩, fun i j a b c => (fa_st_ne (by omega)).trans (fr i j a b c)⟩
    rw [fa_st_ne (by omega)]
    rw [List.getElem?_take] at q
    split at q
    · exact e2.2 i x q
    · cases q
