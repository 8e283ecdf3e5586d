/-! the class's linked TYPES (o: 83, 146) -/
def px_to (o : Nat) : Prop := (fa_rf o 0 = o + 1 ∧ fa_rf o 1 = o + 3 ∧ fa_rf o 2 = o + 5 ∧ fa_rf o 3 = o + 7 ∧ fa_rf o 4 = o + 9 ∧ fa_rf o 5 = o + 11 ∧ fa_rf o 6 = o + 13 ∧ fa_rf o 7 = o + 15) ∧ (fa_rf (o + 1) 0 = o + 1 + 1 ∧ fa_rf (o + 3) 0 = o + 3 + 1 ∧ fa_rf (o + 5) 0 = o + 5 + 1 ∧ fa_rf (o + 7) 0 = o + 7 + 1 ∧ fa_rf (o + 9) 0 = o + 9 + 1 ∧ fa_rf (o + 11) 0 = o + 11 + 1 ∧ fa_rf (o + 13) 0 = o + 13 + 1 ∧ fa_rf (o + 15) 0 = o + 15 + 1) ∧ (fa_cp (o + 1) = 400 ∧ fa_cp (o + 3) = 400 ∧ fa_cp (o + 5) = 400 ∧ fa_cp (o + 7) = 400 ∧ fa_cp (o + 9) = 100 ∧ fa_cp (o + 11) = 74 ∧ fa_cp (o + 13) = 24 ∧ fa_cp (o + 15) = 400)
theorem px_to_83 : px_to 83 := by unfold px_to; decide
theorem px_to_146 : px_to 146 := by unfold px_to; decide
def px_U (o T : Nat) (up : Nat → Nat) (ar : pu_A) (cl : Bool) (w : fa_W) : Prop := w (o + 1) 1 = (T : Int) ∧ w (o + 3) 1 = (T : Int) ∧ w (o + 5) 1 = (T : Int) ∧ (∀ k, k < T → w (o + 2) k = (up k : Int)) ∧ (∀ k, k < T → ar k = none → w (o + 4) k = -1 ∧ w (o + 6) k = -1) ∧ (∀ k, k < T → ∀ a b, ar k = some (a, b) → w (o + 4) k = (a : Int) ∧ w (o + 6) k = (b : Int)) ∧ w o 8 = fa_bi cl ∧ T ≤ 400
theorem px_U_of {o T : Nat} {up : Nat → Nat} {ar : pu_A} {cl : Bool} {w w' : fa_W} (h : px_U o T up ar cl w) (e : ∀ i j, (i = o + 1 ∨ i = o + 2 ∨ i = o + 3 ∨ i = o + 4 ∨ i = o + 5 ∨ i = o + 6 ∨ (i = o ∧ j = 8)) → w' i j = w i j) : px_U o T up ar cl w' := by
  obtain ⟨h1, h2, h3, h4, h5, h6, h7, h8⟩ := h
  exact ⟨by rw [e _ _ (by omega)]; exact h1, by rw [e _ _ (by omega)]; exact h2, by rw [e _ _ (by omega)]; exact h3, fun k hk => by rw [e _ _ (by omega)]; exact h4 k hk, fun k hk q => by rw [e _ _ (by omega), e _ _ (by omega)]; exact h5 k hk q, fun k hk a b q => by rw [e _ _ (by omega), e _ _ (by omega)]; exact h6 k hk a b q, by rw [e _ _ (by omega)]; exact h7, h8⟩
theorem px_root_l {o T : Nat} (ho : px_to o) {up : Nat → Nat} {ar : pu_A} {cl : Bool} {R : Nat → Nat} {w : fa_W} (hU : px_U o T up ar cl w) {d : Nat → Nat} (hd : ∀ k, k < T → R k < T ∧ up (R k) = R k ∧ d k < T ∧ up k < T ∧ (up k = k → R k = k) ∧ (up k ≠ k → R (up k) = R k ∧ d (up k) < d k)) : ∀ (m F k x3 : Nat), k < T → d k ≤ m → m < F → x3 + m < 400 → fm_Typing_root_l4 o (k : Int) w F (k : Int) (x3 : Int) = some (R k : Int) ∧ ∀ a1 : Int, fm_Typing_root_l4 o a1 w F (k : Int) (x3 : Int) = some (R k : Int) := by
  have key : ∀ (m F k x3 : Nat) (a1 : Int), k < T → d k ≤ m → m < F → x3 + m < 400 → fm_Typing_root_l4 o a1 w F (k : Int) (x3 : Int) = some (R k : Int) := by
    intro m
    induction m with
    | zero =>
      intro F k x3 a1 hk hm hF hx
      obtain ⟨F, rfl⟩ : ∃ z, F = z + 1 := ⟨F - 1, by omega⟩
      obtain ⟨c1, c2, c3, c4, c5, c6⟩ := hd k hk
      have e : up k = k := by
        by_cases e : up k = k
        · exact e
        · have := (c6 e).2; omega
      unfold fm_Typing_root_l4
      rw [pb_wr (by omega), if_neg (by omega), ho.1.1, pb_at hU.1 hk (by rw [ho.2.2.1]; exact hU.2.2.2.2.2.2.2), ho.2.1.1, hU.2.2.2.1 k hk, e, if_pos rfl, c5 e]
    | succ m ih =>
      intro F k x3 a1 hk hm hF hx
      obtain ⟨F, rfl⟩ : ∃ z, F = z + 1 := ⟨F - 1, by omega⟩
      obtain ⟨c1, c2, c3, c4, c5, c6⟩ := hd k hk
      have hT : T ≤ 400 := hU.2.2.2.2.2.2.2
      unfold fm_Typing_root_l4
      rw [pb_wr (by omega), if_neg (by omega), ho.1.1, pb_at hU.1 hk (by rw [ho.2.2.1]; exact hT), ho.2.1.1, hU.2.2.2.1 k hk, pb_wr (by omega), pb_wr (by omega)]
      by_cases e : up k = k
      · rw [if_pos (by omega), c5 e]
      · rw [if_neg (by omega)]
        dsimp only [fa_let]
        obtain ⟨e1, e2⟩ := c6 e
        have := ih F (up k) (x3 + 1) a1 c4 (by omega) (by omega) (by omega)
        rw [e1] at this
        exact this
  exact fun m F k x3 h1 h2 h3 h4 => ⟨key m F k x3 _ h1 h2 h3 h4, fun a1 => key m F k x3 a1 h1 h2 h3 h4⟩
theorem px_root {o T : Nat} (ho : px_to o) {up : Nat → Nat} {ar : pu_A} {cl : Bool} {R : Nat → Nat} {l : List Nat} {N : Nat} {w : fa_W} (hI : pu_I T up ar R l N) (hU : px_U o T up ar cl w) {k : Nat} (hk : k < T) : fm_Typing_root o (k : Int) w = some (R k : Int) := by
  obtain ⟨d, hd⟩ := pu_walk hI
  have hT : T ≤ 400 := hU.2.2.2.2.2.2.2
  have dk := (hd k hk).2.2.1
  obtain ⟨FU, hFU, hF2⟩ : ∃ F, F = fa_FU ∧ 1000 < F := ⟨_, rfl, by unfold fa_FU; omega⟩
  unfold fm_Typing_root
  rw [← hFU]
  exact (px_root_l ho hU hd (d k) FU k 0 hk (Nat.le_refl _) (by omega) (by omega)).1
theorem px_isOpen {o T : Nat} (ho : px_to o) {up : Nat → Nat} {ar : pu_A} {cl : Bool} {w : fa_W} (hU : px_U o T up ar cl w) (hab : ∀ k, k < T → ∀ a b, ar k = some (a, b) → a < T ∧ b < T) {k : Nat} (hk : k < T) : (k ≠ 0 ∧ ar k = none → fm_Typing_isOpen o (k : Int) w = true) ∧ (¬ (k ≠ 0 ∧ ar k = none) → fm_Typing_isOpen o (k : Int) w = false) ∧ (ar k = none → fm_Typing_isArrow o (k : Int) w = false) ∧ (ar k ≠ none → fm_Typing_isArrow o (k : Int) w = true) := by
  have hT : T ≤ 400 := hU.2.2.2.2.2.2.2
  unfold fm_Typing_isOpen fm_Typing_isArrow
  rw [pb_wr (by omega), ho.1.2.1, pb_at hU.2.1 hk (by rw [ho.2.2.2.1]; exact hT), ho.2.1.2.1]
  cases e : ar k with
  | none =>
    rw [(hU.2.2.2.2.1 k hk e).1, pb_wr1, if_pos rfl, if_pos rfl]
    refine ⟨fun q => if_neg (by omega), fun q => if_pos ?_, fun _ => rfl, fun q => absurd rfl q⟩
    by_cases z : k = 0
    · omega
    · exact absurd ⟨z, rfl⟩ q
  | some q =>
    obtain ⟨a, b⟩ := q
    have l := hab k hk a b e
    have na : ¬ ((a : Int) = -1) := by omega
    rw [(hU.2.2.2.2.2.1 k hk a b e).1, pb_wr (n := a) (by omega), if_neg na, if_neg na]
    exact ⟨fun q => absurd q.2 (by simp), fun _ => ite_self _, fun q => (nomatch q), fun _ => rfl⟩
/-- pairs that wait, the last one first -/
def px_ps (o : Nat) : List (Nat × Nat) → fa_W → Prop
  | [], _ => True
  | p :: r, w => w (o + 16) (2 * r.length) = (p.1 : Int) ∧ w (o + 16) (2 * r.length + 1) = (p.2 : Int) ∧ px_ps o r w
theorem px_ps_of {o : Nat} : ∀ (ps : List (Nat × Nat)) {w w' : fa_W}, (∀ j, j < 2 * ps.length → w' (o + 16) j = w (o + 16) j) → px_ps o ps w → px_ps o ps w' := by
  intro ps
  induction ps with
  | nil => intro w w' _ _; trivial
  | cons p r ih =>
    intro w w' h H
    rw [List.length_cons] at h
    exact ⟨by rw [h _ (by omega)]; exact H.1, by rw [h _ (by omega)]; exact H.2.1, ih (fun j hj => h j (by omega)) H.2.2⟩
def pu_ct (ar : pu_A) : List Nat → Nat
  | [] => 0
  | k :: r => (if ar k = none then 0 else 1) + pu_ct ar r
theorem pu_ct_erase (ar : pu_A) : ∀ (l : List Nat) (r : Nat), r ∈ l → pu_ct ar (l.erase r) + (if ar r = none then 0 else 1) = pu_ct ar l := by
  intro l
  induction l with
  | nil => intro r h; cases h
  | cons y q ih =>
    intro r h
    by_cases e : y = r
    · subst e
      rw [List.erase_cons_head]
      exact Nat.add_comm _ _
    · rw [List.erase_cons_tail (by simpa using e)]
      rcases List.mem_cons.mp h with z | z
      · exact absurd z.symm e
      · have := ih r z
        show (if ar y = none then 0 else 1) + pu_ct ar (q.erase r) + _ = (if ar y = none then 0 else 1) + pu_ct ar q
        omega
theorem pu_ct_le (ar : pu_A) (l : List Nat) : pu_ct ar l ≤ l.length := by
  induction l with
  | nil => exact Nat.le_refl _
  | cons y q ih =>
    show (if ar y = none then 0 else 1) + pu_ct ar q ≤ q.length + 1
    split <;> omega
def px_uf (o : Nat) (w w' : fa_W) : Prop := ∀ i j, i ≠ o + 2 → i ≠ o + 15 → i ≠ o + 16 → ¬ (i = o ∧ j = 8) → w' i j = w i j
theorem px_uf_tr {o : Nat} {w w1 w2 : fa_W} (h1 : px_uf o w w1) (h2 : px_uf o w1 w2) : px_uf o w w2 := fun i j a b c d => (h2 i j a b c d).trans (h1 i j a b c d)
def px_UQ (o T : Nat) (ar : pu_A) (ps : List (Nat × Nat)) (up : Nat → Nat) (cl : Bool) (c : Nat) (w w' : fa_W) : Prop := ∃ up' cl' R' l' N', pu_I T up' ar R' l' N' ∧ px_U o T up' ar cl' w' ∧ pu_ct ar l' ≤ c ∧ pu_P T ar ps up cl up' cl' ∧ px_uf o w w'
theorem px_U_link {o T : Nat} (ho : px_to o) {up : Nat → Nat} {ar : pu_A} {cl : Bool} {w : fa_W} (hU : px_U o T up ar cl w) {r s : Nat} (hr : r < T) : px_U o T (pu_set up r s) ar cl (fr_set (o + 1) (r : Int) (s : Int) w) ∧ (∀ i j, ¬ (i = o + 2 ∧ j = r) → fr_set (o + 1) (r : Int) (s : Int) w i j = w i j) := by
  obtain ⟨h1, h2, h3, h4, h5, h6, h7, h8⟩ := hU
  have q := px_set1 (r := o + 1) (v := (s : Int)) ho.2.1.1 h1 hr (by rw [ho.2.2.1]; exact h8)
  refine ⟨⟨by rw [q.2 _ _ (by omega)]; exact h1, by rw [q.2 _ _ (by omega)]; exact h2, by rw [q.2 _ _ (by omega)]; exact h3, fun k hk => ?_, fun k hk e => by rw [q.2 _ _ (by omega), q.2 _ _ (by omega)]; exact h5 k hk e, fun k hk a b e => by rw [q.2 _ _ (by omega), q.2 _ _ (by omega)]; exact h6 k hk a b e, by rw [q.2 _ _ (by omega)]; exact h7, h8⟩, q.2⟩
  by_cases e : k = r
  · subst e
    rw [pu_set_eq]
    exact q.1
  · rw [pu_set_ne _ _ e, q.2 _ _ (by omega)]
    exact h4 k hk
/-- four numbers more that wait -/
theorem px_push4 {o : Nat} (ho : px_to o) {ps : List (Nat × Nat)} {w : fa_W} (hn : w (o + 15) 1 = ((2 * ps.length : Nat) : Int)) (hp : px_ps o ps w) (hl : 2 * ps.length + 4 ≤ 400) (a b c d : Nat) : (fr_add (o + 15) (d : Int) (fr_add (o + 15) (c : Int) (fr_add (o + 15) (b : Int) (fr_add (o + 15) (a : Int) w)))) (o + 15) 1 = ((2 * ((c, d) :: (a, b) :: ps).length : Nat) : Int) ∧ px_ps o ((c, d) :: (a, b) :: ps) (fr_add (o + 15) (d : Int) (fr_add (o + 15) (c : Int) (fr_add (o + 15) (b : Int) (fr_add (o + 15) (a : Int) w)))) ∧ ∀ i j, i ≠ o + 15 → i ≠ o + 16 → (fr_add (o + 15) (d : Int) (fr_add (o + 15) (c : Int) (fr_add (o + 15) (b : Int) (fr_add (o + 15) (a : Int) w)))) i j = w i j := by
  have hr := ho.2.1.2.2.2.2.2.2.2
  have hc := ho.2.2.2.2.2.2.2.2.2
  have i1 := px_ad1 (v := (a : Int)) hr hn (by omega)
  have i2 := px_ad1 (v := (b : Int)) hr i1.1 (by omega)
  have i3 := px_ad1 (v := (c : Int)) hr i2.1 (by omega)
  have i4 := px_ad1 (v := (d : Int)) hr i3.1 (by omega)
  have e1 := (i4.2.2 (o + 16) (2 * ps.length) (by omega) (by omega)).trans ((i3.2.2 _ _ (by omega) (by omega)).trans ((i2.2.2 _ _ (by omega) (by omega)).trans i1.2.1))
  have e2 := (i4.2.2 (o + 16) (2 * ps.length + 1) (by omega) (by omega)).trans ((i3.2.2 _ _ (by omega) (by omega)).trans i2.2.1)
  have e3 := (i4.2.2 (o + 16) (2 * ps.length + 1 + 1) (by omega) (by omega)).trans i3.2.1
  refine ⟨by rw [i4.1, List.length_cons, List.length_cons]; congr 1, ⟨?_, ?_, ?_, ?_, ?_⟩, fun i j q1 q2 => ?_⟩
  · rw [List.length_cons]; exact e3
  · rw [List.length_cons]; exact i4.2.1
  · exact e1
  · exact e2
  · refine px_ps_of ps (fun j hj => ?_) hp
    rw [i4.2.2 _ _ (by omega) (by omega), i3.2.2 _ _ (by omega) (by omega), i2.2.2 _ _ (by omega) (by omega), i1.2.2 _ _ (by omega) (by omega)]
  · rw [i4.2.2 _ _ (by omega) (by omega), i3.2.2 _ _ (by omega) (by omega), i2.2.2 _ _ (by omega) (by omega), i1.2.2 _ _ (by omega) (by omega)]
set_option maxHeartbeats 1000000 in
theorem px_unify_l {o T : Nat} (ho : px_to o) (a1 a2 : Int) {ar : pu_A} : ∀ (m F x3 : Nat) (up : Nat → Nat) (cl : Bool) (R : Nat → Nat) (l : List Nat) (N : Nat) (ps : List (Nat × Nat)) (w : fa_W), 3 * l.length + ps.length ≤ m → m < F → x3 + m < 1000000 → pu_I T up ar R l N → px_U o T up ar cl w → w (o + 15) 1 = ((2 * ps.length : Nat) : Int) → px_ps o ps w → (∀ p ∈ ps, p.1 < T ∧ p.2 < T) → ps.length + pu_ct ar l ≤ 150 → pb_ok (fm_Typing_unify_l25 o a1 a2 F (x3 : Int) w) (px_UQ o T ar ps up cl (pu_ct ar l) w) := by
  intro m
  induction m with
  | zero =>
    intro F x3 up cl R l N ps w hm hF hx hI hU hn hps hp hct
    obtain ⟨F, rfl⟩ : ∃ z, F = z + 1 := ⟨F - 1, by omega⟩
    have e : ps = [] := List.eq_nil_of_length_eq_zero (by omega)
    subst e
    unfold fm_Typing_unify_l25 fm_Row_size
    rw [pb_wr (by omega), if_neg (by omega), ho.1.2.2.2.2.2.2.2, hn, pb_wr (by decide), if_pos (by decide)]
    exact pb_some ⟨up, cl, R, l, N, hI, hU, Nat.le_refl _, pu_P_nil T ar up cl, fun _ _ _ _ _ _ => rfl⟩
  | succ m ih =>
    intro F x3 up cl R l N ps w hm hF hx hI hU hn hps hp hct
    obtain ⟨F, rfl⟩ : ∃ z, F = z + 1 := ⟨F - 1, by omega⟩
    have hT : T ≤ 400 := hU.2.2.2.2.2.2.2
    cases ps with
    | nil =>
      unfold fm_Typing_unify_l25 fm_Row_size
      rw [pb_wr (by omega), if_neg (by omega), ho.1.2.2.2.2.2.2.2, hn, pb_wr (by decide), if_pos (by decide)]
      exact pb_some ⟨up, cl, R, l, N, hI, hU, Nat.le_refl _, pu_P_nil T ar up cl, fun _ _ _ _ _ _ => rfl⟩
    | cons p ps =>
      obtain ⟨a, b⟩ := p
      have hp0 := hp (a, b) (List.mem_cons_self ..)
      have hp1 : ∀ p ∈ ps, p.1 < T ∧ p.2 < T := fun p q => hp p (List.mem_cons_of_mem _ q)
      dsimp only at hp0
      rw [List.length_cons] at hn hm hct
      obtain ⟨s1, s2, s3⟩ := hps
      dsimp only at s1 s2
      have hr := ho.2.1.2.2.2.2.2.2.2
      have hc := ho.2.2.2.2.2.2.2.2.2
      unfold fm_Typing_unify_l25 fm_Row_size
      rw [pb_wr (by omega), if_neg (by omega), ho.1.2.2.2.2.2.2.2, hn, pb_wr (by omega), if_neg (by omega)]
      rw [pb_drop (n := 2 * ps.length + 1) (by rw [hn]; congr 1) (by omega), hr]
      dsimp only [fa_l2]
      rw [show o + 15 + 1 = o + 16 from rfl, s2]
      have U12 : px_U o T up ar cl (fa_st w (o + 15) 1 ((2 * ps.length + 1 : Nat) : Int)) := px_U_of hU (fun i j q => fa_st_ne (by omega))
      rw [px_root ho hI U12 hp0.2]
      dsimp only [Option.bind_some]
      rw [pb_drop (n := 2 * ps.length) (by rw [fa_st_eq]) (by omega), hr]
      dsimp only
      rw [fa_st_ne (by omega), show o + 15 + 1 = o + 16 from rfl, s1]
      have U17 : px_U o T up ar cl (fa_st (fa_st w (o + 15) 1 ((2 * ps.length + 1 : Nat) : Int)) (o + 15) 1 ((2 * ps.length : Nat) : Int)) := px_U_of U12 (fun i j q => fa_st_ne (by omega))
      have n17 : fa_st (fa_st w (o + 15) 1 ((2 * ps.length + 1 : Nat) : Int)) (o + 15) 1 ((2 * ps.length : Nat) : Int) (o + 15) 1 = ((2 * ps.length : Nat) : Int) := fa_st_eq _ _ _ _
      have o17 : ∀ i j, i ≠ o + 15 → fa_st (fa_st w (o + 15) 1 ((2 * ps.length + 1 : Nat) : Int)) (o + 15) 1 ((2 * ps.length : Nat) : Int) i j = w i j := fun i j q => (fa_st_ne (by omega)).trans (fa_st_ne (by omega))
      rw [px_root ho hI U17 hp0.1]
      dsimp only [Option.bind_some]
      generalize fa_st (fa_st w (o + 15) 1 ((2 * ps.length + 1 : Nat) : Int)) (o + 15) 1 ((2 * ps.length : Nat) : Int) = w17 at U17 n17 o17 ⊢
      have p17 : px_ps o ps w17 := px_ps_of ps (fun j _ => o17 _ _ (by omega)) s3
      have f17 : px_uf o w w17 := fun i j q1 q2 q3 q4 => o17 i j q2
      clear U12 s1 s2 s3 hU hn hp
      obtain ⟨ra1, ra2, ra3⟩ := pu_root hI hp0.1
      obtain ⟨rb1, rb2, rb3⟩ := pu_root hI hp0.2
      have hab := hI.2.2.2.2.2.2.1
      have la := List.length_pos_of_mem ra1
      rw [pb_wr (n := R a) (by omega), pb_wr (n := R b) (by omega)]
      have c3 : (x3 : Int) + 1 = ((x3 + 1 : Nat) : Int) := rfl
      by_cases e1 : R a = R b
      · rw [if_pos (by omega), c3]
        dsimp only [fa_let]
        refine pb_mono (ih F (x3 + 1) up cl R l N ps w17 (by omega) (by omega) (by omega) hI U17 n17 p17 hp1 (by omega)) (fun w' q => ?_)
        obtain ⟨up', cl', R', l', N', y1, y2, y3, y4, y5⟩ := q
        exact ⟨up', cl', R', l', N', y1, y2, y3, pu_P_eq hI hp0.1 hp0.2 e1 y4, px_uf_tr f17 y5⟩
      rw [if_neg (by omega)]
      have oa := px_isOpen ho U17 hab ra2
      have ob := px_isOpen ho U17 hab rb2
      have link : ∀ (r s : Nat) (ds : List (Nat × Nat)) (w' : fa_W), r ∈ l → s ∈ l → r ≠ s → r ≠ 0 → ((r = R a ∧ s = R b) ∨ (r = R b ∧ s = R a)) → ((ar r = none ∧ ds = []) ∨ (ar r ≠ none ∧ ds.length = 2 ∧ ∃ a1 b1 a2 b2, ar r = some (a1, b1) ∧ ar s = some (a2, b2) ∧ ∀ val : Nat → pv_T, (∀ p ∈ ds, val p.1 = val p.2) ↔ (val a1 = val a2 ∧ val b1 = val b2))) → (∀ p ∈ ds, p.1 < T ∧ p.2 < T) → px_U o T (pu_set up r s) ar cl w' → w' (o + 15) 1 = ((2 * (ds ++ ps).length : Nat) : Int) → px_ps o (ds ++ ps) w' → px_uf o w17 w' → pb_ok (fm_Typing_unify_l25 o a1 a2 F ((x3 : Int) + 1) w') (px_UQ o T ar ((a, b) :: ps) up cl (pu_ct ar l) w) := by
        intro r s ds w' hr1 hs1 hrs h0 hor har hds hU' hn' hps' hf'
        rw [c3]
        have ce := pu_ct_erase ar l r hr1
        have I' := pu_link hI hr1 hs1 hrs h0
        have le : (l.erase r).length + 1 = l.length := by rw [List.length_erase_of_mem hr1]; omega
        have dl : ds.length ≤ 2 ∧ ds.length + pu_ct ar (l.erase r) ≤ pu_ct ar l + 1 := by
          rcases har with ⟨g1, g2⟩ | ⟨g1, g2, _⟩
          · rw [if_pos g1] at ce; rw [g2]; simp; omega
          · rw [if_neg g1] at ce; omega
        refine pb_mono (ih F (x3 + 1) (pu_set up r s) cl _ (l.erase r) (N + 1) (ds ++ ps) w' (by rw [List.length_append]; omega) (by omega) (by omega) I' hU' hn' hps' (fun p q => ?_) (by rw [List.length_append]; omega)) (fun w'' q => ?_)
        · rcases List.mem_append.mp q with z | z
          · exact hds p z
          · exact hp1 p z
        · obtain ⟨up', cl', R', l', N', y1, y2, y3, y4, y5⟩ := q
          refine ⟨up', cl', R', l', N', y1, y2, by omega, ?_, px_uf_tr f17 (px_uf_tr hf' y5)⟩
          exact pu_P_lk hI hp0.1 hp0.2 hor hrs h0 (har.elim Or.inl (fun z => Or.inr z.2.2)) y4
      by_cases o1 : R a ≠ 0 ∧ ar (R a) = none
      · rw [if_pos (oa.1 o1)]
        dsimp only [fa_let]
        have lk := px_U_link ho U17 (s := R b) ra2
        rw [ho.1.1]
        exact link (R a) (R b) [] _ ra1 rb1 e1 o1.1 (Or.inl ⟨rfl, rfl⟩) (Or.inl ⟨o1.2, rfl⟩) (fun p q => by cases q) lk.1 (by rw [lk.2 _ _ (by omega)]; exact n17) (px_ps_of _ (fun j _ => lk.2 _ _ (by omega)) p17) (fun i j q1 q2 q3 q4 => lk.2 i j (by omega))
      rw [if_neg (by rw [oa.2.1 o1]; decide)]
      by_cases o2 : R b ≠ 0 ∧ ar (R b) = none
      · rw [if_pos (ob.1 o2)]
        dsimp only [fa_let]
        have lk := px_U_link ho U17 (s := R a) rb2
        rw [ho.1.1]
        exact link (R b) (R a) [] _ rb1 ra1 (Ne.symm e1) o2.1 (Or.inr ⟨rfl, rfl⟩) (Or.inl ⟨o2.2, rfl⟩) (fun p q => by cases q) lk.1 (by rw [lk.2 _ _ (by omega)]; exact n17) (px_ps_of _ (fun j _ => lk.2 _ _ (by omega)) p17) (fun i j q1 q2 q3 q4 => lk.2 i j (by omega))
      rw [if_neg (by rw [ob.2.1 o2]; decide)]
      have clash : ((R a = 0 ∧ ∃ x y, ar (R b) = some (x, y)) ∨ (R b = 0 ∧ ∃ x y, ar (R a) = some (x, y))) → pb_ok (fm_Typing_unify_j219 o a1 a2 (fun x3 w9 => fm_Typing_unify_l25 o a1 a2 F x3 w9) (x3 : Int) w17) (px_UQ o T ar ((a, b) :: ps) up cl (pu_ct ar l) w) := by
        intro hcl
        unfold fm_Typing_unify_j219
        dsimp only [fa_let]
        rw [c3]
        have U' : px_U o T up ar true (fa_st w17 o 8 (fa_bi true)) := by
          obtain ⟨h1, h2, h3, h4, h5, h6, h7, h8⟩ := U17
          exact ⟨by rw [fa_st_ne (by omega)]; exact h1, by rw [fa_st_ne (by omega)]; exact h2, by rw [fa_st_ne (by omega)]; exact h3, fun k hk => by rw [fa_st_ne (by omega)]; exact h4 k hk, fun k hk q => by rw [fa_st_ne (by omega), fa_st_ne (by omega)]; exact h5 k hk q, fun k hk a b q => by rw [fa_st_ne (by omega), fa_st_ne (by omega)]; exact h6 k hk a b q, fa_st_eq _ _ _ _, h8⟩
        refine pb_mono (ih F (x3 + 1) up true R l N ps _ (by omega) (by omega) (by omega) hI U' (by rw [fa_st_ne (by omega)]; exact n17) (px_ps_of _ (fun j _ => fa_st_ne (by omega)) p17) hp1 (by omega)) (fun w' q => ?_)
        obtain ⟨up', cl', R', l', N', y1, y2, y3, y4, y5⟩ := q
        exact ⟨up', cl', R', l', N', y1, y2, y3, pu_P_cl hI hp0.1 hp0.2 hcl y4, px_uf_tr f17 (px_uf_tr (fun i j q1 q2 q3 q4 => fa_st_ne q4) y5)⟩
      cases ea : ar (R a) with
      | none =>
        rw [if_neg (by rw [oa.2.2.1 ea]; decide)]
        refine clash (Or.inl ⟨Classical.byContradiction (fun z => o1 ⟨z, ea⟩), ?_⟩)
        cases eb : ar (R b) with
        | none => exact absurd ⟨fun z => e1 (by rw [z]; exact Classical.byContradiction (fun y => o1 ⟨y, ea⟩)), eb⟩ o2
        | some q => exact ⟨q.1, q.2, rfl⟩
      | some qa =>
        rw [if_pos (oa.2.2.2 (by rw [ea]; simp))]
        cases eb : ar (R b) with
        | none =>
          rw [if_neg (by rw [ob.2.2.1 eb]; decide)]
          exact clash (Or.inr ⟨Classical.byContradiction (fun z => o2 ⟨z, eb⟩), qa.1, qa.2, ea⟩)
        | some qb =>
          rw [if_pos (ob.2.2.2 (by rw [eb]; simp))]
          dsimp only [fa_let]
          obtain ⟨xa, ya⟩ := qa
          obtain ⟨xb, yb⟩ := qb
          have lk := px_U_link ho U17 (s := R b) ra2
          rw [ho.1.1, ho.1.2.1, ho.1.2.2.1]
          generalize fr_set (o + 1) (R a : Int) (R b : Int) w17 = w32 at lk ⊢
          obtain ⟨U32, k32⟩ := lk
          have r0 : R a ≠ 0 := by
            intro z
            rw [z, hI.2.2.2.2.2.1] at ea
            cases ea
          have ta := U32.2.2.2.2.2.1 (R a) ra2 xa ya ea
          have tb := U32.2.2.2.2.2.1 (R b) rb2 xb yb eb
          have n32 : w32 (o + 15) 1 = ((2 * ps.length : Nat) : Int) := by rw [k32 _ _ (by omega)]; exact n17
          have p32 : px_ps o ps w32 := px_ps_of _ (fun j _ => k32 _ _ (by omega)) p17
          have pz := px_push4 ho n32 p32 (by omega) xa xb ya yb
          have hT3 : T ≤ fa_cp (o + 3) := by rw [ho.2.2.2.1]; exact hT
          have hT5 : T ≤ fa_cp (o + 5) := by rw [ho.2.2.2.2.1]; exact hT
          have at1 : fr_at (o + 3) (R a : Int) w32 = (xa : Int) := by rw [pb_at U32.2.1 ra2 hT3, ho.2.1.2.1]; exact ta.1
          rw [at1]
          have q1 : ∀ (v : Int) (w0 : fa_W) (i j : Nat), i ≠ o + 15 → i ≠ o + 16 → fr_add (o + 15) v w0 i j = w0 i j := fun v w0 i j h1 h2 => px_add_o h1 (by rw [hr]; exact h2)
          have at2 : fr_at (o + 3) (R b : Int) (fr_add (o + 15) (xa : Int) w32) = (xb : Int) := by rw [pb_at (n := T) (by rw [q1 _ _ _ _ (by omega) (by omega)]; exact U32.2.1) rb2 hT3, ho.2.1.2.1, q1 _ _ _ _ (by omega) (by omega)]; exact tb.1
          rw [at2]
          have at3 : fr_at (o + 5) (R a : Int) (fr_add (o + 15) (xb : Int) (fr_add (o + 15) (xa : Int) w32)) = (ya : Int) := by rw [pb_at (n := T) (by rw [q1 _ _ _ _ (by omega) (by omega), q1 _ _ _ _ (by omega) (by omega)]; exact U32.2.2.1) ra2 hT5, ho.2.1.2.2.1, q1 _ _ _ _ (by omega) (by omega), q1 _ _ _ _ (by omega) (by omega)]; exact ta.2
          rw [at3]
          have at4 : fr_at (o + 5) (R b : Int) (fr_add (o + 15) (ya : Int) (fr_add (o + 15) (xb : Int) (fr_add (o + 15) (xa : Int) w32))) = (yb : Int) := by rw [pb_at (n := T) (by rw [q1 _ _ _ _ (by omega) (by omega), q1 _ _ _ _ (by omega) (by omega), q1 _ _ _ _ (by omega) (by omega)]; exact U32.2.2.1) rb2 hT5, ho.2.1.2.2.1, q1 _ _ _ _ (by omega) (by omega), q1 _ _ _ _ (by omega) (by omega), q1 _ _ _ _ (by omega) (by omega)]; exact tb.2
          rw [at4]
          generalize fr_add (o + 15) (yb : Int) (fr_add (o + 15) (ya : Int) (fr_add (o + 15) (xb : Int) (fr_add (o + 15) (xa : Int) w32))) = w44 at pz ⊢
          have ba := hab _ ra2 xa ya ea
          have bb := hab _ rb2 xb yb eb
          refine link (R a) (R b) [(ya, yb), (xa, xb)] w44 ra1 rb1 e1 r0 (Or.inl ⟨rfl, rfl⟩) (Or.inr ⟨by rw [ea]; simp, rfl, xa, ya, xb, yb, ea, eb, fun val => ?_⟩) (fun p q => ?_) (px_U_of U32 (fun i j q => pz.2.2 i j (by omega) (by omega))) pz.1 pz.2.1 (fun i j q1 q2 q3 q4 => (pz.2.2 i j q2 q3).trans (k32 i j (by omega)))
          · constructor
            · intro h
              exact ⟨h (xa, xb) (by simp), h (ya, yb) (by simp)⟩
            · intro h p q
              rcases List.mem_cons.mp q with rfl | q
              · exact h.2
              · rw [List.mem_singleton] at q
                rw [q]
                exact h.1
          · rcases List.mem_cons.mp q with rfl | q
            · exact ⟨ba.2, bb.2⟩
            · rw [List.mem_singleton] at q
              rw [q]
              exact ⟨ba.1, bb.1⟩
theorem px_unify {o T : Nat} (ho : px_to o) {ar : pu_A} {up : Nat → Nat} {cl : Bool} {R : Nat → Nat} {l : List Nat} {N : Nat} {w : fa_W} (hI : pu_I T up ar R l N) (hU : px_U o T up ar cl w) {a b : Nat} (ha : a < T) (hb : b < T) (hc : pu_ct ar l ≤ 140) : pb_ok (fm_Typing_unify o (a : Int) (b : Int) w) (px_UQ o T ar [(a, b)] up cl (pu_ct ar l) w) := by
  have hr := ho.2.1.2.2.2.2.2.2.2
  have hcp := ho.2.2.2.2.2.2.2.2.2
  have hT : T ≤ 400 := hU.2.2.2.2.2.2.2
  unfold fm_Typing_unify fm_Row_clear
  dsimp only [fa_let]
  rw [ho.1.2.2.2.2.2.2.2]
  have z0 : fa_st w (o + 15) 1 0 (o + 15) 1 = ((0 : Nat) : Int) := fa_st_eq _ _ _ _
  have i1 := px_ad1 (v := (a : Int)) hr z0 (by omega)
  have i2 := px_ad1 (v := (b : Int)) hr i1.1 (by omega)
  have kk : ∀ i j, i ≠ o + 15 → i ≠ o + 16 → fr_add (o + 15) (b : Int) (fr_add (o + 15) (a : Int) (fa_st w (o + 15) 1 0)) i j = w i j := fun i j q1 q2 => (i2.2.2 i j (by omega) (by omega)).trans ((i1.2.2 i j (by omega) (by omega)).trans (fa_st_ne (by omega)))
  have c0 : fr_add (o + 15) (b : Int) (fr_add (o + 15) (a : Int) (fa_st w (o + 15) 1 0)) (o + 16) 0 = (a : Int) := (i2.2.2 _ _ (by omega) (by omega)).trans i1.2.1
  have c1 : fr_add (o + 15) (b : Int) (fr_add (o + 15) (a : Int) (fa_st w (o + 15) 1 0)) (o + 16) 1 = (b : Int) := i2.2.1
  have c2 := i2.1
  generalize fr_add (o + 15) (b : Int) (fr_add (o + 15) (a : Int) (fa_st w (o + 15) 1 0)) = w6 at kk c0 c1 c2 ⊢
  obtain ⟨FU, hFU, hF2⟩ : ∃ F, F = fa_FU ∧ 100000 < F := ⟨_, rfl, by unfold fa_FU; omega⟩
  rw [← hFU]
  have ll : l.length ≤ T := by have := hI.2.2.1; omega
  refine pb_mono (px_unify_l ho (a : Int) (b : Int) 5000 FU 0 up cl R l N [(a, b)] w6 (by simp; omega) (by omega) (by omega) hI (px_U_of hU (fun i j q => kk i j (by omega) (by omega))) c2 ⟨c0, c1, trivial⟩ (fun p q => ?_) (by simp; omega)) (fun w' q => ?_)
  · rw [List.mem_singleton] at q
    rw [q]
    exact ⟨ha, hb⟩
  · obtain ⟨up', cl', R', l', N', y1, y2, y3, y4, y5⟩ := q
    exact ⟨up', cl', R', l', N', y1, y2, y3, y4, px_uf_tr (fun i j q1 q2 q3 q4 => kk i j q2 q3) y5⟩
