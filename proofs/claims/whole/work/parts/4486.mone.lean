/-! the most general valuation, written out; ranks no higher than the roots are many -/
theorem pu_ev_eq {T : Nat} {up : Nat → Nat} {ar : pu_A} {R : Nat → Nat} {l : List Nat} {N : Nat} (hI : pu_I T up ar R l N) {rk : Nat → Nat} (hc : pu_ac T up ar R rk) {M : Nat} (hM : ∀ k, k < T → rk k < M) {k : Nat} (hk : k < T) : pu_ev R ar (M + 1) k = if R k = 0 then pv_int else match ar (R k) with | none => pv_v (R k) | some (a, b) => pv_ar (pu_ev R ar (M + 1) a) (pu_ev R ar (M + 1) b) := by
  have r := pu_root hI hk
  show (if R k = 0 then pv_int else match ar (R k) with | none => pv_v (R k) | some (a, b) => pv_ar (pu_ev R ar M a) (pu_ev R ar M b)) = _
  by_cases z : R k = 0
  · rw [if_pos z, if_pos z]
  · rw [if_neg z, if_neg z]
    cases e : ar (R k) with
    | none => rfl
    | some q =>
      obtain ⟨a, b⟩ := q
      have hab := hI.2.2.2.2.2.2.1 _ r.2.1 a b e
      have c := hc _ r.2.1 r.2.2 a b e
      have m := hM _ r.2.1
      dsimp only
      rw [pu_ev_st hI hc M a hab.1 (by omega), pu_ev_st hI hc M b hab.2 (by omega)]
theorem pb_filter_lt {A : Type} (p q : A → Bool) : ∀ (l : List A), (∀ z ∈ l, p z = true → q z = true) → ∀ c ∈ l, q c = true → p c = false → (l.filter p).length < (l.filter q).length := by
  have le : ∀ (l : List A), (∀ z ∈ l, p z = true → q z = true) → (l.filter p).length ≤ (l.filter q).length := by
    intro l
    induction l with
    | nil => intro _; exact Nat.le_refl _
    | cons y r ih =>
      intro h
      have i := ih (fun z hz => h z (List.mem_cons_of_mem _ hz))
      rw [List.filter_cons, List.filter_cons]
      have hy := h y (List.mem_cons_self ..)
      cases e1 : p y with
      | true => rw [if_pos rfl, if_pos (hy e1), List.length_cons, List.length_cons]; omega
      | false =>
        rw [if_neg (by decide)]
        split
        · rw [List.length_cons]; omega
        · exact i
  intro l
  induction l with
  | nil => intro _ c hc; cases hc
  | cons y r ih =>
    intro h c hc h1 h2
    have hr : ∀ z ∈ r, p z = true → q z = true := fun z hz => h z (List.mem_cons_of_mem _ hz)
    rw [List.filter_cons, List.filter_cons]
    by_cases e : c = y
    · rw [e] at h1 h2
      rw [h1, h2, if_pos rfl, if_neg (by decide), List.length_cons]
      have := le r hr
      omega
    · have hc2 : c ∈ r := by
        rcases List.mem_cons.mp hc with z | z
        · exact absurd z e
        · exact z
      have i := ih hr c hc2 h1 h2
      have hy := h y (List.mem_cons_self ..)
      cases e1 : p y with
      | true => rw [if_pos rfl, if_pos (hy e1), List.length_cons, List.length_cons]; omega
      | false =>
        rw [if_neg (by decide)]
        split
        · rw [List.length_cons]; omega
        · exact i
theorem pu_ac_bd {T : Nat} {up : Nat → Nat} {ar : pu_A} {R : Nat → Nat} {l : List Nat} {N : Nat} (hI : pu_I T up ar R l N) {rk : Nat → Nat} (hc : pu_ac T up ar R rk) : ∃ rk' : Nat → Nat, pu_ac T up ar R rk' ∧ ∀ k, rk' k ≤ T := by
  have key : ∀ a k, a < T → rk (R a) < rk k → (l.filter (fun z => decide (rk z < rk (R a)))).length < (l.filter (fun z => decide (rk z < rk k))).length := fun a k ha h => by
    refine pb_filter_lt _ _ l (fun z _ hz => decide_eq_true (by have := of_decide_eq_true hz; omega)) (R a) (pu_root hI ha).1 (decide_eq_true h) (decide_eq_false (by omega))
  refine ⟨fun k => (l.filter (fun z => decide (rk z < rk k))).length, fun k hk hu a b ea => ?_, fun k => ?_⟩
  · have hab := hI.2.2.2.2.2.2.1 k hk a b ea
    have c := hc k hk hu a b ea
    exact ⟨key a k hab.1 c.1, key b k hab.2 c.2⟩
  · have h1 := List.length_filter_le (fun z => decide (rk z < rk k)) l
    have h2 := hI.2.2.1
    dsimp only
    omega
/-- whether two TYPES are one, as the reference finds it -/
theorem pm_areOne_t {T : Nat} {up : Nat → Nat} {ar : pu_A} {R : Nat → Nat} {l : List Nat} {N : Nat} (hI : pu_I T up ar R l N) {rk : Nat → Nat} (hc : pu_ac T up ar R rk) {M : Nat} (hM : ∀ k, k < T → rk k < M) {w : fa_W} (hU : pm_U T up ar false w) : ∀ (n a b : Nat), a < T → b < T → rk (R a) < n → ∃ bo, fm_Mod_areOne n (a : Int) (b : Int) w = some bo ∧ (bo = true ↔ pu_ev R ar (M + 1) a = pu_ev R ar (M + 1) b) := by
  have hT := hU.2.1
  have hab := hI.2.2.2.2.2.2.1
  have a0 : ar 0 = none := hI.2.2.2.2.2.1
  intro n
  induction n with
  | zero => intro a b _ _ h; omega
  | succ n ih =>
    intro a b ha hb hn
    obtain ⟨_, ra2, ra3⟩ := pu_root hI ha
    obtain ⟨_, rb2, rb3⟩ := pu_root hI hb
    have ea := pu_ev_eq hI hc hM ha
    have eb := pu_ev_eq hI hc hM hb
    show ∃ bo, fm_Mod_areOne_b (fm_Mod_areOne n) (a : Int) (b : Int) w = some bo ∧ _
    unfold fm_Mod_areOne_b
    rw [pm_find hI hU ha, pm_find hI hU hb]
    dsimp only [Option.bind_some]
    rw [pb_wr (n := R a) (by omega), pb_wr (n := R b) (by omega)]
    by_cases e1 : R a = R b
    · rw [if_pos (by omega)]
      exact ⟨true, rfl, fun _ => by rw [ea, eb, e1], fun _ => rfl⟩
    rw [if_neg (by omega), pb_ix (n := 1200) (by omega) (by omega), pb_ix (n := 1200) (by omega) (by omega)]
    dsimp only [Option.bind_some]
    rw [hU.2.2.2.1 _ ra2, hU.2.2.2.1 _ rb2, pm_so_wr, pm_so_wr]
    have so : ∀ k, pm_so ar k = if k = 0 then 1 else if ar k = none then 0 else 2 := fun k => rfl
    by_cases e2 : pm_so ar (R a) = pm_so ar (R b)
    · rw [if_pos e2]
      by_cases za : R a = 0
      · have zb : R b ≠ 0 := fun z => e1 (by rw [za, z])
        rw [so, so, if_pos za, if_neg zb] at e2
        split at e2 <;> omega
      · by_cases zb : R b = 0
        · rw [so, so, if_neg za, if_pos zb] at e2
          split at e2 <;> omega
        · rw [ea, eb, if_neg za, if_neg zb]
          cases qa : ar (R a) with
          | none =>
            have s0 : pm_so ar (R a) = 0 := by rw [so, if_neg za, if_pos qa]
            rw [if_pos s0]
            cases qb : ar (R b) with
            | none => exact ⟨false, rfl, (fun z => by cases z), fun z => absurd (by injection z with z; omega) e1⟩
            | some q =>
              rw [s0, so, if_neg zb, if_neg (by rw [qb]; simp)] at e2
              omega
          | some q =>
            obtain ⟨x, y⟩ := q
            have s2 : pm_so ar (R a) = 2 := by rw [so, if_neg za, if_neg (by rw [qa]; simp)]
            rw [if_neg (by omega), if_neg (by omega)]
            cases qb : ar (R b) with
            | none =>
              rw [s2, so, if_neg zb, if_pos qb] at e2
              omega
            | some q =>
              obtain ⟨x', y'⟩ := q
              have ba := hab _ ra2 x y qa
              have bb := hab _ rb2 x' y' qb
              have ta := hU.2.2.2.2.1 _ ra2 x y qa
              have tb := hU.2.2.2.2.1 _ rb2 x' y' qb
              have ca := hc _ ra2 ra3 x y qa
              obtain ⟨b1, c1, c2⟩ := ih x x' ba.1 bb.1 (by omega)
              obtain ⟨b2, d1, d2⟩ := ih y y' ba.2 bb.2 (by omega)
              rw [ta.1, tb.1, c1]
              dsimp only [Option.bind_some]
              cases b1 with
              | false =>
                rw [if_neg (by decide)]
                exact ⟨false, rfl, (fun z => by cases z), fun z => by
                  have := c2.mpr (pv_ar_inj z).1
                  cases this⟩
              | true =>
                rw [if_pos rfl, ta.2, tb.2, d1]
                dsimp only [Option.bind_some]
                cases b2 with
                | false =>
                  rw [if_neg (by decide)]
                  exact ⟨false, rfl, (fun z => by cases z), fun z => by
                    have := d2.mpr (pv_ar_inj z).2
                    cases this⟩
                | true =>
                  rw [if_pos rfl]
                  exact ⟨true, rfl, fun _ => by rw [c2.mp rfl, d2.mp rfl], fun _ => rfl⟩
    · rw [if_neg e2]
      refine ⟨false, rfl, (fun z => by cases z), fun z => absurd ?_ e2⟩
      rw [ea, eb] at z
      rw [so, so]
      by_cases za : R a = 0
      · rw [if_pos za] at z ⊢
        by_cases zb : R b = 0
        · rw [if_pos zb]
        · rw [if_neg zb] at z
          split at z <;> cases z
      · rw [if_neg za] at z ⊢
        by_cases zb : R b = 0
        · rw [if_pos zb] at z
          split at z <;> cases z
        · rw [if_neg zb] at z ⊢
          cases qa : ar (R a) with
          | none =>
            rw [qa] at z
            cases qb : ar (R b) with
            | none => rfl
            | some q => rw [qb] at z; cases z
          | some q =>
            rw [qa] at z
            cases qb : ar (R b) with
            | none => rw [qb] at z; cases z
            | some q2 => rw [if_neg (by simp), if_neg (by simp)]
theorem pm_alike {gs : ps_G} {t : pt_T} {nf nd : Nat} {w : fa_W} (h : pm_TV gs t nf nd w) {f g : Nat} (hf : f < nf) (hg : g < nf) : ∃ bo, fm_Mod_areOne 900 (w 206 f) (w 206 g) w = some bo ∧ (bo = true ↔ pv_al gs t f g) := by
  obtain ⟨T, up, ar, R, l, N, rk, h1, h2, h3, h4, h5, h6, h7, h8, h9, h10⟩ := h
  obtain ⟨rk', r1, r2⟩ := pu_ac_bd h2 h10
  have hT := h1.2.1
  have hM : ∀ k, k < T → rk' k < T + 1 := fun k _ => by have := r2 k; omega
  have f1 := h9.2.1 f hf
  have g1 := h9.2.1 g hg
  dsimp only at f1 g1
  obtain ⟨bo, b1, b2⟩ := pm_areOne_t h2 r1 hM h1 900 (125 + nd + f) (125 + nd + g) f1 g1 (by have := r2 (R (125 + nd + f)); omega)
  rw [h4 f hf, h4 g hg]
  exact ⟨bo, b1, b2.trans (pu_Q_al h2 h9 r1 hM hf hg)⟩
