/-! the reference types its nodes in their row -/
def pm_tf (w w' : fa_W) : Prop := ∀ i j, ¬ (199 ≤ i ∧ i ≤ 202) → ¬ (i = 181 ∧ (j = 43 ∨ j = 44)) → w' i j = w i j
theorem pm_tf_tr {w w1 w2 : fa_W} (h1 : pm_tf w w1) (h2 : pm_tf w1 w2) : pm_tf w w2 := fun i j a b => (h2 i j a b).trans (h1 i j a b)
theorem pm_tf_uf {w w1 : fa_W} (h : pm_uf w w1) : pm_tf w w1 := fun i j a b => h i j (by omega) (by omega)
/-- one number more of the reference's TYPES -/
theorem pm_alloc {T : Nat} {up : Nat → Nat} {ar : pu_A} {cl : Bool} {w : fa_W} (hU : pm_U T up ar cl w) (hT : T < 400) (x : Option (Nat × Nat)) (s a b : Int) (hs : s = if T = 0 then 1 else if x = none then 0 else 2) (hx : ∀ c d, x = some (c, d) → a = (c : Int) ∧ b = (d : Int)) : ∃ w', fm_Mod_type2 s a b w = some ((T : Int), w') ∧ pm_U (T + 1) (pu_set up T T) (pu_set ar T x) cl w' ∧ pm_tf w w' := by
  obtain ⟨h1, h2, h3, h4, h5, h6⟩ := hU
  have ix : ∀ w' : fa_W, w' 181 43 = (T : Int) → fa_ix (w' 181 43) 1200 = some T := fun w' e => by rw [e]; exact pb_ix (by omega) (by omega)
  refine ⟨fa_st (fa_st (fa_st (fa_st (fa_st w 199 T s) 200 T a) 201 T b) 202 T (T : Int)) 181 43 ((T + 1 : Nat) : Int), ?_, ⟨fa_st_eq _ _ _ _, by omega, fun k hk => ?_, fun k hk => ?_, fun k hk c d e => ?_, ?_⟩, fun i j q1 q2 => ?_⟩
  · unfold fm_Mod_type2
    rw [ix w h1]
    dsimp only [Option.bind_some, fa_let]
    rw [ix _ ((fa_st_ne (by omega)).trans h1)]
    dsimp only [Option.bind_some]
    rw [ix _ ((fa_st_ne (by omega)).trans ((fa_st_ne (by omega)).trans h1))]
    dsimp only [Option.bind_some]
    rw [ix _ ((fa_st_ne (by omega)).trans ((fa_st_ne (by omega)).trans ((fa_st_ne (by omega)).trans h1)))]
    dsimp only [Option.bind_some]
    have e3 : fa_st (fa_st (fa_st w 199 T s) 200 T a) 201 T b 181 43 = (T : Int) := (fa_st_ne (by omega)).trans ((fa_st_ne (by omega)).trans ((fa_st_ne (by omega)).trans h1))
    rw [e3]
    have e4 : fa_st (fa_st (fa_st (fa_st w 199 T s) 200 T a) 201 T b) 202 T (T : Int) 181 43 = (T : Int) := (fa_st_ne (by omega)).trans e3
    rw [e4, fa_st_eq, show (T : Int) + 1 = ((T + 1 : Nat) : Int) from rfl, show ((T + 1 : Nat) : Int) - 1 = (T : Int) by omega]
  · by_cases z : k = T
    · rw [z, pu_set_eq, fa_st_ne (by omega), fa_st_eq]
    · rw [pu_set_ne _ _ z, fa_st_ne (by omega), fa_st_ne (by omega), fa_st_ne (by omega), fa_st_ne (by omega), fa_st_ne (by omega)]; exact h3 k (by omega)
  · by_cases z : k = T
    · rw [z, fa_st_ne (by omega), fa_st_ne (by omega), fa_st_ne (by omega), fa_st_ne (by omega), fa_st_eq]
      unfold pm_so
      rw [pu_set_eq]
      exact hs
    · rw [fa_st_ne (by omega), fa_st_ne (by omega), fa_st_ne (by omega), fa_st_ne (by omega), fa_st_ne (by omega), h4 k (by omega)]
      unfold pm_so
      rw [pu_set_ne _ _ z]
  · by_cases z : k = T
    · rw [z, pu_set_eq] at e
      have := hx c d e
      rw [z, fa_st_ne (by omega), fa_st_ne (by omega), fa_st_ne (by omega), fa_st_eq, fa_st_ne (by omega), fa_st_ne (by omega), fa_st_eq]
      exact this
    · rw [pu_set_ne _ _ z] at e
      rw [fa_st_ne (by omega), fa_st_ne (by omega), fa_st_ne (by omega), fa_st_ne (by omega), fa_st_ne (by omega), fa_st_ne (by omega), fa_st_ne (by omega), fa_st_ne (by omega), fa_st_ne (by omega), fa_st_ne (by omega)]
      exact h5 k (by omega) c d e
  · rw [fa_st_ne (by omega), fa_st_ne (by omega), fa_st_ne (by omega), fa_st_ne (by omega), fa_st_ne (by omega)]; exact h6
  · rw [fa_st_ne (by omega), fa_st_ne (by omega), fa_st_ne (by omega), fa_st_ne (by omega), fa_st_ne (by omega)]
def pm_TI (nf nd T : Nat) (bd : Nat → Nat) (up : Nat → Nat) (ar : pu_A) (cl : Bool) (R : Nat → Nat) (l : List Nat) (N : Nat) (w : fa_W) : Prop := pm_U T up ar cl w ∧ pu_I T up ar R l N ∧ (∀ n, n < nd → w 203 n = ((125 + n : Nat) : Int)) ∧ (∀ v, v < 124 → w 204 v = ((1 + v : Nat) : Int)) ∧ (∀ f, f < nf → w 206 f = ((125 + nd + f : Nat) : Int) ∧ w 189 f = (bd f : Int)) ∧ w 181 16 = (nd : Int) ∧ nd ≤ 100 ∧ nf ≤ 24 ∧ (∀ f, f < nf → ar (125 + nd + f) = some (1 + f, 125 + bd f)) ∧ 125 + nd + nf ≤ T
theorem pm_TI_of {nf nd T T' : Nat} {bd : Nat → Nat} {up up' : Nat → Nat} {ar ar' : pu_A} {cl cl' : Bool} {R R' : Nat → Nat} {l l' : List Nat} {N N' : Nat} {w w' : fa_W} (h : pm_TI nf nd T bd up ar cl R l N w) (hU : pm_U T' up' ar' cl' w') (hI : pu_I T' up' ar' R' l' N') (f : pm_tf w w') (hT : T ≤ T') (har : ∀ j, j < T → ar' j = ar j) : pm_TI nf nd T' bd up' ar' cl' R' l' N' w' := by
  obtain ⟨h1, h2, h3, h4, h5, h6, h7, h8, h9, h10⟩ := h
  exact ⟨hU, hI, fun n hn => by rw [f _ _ (by omega) (by omega)]; exact h3 n hn, fun v hv => by rw [f _ _ (by omega) (by omega)]; exact h4 v hv, fun g hg => by rw [f _ _ (by omega) (by omega), f _ _ (by omega) (by omega)]; exact h5 g hg, by rw [f _ _ (by omega) (by omega)]; exact h6, h7, h8, fun g hg => (har _ (by omega)).trans (h9 g hg), by omega⟩
/-- two numbers made one -/
theorem pm_jn {nf nd T : Nat} {bd : Nat → Nat} {up : Nat → Nat} {ar : pu_A} {cl : Bool} {R : Nat → Nat} {l : List Nat} {N : Nat} {w : fa_W} (h : pm_TI nf nd T bd up ar cl R l N w) {a b : Nat} (ha : a < T) (hb : b < T) : ∃ w' up' cl' R' l' N', fm_Mod_joins 900 (a : Int) (b : Int) w = some w' ∧ pm_TI nf nd T bd up' ar cl' R' l' N' w' ∧ pu_P T ar [(a, b)] up cl up' cl' ∧ pm_tf w w' := by
  have hl : l.length < 900 := by
    have := h.2.1.2.2.1
    have := h.1.2.1
    omega
  obtain ⟨w', e, up', cl', R', l', N', u1, u2, u3, u4, u5⟩ := pm_joins 900 up cl R l N a b w hl h.2.1 h.1 ha hb
  exact ⟨w', up', cl', R', l', N', e, pm_TI_of h u2 u1 (pm_tf_uf u5) (Nat.le_refl _) (fun _ _ => rfl), u4, pm_tf_uf u5⟩
theorem pm_ty_fin {nf nd T n : Nat} {bd : Nat → Nat} {up : Nat → Nat} {ar : pu_A} {cl : Bool} {R : Nat → Nat} {l : List Nat} {N : Nat} {w w1 : fa_W} (h : pm_TI nf nd T bd up ar cl R l N w) (hn : n < nd) (e : fm_Mod_typesOne (n : Int) 0 w = some w1) (F : Nat) : fm_Mod_typesAll_l95 (F + 1) 0 (n : Int) w = fm_Mod_typesAll_l95 F 0 ((n + 1 : Nat) : Int) w1 := by
  obtain ⟨h1, h2, h3, h4, h5, h6, h7, h8, h9, h10⟩ := h
  show (if fa_wr (w 181 16) ≤ fa_wr (n : Int) then _ else _) = _
  rw [h6, pb_wr (by omega), pb_wr (by omega), if_neg (by omega), e]
  rfl
theorem pm_arr {nf nd T : Nat} {bd : Nat → Nat} {up : Nat → Nat} {ar : pu_A} {cl : Bool} {R : Nat → Nat} {l : List Nat} {N : Nat} {w : fa_W} (h : pm_TI nf nd T bd up ar cl R l N w) : ∀ val, pu_0 T up ar val → pu_E T up ar val → ∀ f, f < nf → ∃ b, ar (125 + nd + f) = some (1 + f, 125 + b) ∧ val (125 + nd + f) = pv_ar (val (1 + f)) (val (125 + b)) := by
  obtain ⟨h1, h2, h3, h4, h5, h6, h7, h8, h9, h10⟩ := h
  intro val h0 hE f hf
  refine ⟨bd f, h9 f hf, ?_⟩
  by_cases z : up (125 + nd + f) = 125 + nd + f
  · exact h0.2.2 _ (by omega) z _ _ (h9 f hf)
  · exact hE _ (by omega) z _ _ (h9 f hf)
def pm_TR (nf nd a s : Nat) (bd : Nat → Nat) (t : pt_T) (k k' : pk_K) (T : Nat) (up : Nat → Nat) (ar : pu_A) (cl : Bool) (w : fa_W) : Prop := ∃ (w' : fa_W) (T' : Nat) (up' : Nat → Nat) (ar' : pu_A) (cl' : Bool) (R' : Nat → Nat) (l' : List Nat) (N' : Nat), (∀ F, fm_Mod_typesAll_l95 (F + s) 0 (a : Int) w = fm_Mod_typesAll_l95 F 0 ((a + s : Nat) : Int) w') ∧ pm_TI nf nd T' bd up' ar' cl' R' l' N' w' ∧ pm_TY nf nd t a k k' T up ar cl T' up' ar' cl' ∧ T' ≤ T + s ∧ pm_tf w w'
/-- a leaf: one pair, or none -/
theorem pm_TY_leaf {B nf nd : Nat} {T : Nat} {up : Nat → Nat} {ar : pu_A} {cl : Bool} {up2 : Nat → Nat} {cl2 : Bool} {t : pt_T} {a q : Nat} {k k' : pk_K} (hT : 125 + nd + nf ≤ T) (u : pu_P T ar [(125 + a, q)] up cl up2 cl2) (tt : pt_tw t) (s1 : pt_sz t = 1) (ha : a < nd) (hS : ∀ r, pv_S r t) (hv : ∀ r val, val 0 = pv_int → pm_cs nf nd r val → pm_nv r t a val → val (125 + a) = val q) (ht : ∀ (r : pv_R) (val : Nat → pv_T), val 0 = pv_int → pm_cs nf nd r val → val q = pv_t r t) : pm_TY nf nd t a k k' T up ar cl T up2 ar cl2 := by
  refine ⟨Nat.le_refl _, fun _ _ => rfl, fun r val _ h0 hE hcs hnv => ?_, fun c => ?_⟩
  · have p := u.1 val h0 hE (fun p hp => by rw [List.mem_singleton] at hp; rw [hp]; exact hv r val h0.1 hcs hnv)
    exact ⟨val, fun _ _ => rfl, p.1, p.2.1, p.2.2⟩
  · obtain ⟨c0, u2⟩ := u.2 c
    refine ⟨c0, fun val h2 => ?_⟩
    obtain ⟨h1, v2, v3⟩ := u2 val h2
    refine ⟨h1, fun hE => ⟨v3 hE, fun r hcs => ⟨r, pv_out_refl k k' r, hS r, ?_⟩⟩⟩
    have := v2 (125 + a, q) (by simp)
    dsimp only at this
    rw [s1, show a + 1 - 1 = a by omega, this]
    exact (ht r val h1.1 hcs).symm
