/-! the EXPRS of a program, each in its own range of numbers -/
theorem pn_items {B : Nat} {t : pt_T} : ∀ (gs : ps_G) (gl : List Nat) (k k1 k2 : pk_K), pn_GW B gs gl k k1 → pt_tw t → pk_wfs t (gl ++ pk_gn gs) [] → pn_can B t k1 k2 → ∃ (K K' : Nat → pk_K), (∀ g, g ≤ gs.length → pt_tw (pn_tr gs t g) ∧ pn_can B (pn_tr gs t g) (K g) (K' g) ∧ pk_ge k (K g) ∧ pk_ge (K' g) k2 ∧ ∃ gl' sc', pk_wfs (pn_tr gs t g) gl' sc' ∧ gl'.length ≤ gl.length + gs.length ∧ (g < gs.length → gl'.length = gl.length + g + 1) ∧ ∀ b ∈ sc', b.1 = gl.length + g ∧ g < gs.length) ∧ ∀ g g', g < g' → g' ≤ gs.length → pk_ge (K' g) (K g') := by
  intro gs
  induction gs with
  | nil =>
    intro gl k k1 k2 h tt hw hc
    cases h
    refine ⟨fun _ => k, fun _ => k2, fun g hg => ?_, fun g g' h1 h2 => by rw [List.length_nil] at h2; omega⟩
    have e : pn_tr [] t g = t := rfl
    rw [e]
    refine ⟨tt, hc, pk_ge_refl _, pk_ge_refl _, gl ++ pk_gn [], [], hw, ?_, fun q => by rw [List.length_nil] at q; omega, fun b hb => by cases hb⟩
    show (gl ++ []).length ≤ _
    rw [List.append_nil]
    exact Nat.le_add_right _ _
  | cons e r ih =>
    intro gl k k1 k2 h tt hw hc
    obtain ⟨x, v, t'⟩ := e
    obtain ⟨h1, h2, h3, h4, h5, k3, h6, h7⟩ := h
    have el : (gl ++ [x]).length = gl.length + 1 := by simp
    obtain ⟨K, K', i1, i2⟩ := ih (gl ++ [x]) k3 k1 k2 h7 tt (by rw [List.append_assoc]; exact hw) hc
    have m6 := pn_mono t' h4 _ _ h6
    have mk : pk_ge k k3 := ⟨m6.1, m6.2.1, m6.2.2.1, by rw [m6.2.2.2]; omega⟩
    have m3 : pk_ge k3 k2 := by
      obtain ⟨_, z2, z3, z4, _⟩ := i1 0 (Nat.zero_le _)
      have mm := pn_mono _ (i1 0 (Nat.zero_le _)).1 _ _ z2
      exact pk_ge_tr z3 (pk_ge_tr ⟨mm.1, mm.2.1, mm.2.2.1, by rw [mm.2.2.2]; omega⟩ z4)
    refine ⟨fun g => match g with | 0 => k | g + 1 => K g, fun g => match g with | 0 => k3 | g + 1 => K' g, fun g hg => ?_, fun g g' q1 q2 => ?_⟩
    · cases g with
      | zero =>
        refine ⟨h4, h6, pk_ge_refl _, m3, gl ++ [x], [(gl.length, v)], h5, by rw [el, List.length_cons]; omega, fun _ => el, fun b hb => ?_⟩
        rw [List.mem_singleton] at hb
        rw [hb]
        exact ⟨rfl, by rw [List.length_cons]; omega⟩
      | succ g =>
        rw [List.length_cons] at hg
        obtain ⟨z1, z2, z3, z4, gl', sc', z5, z6, z7, z8⟩ := i1 g (by omega)
        rw [el] at z6 z7 z8
        exact ⟨z1, z2, pk_ge_tr mk z3, z4, gl', sc', z5, by rw [List.length_cons]; omega, fun q => by rw [List.length_cons] at q; have := z7 (by omega); omega, fun b hb => by have := z8 b hb; rw [List.length_cons]; omega⟩
    · rw [List.length_cons] at q2
      cases g' with
      | zero => omega
      | succ g' =>
        cases g with
        | zero => exact (i1 g' (by omega)).2.2.1
        | succ g => exact i2 g g' (by omega) (by omega)
/-- what a program asks, EXPR by EXPR -/
theorem pv_G_iff (r : pv_R) (t : pt_T) : ∀ (gs : ps_G) (g : Nat), pv_G r gs g ↔ ∀ j, j < gs.length → pv_S r (pn_tr gs t j) ∧ r.2.1 (g + j) = pv_ar (r.1 (g + j)) (pv_t r (pn_tr gs t j)) := by
  intro gs
  induction gs with
  | nil => intro g; exact ⟨fun _ j hj => by rw [List.length_nil] at hj; omega, fun _ => trivial⟩
  | cons e q ih =>
    intro g
    obtain ⟨x, v, t'⟩ := e
    constructor
    · intro h j hj
      rw [List.length_cons] at hj
      obtain ⟨h1, h2, h3⟩ := h
      cases j with
      | zero => exact ⟨h1, h2⟩
      | succ j =>
        have := (ih (g + 1)).mp h3 j (by omega)
        rw [show g + (j + 1) = g + 1 + j by omega]
        exact this
    · intro h
      refine ⟨(h 0 (by rw [List.length_cons]; omega)).1, (h 0 (by rw [List.length_cons]; omega)).2, (ih (g + 1)).mpr (fun j hj => ?_)⟩
      have := h (j + 1) (by rw [List.length_cons]; omega)
      rw [show g + (j + 1) = g + 1 + j by omega] at this
      exact this
theorem pn_tr_len (gs : ps_G) (t : pt_T) : pn_tr gs t gs.length = t := by
  unfold pn_tr
  rw [List.getD_eq_getElem?_getD, List.getElem?_eq_none (by rw [List.length_map]; exact Nat.le_refl _)]
  rfl
theorem pv_P_iff (r : pv_R) (gs : ps_G) (t : pt_T) : pv_P r gs t ↔ (∀ g, g ≤ gs.length → pv_S r (pn_tr gs t g)) ∧ ∀ g, g < gs.length → r.2.1 g = pv_ar (r.1 g) (pv_t r (pn_tr gs t g)) := by
  unfold pv_P
  rw [pv_G_iff r t gs 0]
  constructor
  · intro h
    refine ⟨fun g hg => ?_, fun g hg => ?_⟩
    · by_cases e : g = gs.length
      · rw [e, pn_tr_len]; exact h.2
      · exact (h.1 g (by omega)).1
    · have := (h.1 g hg).2
      rw [Nat.zero_add] at this
      exact this
  · intro h
    refine ⟨fun j hj => ⟨h.1 j (by omega), by rw [Nat.zero_add]; exact h.2 j hj⟩, ?_⟩
    have := h.1 gs.length (Nat.le_refl _)
    rw [pn_tr_len] at this
    exact this
/-- every LAMBDA's TYPE is an arrow -/
theorem pv_lams {B : Nat} {r : pv_R} (t : pt_T) (tt : pt_tw t) : ∀ (k k' : pk_K), pn_can B t k k' → pv_S r t → ∀ f, B + k.1 ≤ f → f < B + k'.1 → ∃ x, r.2.1 f = pv_ar (r.1 f) x := by
  induction t, tt using pt_indh with
  | num v => intro k k' h _ f h1 h2; cases h; omega
  | var v x => intro k k' h _ f h1 h2; cases h; omega
  | glo g x => intro k k' h _ f h1 h2; cases h; omega
  | dead d => intro k k' h _ f h1 h2; cases h.2; omega
  | lam f0 x b tb ih =>
    intro k k' h hS f h1 h2
    obtain ⟨e, k1, c1, rfl⟩ := h
    by_cases z : f = f0
    · rw [z]; exact ⟨_, hS.2⟩
    · exact ih _ _ c1 hS.1 f (by dsimp only; omega) h2
  | ife a b c ta tb tc iha ihb ihc =>
    intro k k' h hS f h1 h2
    obtain ⟨k1, k2, k3, c1, c2, c3, rfl⟩ := h
    by_cases z : f < B + k1.1
    · exact iha _ _ c1 hS.1 f h1 z
    · by_cases z2 : f < B + k2.1
      · exact ihb _ _ c2 hS.2.1 f (by omega) z2
      · exact ihc _ _ c3 hS.2.2.1 f (by omega) h2
  | lt v x a b ta tb iha ihb =>
    intro k k' h hS f h1 h2
    obtain ⟨k1, k2, c1, e, c2, rfl⟩ := h
    by_cases z : f < B + k1.1
    · exact iha _ _ c1 hS.1 f h1 z
    · exact ihb _ _ c2 hS.2.1 f (by dsimp only; omega) h2
  | op s a b ta tb iha ihb =>
    intro k k' h hS f h1 h2
    obtain ⟨k1, k2, c1, c2, rfl⟩ := h
    by_cases z : f < B + k1.1
    · exact iha _ _ c1 hS.1 f h1 z
    · exact ihb _ _ c2 hS.2.1 f (by omega) h2
  | site s a b ta tb iha ihb =>
    intro k k' h hS f h1 h2
    obtain ⟨k1, k2, c1, e, c2, rfl⟩ := h
    by_cases z : f < B + k1.1
    · exact iha _ _ c1 hS.1 f h1 z
    · exact ihb _ _ c2 hS.2.1 f (by dsimp only; omega) h2
theorem pv_lams_G {B : Nat} {r : pv_R} : ∀ (gs : ps_G) (gl : List Nat) (k k' : pk_K) (g : Nat), pn_GW B gs gl k k' → pv_G r gs g → ∀ f, B + k.1 ≤ f → f < B + k'.1 → ∃ x, r.2.1 f = pv_ar (r.1 f) x := by
  intro gs
  induction gs with
  | nil => intro gl k k' g h _ f h1 h2; cases h; omega
  | cons e q ih =>
    intro gl k k' g h hS f h1 h2
    obtain ⟨x, v, t⟩ := e
    obtain ⟨_, _, _, tt, _, k3, h6, h7⟩ := h
    by_cases z : f < B + k3.1
    · exact pv_lams t tt _ _ h6 hS.1 f h1 z
    · exact ih _ _ _ _ h7 hS.2.2 f (by omega) h2
theorem pv_arrs {gs : ps_G} {t : pt_T} {la li si nd : Nat} (hV : pn_V gs t la li si nd) {r : pv_R} (h : pv_P r gs t) : ∀ f, f < gs.length + la → ∃ x, r.2.1 f = pv_ar (r.1 f) x := by
  obtain ⟨h1, h2, h3, h4, h5, h6, h7, k1, h8, h9⟩ := hV
  intro f hf
  by_cases z : f < gs.length
  · exact ⟨_, ((pv_P_iff r gs t).mp h).2 f z⟩
  · by_cases z2 : f < gs.length + k1.1
    · exact pv_lams_G gs _ _ _ 0 h8 h.1 f (by dsimp only; omega) z2
    · exact pv_lams t h6 _ _ h9 h.2 f (by omega) (by dsimp only; exact hf)
theorem px_xi_inj {ins : List Nat} (hn : ins.Nodup) (hi : ∀ x ∈ ins, 24 ≤ x ∧ x < 74) {v u : Nat} (hv : v < 24 + ins.length) (hu : u < 24 + ins.length) (e : px_xi ins v = px_xi ins u) : v = u := by
  have g : ∀ v, 24 ≤ v → v < 24 + ins.length → 24 ≤ px_xi ins v := fun v h1 h2 => px_xi_ge (fun x hx => (hi x hx).1) h1 h2
  by_cases a : v < 24
  · by_cases b : u < 24
    · unfold px_xi at e
      rw [if_pos a, if_pos b] at e
      exact e
    · have := g u (by omega) hu
      unfold px_xi at e this
      rw [if_pos a, if_neg b] at e
      rw [if_neg b] at this
      omega
  · by_cases b : u < 24
    · have := g v (by omega) hv
      unfold px_xi at e this
      rw [if_neg a, if_pos b] at e
      rw [if_neg a] at this
      omega
    · unfold px_xi at e
      rw [if_neg a, if_neg b, List.getD_eq_getElem?_getD, List.getD_eq_getElem?_getD, List.getElem?_eq_getElem (by omega), List.getElem?_eq_getElem (by omega)] at e
      have := (List.getElem_inj hn).mp e
      omega
theorem px_xi_lt {ins : List Nat} (hi : ∀ x ∈ ins, 24 ≤ x ∧ x < 74) (v : Nat) : px_xi ins v < 74 := by
  unfold px_xi
  split
  · omega
  · rw [List.getD_eq_getElem?_getD]
    cases e : ins[v - 24]? with
    | none => decide
    | some y => exact (hi y (List.mem_of_getElem? e)).2
/-! the first numbers: INT, VARS, FUNCTIONS -/
def px_a0 (k : Nat) : Option (Nat × Nat) := if 76 ≤ k ∧ k % 2 = 0 then some (1 + (k - 76) / 2, k - 1) else none
theorem px_a0_f (f : Nat) : px_a0 (76 + 2 * f) = some (1 + f, 75 + 2 * f) := by
  unfold px_a0
  rw [if_pos (by omega), show (76 + 2 * f - 76) / 2 = f by omega, show 76 + 2 * f - 1 = 75 + 2 * f by omega]
theorem px_a0_I (nf : Nat) : pu_I (75 + 2 * nf) (fun k => k) px_a0 (fun k => k) (List.range (75 + 2 * nf)) 0 := by
  refine ⟨List.nodup_range, fun k => by rw [List.mem_range]; exact ⟨fun h => ⟨h, rfl⟩, fun h => h.1⟩, by rw [List.length_range]; rfl, by omega, rfl, rfl, fun k hk a b e => ?_, fun _ => 0, fun k hk => ⟨hk, rfl, Nat.le_refl _, hk, fun _ => ⟨rfl, rfl⟩, fun z => absurd rfl z⟩⟩
  unfold px_a0 at e
  split at e
  · cases e
    omega
  · cases e
theorem pu_ct_app (ar : pu_A) (l m : List Nat) : pu_ct ar (l ++ m) = pu_ct ar l + pu_ct ar m := by
  induction l with
  | nil => exact (Nat.zero_add _).symm
  | cons y r ih =>
    show (if ar y = none then 0 else 1) + pu_ct ar (r ++ m) = (if ar y = none then 0 else 1) + pu_ct ar r + pu_ct ar m
    rw [ih, Nat.add_assoc]
theorem px_a0_ct (nf : Nat) : pu_ct px_a0 (List.range (75 + 2 * nf)) ≤ nf := by
  have key : ∀ n, pu_ct px_a0 (List.range n) ≤ (n - 75) / 2 := by
    intro n
    induction n with
    | zero => exact Nat.le_refl _
    | succ n ih =>
      rw [List.range_succ, pu_ct_app]
      show pu_ct px_a0 (List.range n) + ((if px_a0 n = none then 0 else 1) + 0) ≤ _
      by_cases h : 76 ≤ n ∧ n % 2 = 0
      · have e : px_a0 n ≠ none := by unfold px_a0; rw [if_pos h]; simp
        rw [if_neg e]
        omega
      · have e : px_a0 n = none := by unfold px_a0; rw [if_neg h]
        rw [if_pos e]
        omega
  have := key (75 + 2 * nf)
  omega
/-- a valuation of the first numbers for every choice of TYPES -/
theorem px_a0_val {ins : List Nat} (hn : ins.Nodup) (hi : ∀ x ∈ ins, 24 ≤ x ∧ x < 74) {nf : Nat} (h24 : nf ≤ 24) {r : pv_R} (hr : ∀ f, f < nf → ∃ x, r.2.1 f = pv_ar (r.1 f) x) : ∃ val, pu_0 (75 + 2 * nf) (fun k => k) px_a0 val ∧ pu_E (75 + 2 * nf) (fun k => k) px_a0 val ∧ px_cs ins nf r val := by
  classical
  have hX : ∃ X : Nat → pv_T, ∀ f, f < nf → r.2.1 f = pv_ar (r.1 f) (X f) := ⟨fun f => if h : f < nf then (hr f h).choose else pv_int, fun f hf => by dsimp only; rw [dif_pos hf]; exact (hr f hf).choose_spec⟩
  obtain ⟨X, hX⟩ := hX
  have hB : ∃ B : Nat → pv_T, ∀ v, v < 24 + ins.length → B (px_xi ins v) = r.1 v := by
    refine ⟨fun j => if h : ∃ v, v < 24 + ins.length ∧ px_xi ins v = j then r.1 h.choose else pv_int, fun v hv => ?_⟩
    have h : ∃ u, u < 24 + ins.length ∧ px_xi ins u = px_xi ins v := ⟨v, hv, rfl⟩
    dsimp only
    rw [dif_pos h, px_xi_inj hn hi h.choose_spec.1 hv h.choose_spec.2]
  obtain ⟨B, hB⟩ := hB
  obtain ⟨val, v0, v1, v2, v3⟩ : ∃ val : Nat → pv_T, val 0 = pv_int ∧ (∀ j, j < 74 → val (1 + j) = B j) ∧ (∀ f, val (75 + 2 * f) = X f) ∧ ∀ f, val (76 + 2 * f) = r.2.1 f := by
    refine ⟨fun k => if k = 0 then pv_int else if k < 75 then B (k - 1) else if k % 2 = 0 then r.2.1 ((k - 76) / 2) else X ((k - 75) / 2), rfl, fun j hj => ?_, fun f => ?_, fun f => ?_⟩
    · dsimp only
      rw [if_neg (by omega), if_pos (by omega), show 1 + j - 1 = j by omega]
    · dsimp only
      rw [if_neg (by omega), if_neg (by omega), if_neg (by omega), show (75 + 2 * f - 75) / 2 = f by omega]
    · dsimp only
      rw [if_neg (by omega), if_neg (by omega), if_pos (by omega), show (76 + 2 * f - 76) / 2 = f by omega]
  have xf : ∀ f, f < 24 → px_xi ins f = f := fun f hf => by unfold px_xi; rw [if_pos hf]
  refine ⟨val, ⟨v0, fun k hk => rfl, fun k hk _ a b e => ?_⟩, fun k hk z => absurd rfl z, fun v hv => by rw [v1 _ (px_xi_lt hi v)]; exact hB v hv, fun f hf => v3 f⟩
  unfold px_a0 at e
  split at e
  · rename_i h
    cases e
    obtain ⟨f, rfl⟩ : ∃ f, k = 76 + 2 * f := ⟨(k - 76) / 2, by omega⟩
    rw [show (76 + 2 * f - 76) / 2 = f by omega, show 76 + 2 * f - 1 = 75 + 2 * f by omega, v3, v1 f (by omega), v2, hX f (by omega)]
    have := hB f (by omega)
    rw [xf f (by omega)] at this
    rw [this]
  · cases e
