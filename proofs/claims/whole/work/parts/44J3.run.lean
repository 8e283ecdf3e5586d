/-! the reference's machine: its rows and steps -/
theorem pm_puts {V : Nat} {w : fa_W} (hV : w 181 86 = (V : Int)) (h : V < 55000) (x y z : Int) : ∃ w', fm_Mod_puts x y z w = some w' ∧ w' 226 V = x ∧ w' 227 V = y ∧ w' 228 V = z ∧ w' 181 86 = ((V + 1 : Nat) : Int) ∧ ∀ i j, ¬ ((i = 226 ∨ i = 227 ∨ i = 228) ∧ j = V) → ¬ (i = 181 ∧ j = 86) → w' i j = w i j := by
  refine ⟨fa_st (fa_st (fa_st (fa_st w 226 V x) 227 V y) 228 V z) 181 86 ((V + 1 : Nat) : Int), ?_, ?_, ?_, ?_, fa_st_eq _ _ _ _, fun i j h1 h2 => ?_⟩
  · unfold fm_Mod_puts
    rw [hV, pb_ix h (by omega), Option.bind_some, pf_let_eq, fa_st_ne (by omega), hV, pb_ix h (by omega), Option.bind_some, pf_let_eq, fa_st_ne (by omega), fa_st_ne (by omega), hV, pb_ix h (by omega), Option.bind_some, pf_let_eq, pf_let_eq, fa_st_ne (by omega), fa_st_ne (by omega), fa_st_ne (by omega), hV]
    rfl
  · rw [fa_st_ne (by omega), fa_st_ne (by omega), fa_st_ne (by omega), fa_st_eq]
  · rw [fa_st_ne (by omega), fa_st_ne (by omega), fa_st_eq]
  · rw [fa_st_ne (by omega), fa_st_eq]
  · rw [fa_st_ne (by omega), fa_st_ne (by omega), fa_st_ne (by omega), fa_st_ne (by omega)]
theorem pm_holdsIn {V j v : Nat} {w : fa_W} (hV : w 181 86 = ((V + 1 : Nat) : Int)) (h : V < 55000) (hj : 124 * j + v < 13640) : ∃ w', fm_Mod_holdsIn (j : Int) (v : Int) w = some w' ∧ w' 229 (124 * j + v) = w 226 V ∧ w' 230 (124 * j + v) = w 227 V ∧ w' 231 (124 * j + v) = w 228 V ∧ w' 181 86 = (V : Int) ∧ ∀ a b, ¬ ((a = 229 ∨ a = 230 ∨ a = 231) ∧ b = 124 * j + v) → ¬ (a = 181 ∧ b = 86) → w' a b = w a b := by
  have e1 : w 181 86 - 1 = (V : Int) := by rw [hV]; omega
  have e2 : (124 : Int) * (j : Int) + (v : Int) = ((124 * j + v : Nat) : Int) := by omega
  refine ⟨fa_st (fa_st (fa_st (fa_st w 181 86 (V : Int)) 229 (124 * j + v) (w 226 V)) 230 (124 * j + v) (w 227 V)) 231 (124 * j + v) (w 228 V), ?_, ?_, ?_, fa_st_eq _ _ _ _, ?_, fun a b h1 h2 => ?_⟩
  · unfold fm_Mod_holdsIn
    rw [e1, e2, pf_let_eq]
    obtain ⟨w1, hw1⟩ : ∃ w1, w1 = fa_st w 181 86 (V : Int) := ⟨_, rfl⟩
    have a1 : w1 181 86 = (V : Int) := by rw [hw1, fa_st_eq]
    rw [← hw1, a1, pb_ix h (by omega), Option.bind_some, pb_ix hj (by omega), Option.bind_some, pf_let_eq, show w1 226 V = w 226 V by rw [hw1, fa_st_ne (by omega)]]
    obtain ⟨w2, hw2⟩ : ∃ w2, w2 = fa_st w1 229 (124 * j + v) (w 226 V) := ⟨_, rfl⟩
    have a2 : w2 181 86 = (V : Int) := by rw [hw2, fa_st_ne (by omega)]; exact a1
    rw [← hw2, a2, pb_ix h (by omega), Option.bind_some, Option.bind_some, pf_let_eq, show w2 227 V = w 227 V by rw [hw2, fa_st_ne (by omega), hw1, fa_st_ne (by omega)]]
    obtain ⟨w3, hw3⟩ : ∃ w3, w3 = fa_st w2 230 (124 * j + v) (w 227 V) := ⟨_, rfl⟩
    have a3 : w3 181 86 = (V : Int) := by rw [hw3, fa_st_ne (by omega)]; exact a2
    rw [← hw3, a3, pb_ix h (by omega), Option.bind_some, Option.bind_some, pf_let_eq, show w3 228 V = w 228 V by rw [hw3, fa_st_ne (by omega), hw2, fa_st_ne (by omega), hw1, fa_st_ne (by omega)]]
  · rw [fa_st_ne (by omega), fa_st_ne (by omega), fa_st_eq]
  · rw [fa_st_ne (by omega), fa_st_eq]
  · rw [fa_st_ne (by omega), fa_st_ne (by omega), fa_st_ne (by omega), fa_st_eq]
  · rw [fa_st_ne (by omega), fa_st_ne (by omega), fa_st_ne (by omega), fa_st_ne (by omega)]
theorem pm_frame {n : Nat} {w : fa_W} (hn : w 181 87 = (n : Int)) (h : n < 110) (x y : Int) : ∃ w', fm_Mod_frame x y w = some ((n : Int), w') ∧ w' 232 n = x ∧ w' 233 n = y ∧ w' 181 87 = ((n + 1 : Nat) : Int) ∧ ∀ i j, ¬ ((i = 232 ∨ i = 233) ∧ j = n) → ¬ (i = 181 ∧ j = 87) → w' i j = w i j := by
  refine ⟨fa_st (fa_st (fa_st w 232 n x) 233 n y) 181 87 ((n + 1 : Nat) : Int), ?_, ?_, ?_, fa_st_eq _ _ _ _, fun i j h1 h2 => ?_⟩
  · unfold fm_Mod_frame
    rw [hn, pb_ix h (by omega), Option.bind_some, pf_let_eq, fa_st_ne (by omega), hn, pb_ix h (by omega), Option.bind_some, pf_let_eq, fa_st_ne (by omega), fa_st_ne (by omega), hn, pf_let_eq, fa_st_eq]
    have : (n : Int) + 1 - 1 = (n : Int) := by omega
    rw [this]
    rfl
  · rw [fa_st_ne (by omega), fa_st_ne (by omega), fa_st_eq]
  · rw [fa_st_ne (by omega), fa_st_eq]
  · rw [fa_st_ne (by omega), fa_st_ne (by omega), fa_st_ne (by omega)]
theorem pm_wk {n v : Nat} {fo fu : Nat → Int} {h : Int} {w : fa_W} {a2 : Int} (hn : n ≤ 100) (hv : v < 124) (hh : -1 ≤ h ∧ h < 24) (e193 : w 193 v = h) (e : ∀ i, i ≤ n → w 232 i = fo i ∧ w 233 i = fu i) (r : ∀ i, i ≤ n → -1 ≤ fo i ∧ fo i < 24 ∧ fu i < (i : Int)) : ∀ (z i k F : Nat), i ≤ n → rv_wk fo fu z i h = some k → z ≤ F → fm_Mod_frameOfBinder_l2 (v : Int) a2 w F (i : Int) = some (k : Int) := by
  intro z
  induction z with
  | zero => intro i k F _ q; cases q
  | succ z ih =>
    intro i k F hi q hF
    obtain ⟨F, rfl⟩ : ∃ G, F = G + 1 := ⟨F - 1, by omega⟩
    change (if fo i = h then some i else if fu i < 0 then none else rv_wk fo fu z (fu i).toNat h) = some k at q
    have r1 := r i hi
    have e1 := e i hi
    conv => lhs; unfold fm_Mod_frameOfBinder_l2
    rw [pb_ix (show i < 110 by omega) (by omega), Option.bind_some, pb_ix (show v < 124 by omega) (by omega), Option.bind_some, e1.1, e193, fa_wr_id (x := fo i) (by omega) (by omega), fa_wr_id (x := h) (by omega) (by omega)]
    by_cases c : fo i = h
    · rw [if_pos c] at q ⊢
      cases q
      rfl
    · rw [if_neg c] at q ⊢
      by_cases c2 : fu i < 0
      · rw [if_pos c2] at q; cases q
      · rw [if_neg c2] at q
        rw [Option.bind_some, e1.2, pf_let_eq, show fu i = (((fu i).toNat : Nat) : Int) by omega]
        exact ih _ _ _ (by omega) q (by omega)
/-- the reference's machine is in the state that is told -/
def pm_rS (hb : Nat → Int) (w0 : fa_W) (il : rv_I) (s : rv_S) (w : fa_W) : Prop := (∀ i j, ¬ (226 ≤ i ∧ i ≤ 236) → ¬ (i = 181 ∧ 86 ≤ j ∧ j ≤ 93) → w i j = w0 i j) ∧ (w 181 87 = ((s.1 + 1 : Nat) : Int) ∧ w 181 88 = (il.length : Int) ∧ w 181 89 = (s.1 : Int) ∧ w 181 90 = (s.2.2.2.2.2 : Int) ∧ w 181 91 = (s.2.2.2.2.1 : Int) ∧ w 181 92 = -1 ∧ w 181 93 = 0) ∧ (∀ i, i ≤ s.1 → w 232 i = s.2.2.1 i ∧ w 233 i = s.2.2.2.1 i) ∧ (∀ (i x : Nat), (il.reverse.map (fun p => p.1))[i]? = some x → w 236 i = (x : Int)) ∧ ∀ k v a, s.2.1 k v = some a → s.2.2.1 k = hb v → w 229 (124 * k + v) = a.1 ∧ w 230 (124 * k + v) = a.2.1 ∧ w 231 (124 * k + v) = a.2.2
theorem pm_rS_of {hb : Nat → Int} {w0 w w' : fa_W} {il : rv_I} {s : rv_S} (h : pm_rS hb w0 il s w) (e : ∀ i j, ¬ (i = 226 ∨ i = 227 ∨ i = 228) → ¬ (i = 181 ∧ j = 86) → w' i j = w i j) : pm_rS hb w0 il s w' := by
  obtain ⟨h1, ⟨a1, a2, a3, a4, a5, a6, a7⟩, h2, h3, h4⟩ := h
  refine ⟨fun i j p q => (e i j (by omega) (by omega)).trans (h1 i j p q), ⟨?_, ?_, ?_, ?_, ?_, ?_, ?_⟩, fun i hi => ?_, fun i x q => ?_, fun k v a q q2 => ?_⟩
  all_goals first | (rw [e _ _ (by omega) (by omega)]; assumption) | skip
  · rw [e _ _ (by omega) (by omega), e _ _ (by omega) (by omega)]; exact h2 i hi
  · rw [e _ _ (by omega) (by omega)]; exact h3 i x q
  · rw [e _ _ (by omega) (by omega), e _ _ (by omega) (by omega), e _ _ (by omega) (by omega)]; exact h4 k v a q q2
def pm_rF (w0 : fa_W) (e : Nat) (il : rv_I) (s : rv_S) (w : fa_W) : Prop := (∀ i j, ¬ (226 ≤ i ∧ i ≤ 236) → ¬ (i = 181 ∧ 86 ≤ j ∧ j ≤ 93) → w i j = w0 i j) ∧ (w 181 88 = (il.length : Int) ∧ w 181 89 = (s.1 : Int) ∧ w 181 90 = (s.2.2.2.2.2 : Int) ∧ w 181 91 = (s.2.2.2.2.1 : Int) ∧ w 181 92 = (e : Int) ∧ w 181 93 = 0) ∧ ∀ (i x : Nat), (il.reverse.map (fun p => p.1))[i]? = some x → w 236 i = (x : Int)
theorem pm_rF_of {hb : Nat → Int} {w0 w w' : fa_W} {il : rv_I} {s : rv_S} {e : Nat} (h : pm_rS hb w0 il s w) (e92 : w' 181 92 = (e : Int)) (o : ∀ i j, ¬ (i = 226 ∨ i = 227 ∨ i = 228) → ¬ (i = 181 ∧ (j = 86 ∨ j = 92)) → w' i j = w i j) : pm_rF w0 e il s w' := by
  obtain ⟨h1, ⟨a1, a2, a3, a4, a5, a6, a7⟩, h2, h3, h4⟩ := h
  refine ⟨fun i j p q => (o i j (by omega) (by omega)).trans (h1 i j p q), ⟨?_, ?_, ?_, ?_, e92, ?_⟩, fun i x q => ?_⟩
  all_goals first | (rw [o _ _ (by omega) (by omega)]; assumption) | skip
  rw [o _ _ (by omega) (by omega)]; exact h3 i x q
/-- so many steps lead from one place, frame and world to others -/
def pm_go (how : Int) (k : Nat) (now c : Nat) (w : fa_W) (now' c' : Nat) (w' : fa_W) : Prop := ∀ F : Nat, fm_Mod_runs_l57 how (F + k) (now : Int) (c : Int) w = fm_Mod_runs_l57 how F (now' : Int) (c' : Int) w'
theorem pm_go_tr {how : Int} {k m n1 c1 n2 c2 n3 c3 : Nat} {w w1 w2 : fa_W} (h : pm_go how k n1 c1 w n2 c2 w1) (g : pm_go how m n2 c2 w1 n3 c3 w2) : pm_go how (k + m) n1 c1 w n3 c3 w2 := fun F => by
  have e1 := h (F + m)
  rw [show F + m + k = F + (k + m) by omega] at e1
  exact e1.trans (g F)
def pm_rQ (how : Int) (hb : Nat → Int) (w0 : fa_W) (K c c' V : Nat) (il : rv_I) (s : rv_S) (w : fa_W) (r : rv_O) : Prop := ∃ k w', k ≤ K + 302 * (r.2.1 - s.1) ∧ s.1 ≤ r.2.1 ∧ match r.1 with
  | .ok a => pm_go how k (rv_j il) c w (rv_j il) c' w' ∧ pm_rS hb w0 il r.2 w' ∧ w' 181 86 = ((V + 1 : Nat) : Int) ∧ (∀ j, j < V → w' 226 j = w 226 j ∧ w' 227 j = w 227 j ∧ w' 228 j = w 228 j) ∧ (w' 226 V = a.1 ∧ w' 227 V = a.2.1 ∧ w' 228 V = a.2.2) ∧ ∀ j, j < il.length → w' 234 j = w 234 j ∧ w' 235 j = w 235 j
  | .error e => ∃ n1 c1, pm_go how k (rv_j il) c w n1 c1 w' ∧ pm_rF w0 e.1 e.2 r.2 w'
theorem pm_rQ_mono {how : Int} {hb : Nat → Int} {w0 : fa_W} {K K' c c' V : Nat} {il : rv_I} {s : rv_S} {w : fa_W} {r : rv_O} (h : K ≤ K') (q : pm_rQ how hb w0 K c c' V il s w r) : pm_rQ how hb w0 K' c c' V il s w r := by
  obtain ⟨k, w', h1, h2⟩ := q
  exact ⟨k, w', by omega, h2⟩
theorem pm_rQ_pre {how : Int} {hb : Nat → Int} {w0 : fa_W} {K0 K k c c1 c' V : Nat} {il : rv_I} {s : rv_S} {w w1 : fa_W} {r : rv_O} (hk : k ≤ K0) (g : pm_go how k (rv_j il) c w (rv_j il) c1 w1) (e1 : ∀ j, j < V → w1 226 j = w 226 j ∧ w1 227 j = w 227 j ∧ w1 228 j = w 228 j) (e2 : ∀ j, j < il.length → w1 234 j = w 234 j ∧ w1 235 j = w 235 j) (h : pm_rQ how hb w0 K c1 c' V il s w1 r) : pm_rQ how hb w0 (K0 + K) c c' V il s w r := by
  obtain ⟨m, w2, m1, m2, m4⟩ := h
  refine ⟨k + m, w2, by omega, m2, ?_⟩
  obtain ⟨x, s'⟩ := r
  cases x with
  | ok a =>
    obtain ⟨p1, p2, p3, p4, p5, p6⟩ := m4
    exact ⟨pm_go_tr g p1, p2, p3, fun j q => ⟨(p4 j q).1.trans (e1 j q).1, (p4 j q).2.1.trans (e1 j q).2.1, (p4 j q).2.2.trans (e1 j q).2.2⟩, p5, fun j q => ⟨(p6 j q).1.trans (e2 j q).1, (p6 j q).2.trans (e2 j q).2⟩⟩
  | error e =>
    obtain ⟨n1, c2, p1, p2⟩ := m4
    exact ⟨n1, c2, pm_go_tr g p1, p2⟩
theorem pm_rQ_bd {how : Int} {hb : Nat → Int} {w0 : fa_W} {K1 K2 c c1 c' V1 V : Nat} {il : rv_I} {s : rv_S} {w : fa_W} {r : rv_O} {f : rv_V → rv_S → rv_O} (h : pm_rQ how hb w0 K1 c c1 V1 il s w r) (hV : V ≤ V1) (g : ∀ a s1 w1, r = (.ok a, s1) → s.1 ≤ s1.1 → pm_rS hb w0 il s1 w1 → w1 181 86 = ((V1 + 1 : Nat) : Int) → (∀ j, j < V1 → w1 226 j = w 226 j ∧ w1 227 j = w 227 j ∧ w1 228 j = w 228 j) → (w1 226 V1 = a.1 ∧ w1 227 V1 = a.2.1 ∧ w1 228 V1 = a.2.2) → pm_rQ how hb w0 K2 c1 c' V il s1 w1 (f a s1)) : pm_rQ how hb w0 (K1 + K2) c c' V il s w (rv_bd r f) := by
  obtain ⟨k, w1, m1, m2, m4⟩ := h
  obtain ⟨x, s1⟩ := r
  cases x with
  | error e => exact ⟨k, w1, by dsimp only [rv_bd] at m1 ⊢; omega, m2, m4⟩
  | ok a =>
    obtain ⟨p1, p2, p3, p4, p5, p6⟩ := m4
    obtain ⟨k2, w2, n1, n2, n4⟩ := g a s1 w1 rfl m2 p2 p3 p4 p5
    show pm_rQ how hb w0 (K1 + K2) c c' V il s w (f a s1)
    generalize f a s1 = r2 at n1 n2 n4 ⊢
    obtain ⟨x2, s2⟩ := r2
    dsimp only at m1 m2 n1 n2
    refine ⟨k + k2, w2, ?_, Nat.le_trans m2 n2, ?_⟩
    · show k + k2 ≤ K1 + K2 + 302 * (s2.1 - s.1)
      omega
    · cases x2 with
      | error e =>
        obtain ⟨n1, c2, q1, q2⟩ := n4
        exact ⟨n1, c2, pm_go_tr p1 q1, q2⟩
      | ok b =>
        obtain ⟨q1, q2, q3, q4, q5, q6⟩ := n4
        exact ⟨pm_go_tr p1 q1, q2, q3, fun j q => ⟨(q4 j q).1.trans (p4 j (by omega)).1, (q4 j q).2.1.trans (p4 j (by omega)).2.1, (q4 j q).2.2.trans (p4 j (by omega)).2.2⟩, q5, fun j q => ⟨(q6 j q).1.trans (p6 j q).1, (q6 j q).2.trans (p6 j q).2⟩⟩
/-- a value is put -/
theorem pm_rQ_leaf {how : Int} {hb : Nat → Int} {w0 : fa_W} {K c V : Nat} {il : rv_I} {s : rv_S} {w : fa_W} {a : rv_V} (hS : pm_rS hb w0 il s w) (hV : w 181 86 = (V : Int)) (hV2 : V < 55000) (hK : 1 ≤ K) (hg : ∀ F : Nat, fm_Mod_runs_l57 how (F + 1) (rv_j il : Int) (c : Int) w = (fm_Mod_puts a.1 a.2.1 a.2.2 w).bind fun w1 => fm_Mod_runs_l57 how F (rv_j il : Int) ((c : Int) + 1) w1) : pm_rQ how hb w0 K c (c + 1) V il s w (.ok a, s) := by
  obtain ⟨w', p1, p2, p3, p4, p5, p6⟩ := pm_puts hV hV2 a.1 a.2.1 a.2.2
  refine ⟨1, w', by omega, Nat.le_refl _, fun F => ?_, pm_rS_of hS (fun i j p q => p6 i j (by omega) q), p5, fun j q => ⟨p6 _ _ (by omega) (by omega), p6 _ _ (by omega) (by omega), p6 _ _ (by omega) (by omega)⟩, ⟨p2, p3, p4⟩, fun j q => ⟨p6 _ _ (by omega) (by omega), p6 _ _ (by omega) (by omega)⟩⟩
  rw [hg, p1]
  rfl
