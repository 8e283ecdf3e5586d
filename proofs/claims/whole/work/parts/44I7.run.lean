/-! the class's machine does what is told: one EXPR, when entering does -/
theorem rv_TY_int {G nf nv ns : Nat} {fb : Nat → pt_T} {r : pv_R} {hb ho : Nat → Int} (hP : rv_PF G nf nv ns fb r hb ho) {s : rv_S} {a : rv_V} (h : rv_TY G nf fb r ho s a pv_int) : a.2.1 = -1 := by
  rcases h with h | ⟨f, hf, e1, e2, _⟩
  · exact h.1
  · exact (pv_ar_int ((hP f hf).2.2.2.2.1.symm.trans e2.symm)).elim
theorem px_rE_i {n : Nat} {a : rv_V} {x : Int} (h : px_rE n a x) (e : a.2.1 = -1) : x = a.1 := by
  rcases h with ⟨_, h⟩ | ⟨f, fr, _, _, h3, _⟩
  · exact h
  · omega
theorem px_rS_put {ins : List Nat} {A : Int} {w0 w w' : fa_W} {il : rv_I} {s : rv_S} {nv v j : Nat} {a : rv_V} {x : Int} (hin : nv = 24 + ins.length ∧ ins.Nodup ∧ ∀ x ∈ ins, 24 ≤ x ∧ x < 74) (h : px_rS ins A w0 il s w) (hv : v < nv) (hx : px_rE s.1 a x) (hsv : ∀ i v c, s.2.1 i v = some c → i ≤ s.1 ∧ v < nv) (e : w' 46 (j * 74 + px_xi ins v) = x) (o : ∀ i k, ¬ (47 ≤ i ∧ i ≤ 50) → ¬ (i = 46 ∧ k = j * 74 + px_xi ins v) → w' i k = w i k) : px_rS ins A w0 il (rv_put s j v a) w' := by
  obtain ⟨h1, ⟨a1, a2, a3, a4, a5, a6, a7⟩, h2, h3, h4, h5⟩ := h
  obtain ⟨x1, x2, x3⟩ := hin
  refine ⟨fun i k q => (o i k (by omega) (by omega)).trans (h1 i k q), ⟨?_, ?_, ?_, ?_, ?_, ?_, ?_⟩, ?_, px_RL_of h3 (fun i k q => o i k (by omega) (by omega)), px_RL_of h4 (fun i k q => o i k (by omega) (by omega)), fun i u c q => ?_⟩
  all_goals first | (rw [o _ _ (by omega) (by omega)]; assumption) | skip
  change (if i = j ∧ u = v then some a else s.2.1 i u) = some c at q
  show px_rE s.1 c _
  by_cases z : i = j ∧ u = v
  · rw [if_pos z] at q
    cases q
    rw [z.1, z.2, e]
    exact hx
  · rw [if_neg z] at q
    have hu := (hsv i u c q).2
    have l1 := px_xi_lt x3 u
    have l2 := px_xi_lt x3 v
    rw [o _ _ (by omega) (fun y => z (by
      have e1 : i = j := by omega
      have e2 : px_xi ins u = px_xi ins v := by omega
      exact ⟨e1, px_xi_inj x2 x3 (by omega) (by omega) e2⟩))]
    exact h5 i u c q
def px_rN (sc o : Nat) (how : Int) (G nf nv : Nat) (fb : Nat → pt_T) (r : pv_R) (hb ho : Nat → Int) (ins : List Nat) (A : Int) (w0 : fa_W) (d : Nat) (en : Nat → rv_V → Int → rv_I → rv_S → rv_O) : Prop := ∀ (il : rv_I) (s : rv_S) (a b : rv_V) (T X : pv_T) (x y : Int) (Tn Vn : Nat) (w : fa_W), rv_ST G nf nv fb r hb ho s → s.1 ≠ 100 → 100 ≤ d + s.1 → rv_j il ≤ s.1 → il.length ≤ s.1 → rv_TY G nf fb r ho s a (pv_ar T X) → rv_TY G nf fb r ho s b T → px_rS ins A w0 il s w → w 47 1 = (Tn : Int) → w 49 1 = (Vn : Int) → 2 * Tn ≤ 102 * (il.length + 1) → 2 * Vn ≤ 102 * (il.length + 1) → px_rE s.1 a x → px_rE s.1 b y → ∃ w3, fm_Machine_enter o x y w = some w3 ∧ (∀ j, j < Tn → w3 48 j = w 48 j) ∧ (∀ j, w3 50 j = w 50 j) ∧ px_rQ sc how ins A w0 0 Tn Vn il s w3 (en a.2.1.toNat b a.2.2 il s)
/-- a THING is cut off: DEAD, a division by 0, no STEP left, no CASE -/
theorem px_rQ_err {sc K k T V e : Nat} {how : Int} {ins : List Nat} {A : Int} {w0 : fa_W} {il : rv_I} {s : rv_S} {w w' : fa_W} (hk : k ≤ K) (g : px_go sc how k w w') (h : px_rF w0 e il s w') : px_rQ sc how ins A w0 K T V il s w (.error (e, il), s) := ⟨k, w', by omega, Nat.le_refl _, g, h⟩
