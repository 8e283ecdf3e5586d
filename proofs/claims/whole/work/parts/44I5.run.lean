/-! one round, THING by THING -/
theorem px_k1 {n : Nat} (h : n < 100) : fa_wr ((n : Nat) : Int) = (n : Int) := pb_wr (by omega)
theorem px_goN {o : Nat} {i ph : Int} {w : fa_W} {v : Int} (hk : fm_Program_kind o i w = ((1 : Nat) : Int)) (hv : fm_Program_value o i w = v) : fm_Machine_go o i ph w = some (fr_add 49 v w) := by
  unfold fm_Machine_go
  rw [hk, px_k1 (by omega), if_pos (by omega), hv]
  rfl
theorem px_goV {o : Nat} {i ph : Int} {w : fa_W} {v : Int} (hk : fm_Program_kind o i w = ((2 : Nat) : Int)) (hv : fm_Program_value o i w = v) : fm_Machine_go o i ph w = some (fr_add 49 (fr_at 45 ((fm_Machine_frame w * 74) + v) w) w) := by
  unfold fm_Machine_go
  rw [hk, px_k1 (by omega), if_neg (by omega), if_pos (by omega), hv]
  rfl
theorem px_goF {o K : Nat} {i ph : Int} {w : fa_W} {v : Int} (hK : K = 3 ∨ K = 5) (hk : fm_Program_kind o i w = ((K : Nat) : Int)) (hv : fm_Program_value o i w = v) : fm_Machine_go o i ph w = some (fr_add 49 (fm_Machine_frame w * 32 + v) w) := by
  unfold fm_Machine_go
  rw [hk, px_k1 (by omega), if_neg (by omega), if_neg (by omega), hv]
  by_cases c : K = 3
  · rw [if_pos (by omega)]; rfl
  · rw [if_neg (by omega), if_pos (by omega)]; rfl
theorem px_goC {o : Nat} {i ph : Int} {w : fa_W} (hk : fm_Program_kind o i w = ((6 : Nat) : Int)) : fm_Machine_go o i ph w = some (fm_Machine_goChoice o i ph w) := by
  unfold fm_Machine_go
  rw [hk, px_k1 (by omega), if_neg (by omega), if_neg (by omega), if_neg (by omega), if_neg (by omega), if_pos (by omega)]
  rfl
theorem px_goL {o : Nat} {i ph : Int} {w : fa_W} (hk : fm_Program_kind o i w = ((7 : Nat) : Int)) : fm_Machine_go o i ph w = some (fm_Machine_goLet o i ph w) := by
  unfold fm_Machine_go
  rw [hk, px_k1 (by omega), if_neg (by omega), if_neg (by omega), if_neg (by omega), if_neg (by omega), if_neg (by omega), if_pos (by omega)]
  rfl
theorem px_goO {o : Nat} {i ph : Int} {w : fa_W} (hk : fm_Program_kind o i w = ((8 : Nat) : Int)) : fm_Machine_go o i ph w = fm_Machine_goOperator o i ph w := by
  unfold fm_Machine_go
  rw [hk, px_k1 (by omega), if_neg (by omega), if_neg (by omega), if_neg (by omega), if_neg (by omega), if_neg (by omega), if_neg (by omega), if_pos (by omega)]
  cases fm_Machine_goOperator o i ph w <;> rfl
theorem px_goS {o : Nat} {i ph : Int} {w : fa_W} (hk : fm_Program_kind o i w = ((9 : Nat) : Int)) : fm_Machine_go o i ph w = fm_Machine_goSite o i ph w := by
  unfold fm_Machine_go
  rw [hk, px_k1 (by omega), if_neg (by omega), if_neg (by omega), if_neg (by omega), if_neg (by omega), if_neg (by omega), if_neg (by omega), if_neg (by omega), if_pos (by omega)]
  cases fm_Machine_goSite o i ph w <;> rfl
theorem px_goD {o : Nat} {i ph : Int} {w : fa_W} (hk : fm_Program_kind o i w = ((4 : Nat) : Int)) : fm_Machine_go o i ph w = some (fa_st w 44 7 3) := by
  unfold fm_Machine_go
  rw [hk, px_k1 (by omega), if_neg (by omega), if_neg (by omega), if_neg (by omega), if_neg (by omega), if_neg (by omega), if_neg (by omega), if_neg (by omega), if_neg (by omega)]
  rfl
/-- what stands of the program that runs -/
def px_rP (sc o nd nf nv : Nat) (ins : List Nat) (fb : Nat → pt_T) (A : Int) (ap : Nat → Bool) (w0 : fa_W) : Prop := fa_rf sc 0 = o ∧ px_po o ∧ 54 < o ∧ px_pz o nd w0 ∧ (nv = 24 + ins.length ∧ ins.Nodup ∧ ∀ x ∈ ins, 24 ≤ x ∧ x < 74) ∧ w0 (o + 19) 1 = ((24 : Nat) : Int) ∧ (∀ f, f < nf → ∃ c, c + pt_sz (fb f) ≤ nd ∧ w0 (o + 20) f = ((c + pt_sz (fb f) - 1 : Nat) : Int) ∧ px_P o ins (fb f) (f : Int) c w0) ∧ nf ≤ 24 ∧ ∀ f, f < nf → ∀ w, fm_Face_hasBit A (f : Int) w = ap f
theorem px_rdw {o nd : Nat} (hp : px_po o) (ho : 54 < o) {w0 w : fa_W} (e : ∀ i j, ¬ (44 ≤ i ∧ i ≤ 54) → w i j = w0 i j) (hz : px_pz o nd w0) {i K v st : Nat} {h a b c : Int} (N : px_N o w0 i K v h st a b c) (hi : i < nd) : fm_Program_kind o (i : Int) w = (K : Int) ∧ fm_Program_value o (i : Int) w = (v : Int) ∧ fm_Program_part o (i : Int) 0 w = a ∧ fm_Program_part o (i : Int) 1 w = b ∧ fm_Program_part o (i : Int) 2 w = c := by
  have hz' : px_pz o nd w := by
    obtain ⟨z1, z2, z3, z4, z5, z6⟩ := hz
    refine ⟨?_, ?_, ?_, ?_, ?_, z6⟩
    all_goals (rw [e _ _ (by omega)]; assumption)
  have N' := px_N_ob (o := o) (w := w0) (w' := w) (fun i j p q => e i j (by omega)) N
  obtain ⟨r1, r2, r3, r4, r5, r6⟩ := px_rd hp hz' N' hi
  exact ⟨r1, r2, r4, r5, r6⟩
/-- how a run that has ended by a fault stands -/
def px_rF (w0 : fa_W) (e : Nat) (il : rv_I) (s : rv_S) (w : fa_W) : Prop := (∀ i j, ¬ (44 ≤ i ∧ i ≤ 54) → w i j = w0 i j) ∧ w 44 7 = (e : Int) ∧ w 44 8 = 0 ∧ w 44 9 = (s.1 : Int) ∧ w 44 10 = (s.2.2.2.2.2 : Int) ∧ w 44 11 = (s.2.2.2.2.1 : Int) ∧ px_RL 51 (il.reverse.map (fun p => p.1)) w ∧ w 45 1 = ((7474 : Nat) : Int) ∧ w 44 5 = w0 44 5
theorem px_rF_of {ins : List Nat} {A : Int} {w0 w w' : fa_W} {il : rv_I} {s : rv_S} {e : Nat} (h : px_rS ins A w0 il s w) (e6 : w' 44 7 = (e : Int)) (he : ∀ i j, ¬ (47 ≤ i ∧ i ≤ 50) → ¬ (i = 44 ∧ j = 7) → w' i j = w i j) : px_rF w0 e il s w' := by
  obtain ⟨h1, ⟨a1, a2, a3, a4, a5, a6, a7⟩, h2, h3, h4, h5⟩ := h
  refine ⟨fun i j q => (he i j (by omega) (by omega)).trans (h1 i j q), e6, ?_, ?_, ?_, ?_, px_RL_of h3 (fun i j q => he i j (by omega) (by omega)), ?_, ?_⟩
  all_goals rw [he _ _ (by omega) (by omega)]
  all_goals assumption
def px_rQ (sc : Nat) (how : Int) (ins : List Nat) (A : Int) (w0 : fa_W) (K T V : Nat) (il : rv_I) (s : rv_S) (w : fa_W) (r : rv_O) : Prop := ∃ k w', k ≤ K + 302 * (r.2.1 - s.1) ∧ s.1 ≤ r.2.1 ∧ px_go sc how k w w' ∧ match r.1 with
  | .ok a => px_rS ins A w0 il r.2 w' ∧ w' 47 1 = (T : Int) ∧ w' 49 1 = ((V + 1 : Nat) : Int) ∧ (∀ j, j < T → w' 48 j = w 48 j) ∧ (∀ j, j < V → w' 50 j = w 50 j) ∧ px_rE r.2.1 a (w' 50 V)
  | .error e => px_rF w0 e.1 e.2 r.2 w'
theorem px_rQ_pre {sc : Nat} {how : Int} {ins : List Nat} {A : Int} {w0 : fa_W} {K0 K k T V : Nat} {il : rv_I} {s : rv_S} {w w1 : fa_W} {r : rv_O} (hk : k ≤ K0) (g : px_go sc how k w w1) (e1 : ∀ j, j < T → w1 48 j = w 48 j) (e2 : ∀ j, j < V → w1 50 j = w 50 j) (h : px_rQ sc how ins A w0 K T V il s w1 r) : px_rQ sc how ins A w0 (K0 + K) T V il s w r := by
  obtain ⟨m, w2, m1, m2, m3, m4⟩ := h
  refine ⟨k + m, w2, by omega, m2, px_go_tr g m3, ?_⟩
  obtain ⟨x, s'⟩ := r
  cases x with
  | ok a =>
    obtain ⟨p1, p2, p3, p4, p5, p6⟩ := m4
    exact ⟨p1, p2, p3, fun j q => (p4 j q).trans (e1 j q), fun j q => (p5 j q).trans (e2 j q), p6⟩
  | error e => exact m4
theorem px_rQ_bd {sc : Nat} {how : Int} {ins : List Nat} {A : Int} {w0 : fa_W} {K1 K2 T1 V1 T V : Nat} {il : rv_I} {s : rv_S} {w : fa_W} {r : rv_O} {f : rv_V → rv_S → rv_O} (h : px_rQ sc how ins A w0 K1 T1 V1 il s w r) (hT : T ≤ T1) (hV : V ≤ V1) (g : ∀ a s1 w1, r = (.ok a, s1) → s.1 ≤ s1.1 → px_rS ins A w0 il s1 w1 → w1 47 1 = (T1 : Int) → w1 49 1 = ((V1 + 1 : Nat) : Int) → (∀ j, j < T1 → w1 48 j = w 48 j) → (∀ j, j < V1 → w1 50 j = w 50 j) → px_rE s1.1 a (w1 50 V1) → px_rQ sc how ins A w0 K2 T V il s1 w1 (f a s1)) : px_rQ sc how ins A w0 (K1 + K2) T V il s w (rv_bd r f) := by
  obtain ⟨k, w1, m1, m2, m3, m4⟩ := h
  obtain ⟨x, s1⟩ := r
  cases x with
  | error e => exact ⟨k, w1, by dsimp only [rv_bd] at m1 ⊢; omega, m2, m3, m4⟩
  | ok a =>
    obtain ⟨p1, p2, p3, p4, p5, p6⟩ := m4
    obtain ⟨k2, w2, n1, n2, n3, n4⟩ := g a s1 w1 rfl m2 p1 p2 p3 p4 p5 p6
    show px_rQ sc how ins A w0 (K1 + K2) T V il s w (f a s1)
    generalize f a s1 = r2 at n1 n2 n4 ⊢
    obtain ⟨x2, s2⟩ := r2
    dsimp only at m1 m2 n1 n2
    refine ⟨k + k2, w2, ?_, Nat.le_trans m2 n2, px_go_tr m3 n3, ?_⟩
    · show k + k2 ≤ K1 + K2 + 302 * (s2.1 - s.1)
      omega
    · cases x2 with
      | error e => exact n4
      | ok b =>
        obtain ⟨q1, q2, q3, q4, q5, q6⟩ := n4
        exact ⟨q1, q2, q3, fun j q => (q4 j q).trans (p4 j (by omega)), fun j q => (q5 j q).trans (p5 j (by omega)), q6⟩
/-- a THING that has no parts -/
theorem px_rQ_leaf {sc o i T V : Nat} {how : Int} {ins : List Nat} {A x : Int} {w0 : fa_W} {K : Nat} {il : rv_I} {s : rv_S} {w : fa_W} {a : rv_V} (hsc : fa_rf sc 0 = o) (hS : px_rS ins A w0 il s w) (hi : i < 100) (hT : w 47 1 = ((T + 1 : Nat) : Int)) (hT2 : T + 1 ≤ 5252) (ht : w 48 T = ((i * 4 : Nat) : Int)) (hV : w 49 1 = (V : Int)) (hV2 : V < 5252) (hK : 1 ≤ K) (hg : fm_Machine_go o (i : Int) 0 (fa_st w 47 1 (T : Int)) = some (fr_add 49 x (fa_st w 47 1 (T : Int)))) (hx : px_rE s.1 a x) : px_rQ sc how ins A w0 K T V il s w (.ok a, s) := by
  obtain ⟨p1, p2, p3⟩ := px_push (r := 49) (m := 5252) (v := x) (w := fa_st w 47 1 (T : Int)) (by decide +kernel) (by decide +kernel) (by rw [fa_st_ne (by omega)]; exact hV) hV2
  have hr := px_round (ph := 0) hsc hS.2.1.2.1 hT hT2 (by rw [ht]; rfl) (by omega) hi hg (how := how)
  generalize fr_add 49 x (fa_st w 47 1 (T : Int)) = w' at *
  have old : ∀ i j, ¬ (47 ≤ i ∧ i ≤ 50) → w' i j = w i j := fun i j q => (p3 i j (by omega) (by omega)).trans (fa_st_ne (by omega))
  refine ⟨1, w', by omega, Nat.le_refl _, hr, px_rS_of hS old, ?_, p1, fun j q => ?_, fun j q => ?_, ?_⟩
  · rw [p3 _ _ (by omega) (by omega), fa_st_eq]
  · rw [p3 _ _ (by omega) (by omega), fa_st_ne (by omega)]
  · rw [p3 _ _ (by omega) (by omega), fa_st_ne (by omega)]
  · show px_rE s.1 a (w' 50 V); rw [p2]; exact hx
/-- a part comes next -/
theorem px_part1 {sc o i ph pi T : Nat} {how : Int} {ins : List Nat} {A : Int} {w0 : fa_W} {il : rv_I} {s : rv_S} {w : fa_W} (hsc : fa_rf sc 0 = o) (hS : px_rS ins A w0 il s w) (hi : i < 100) (hpi : pi < 100) (hph : ph < 3) (hT : w 47 1 = ((T + 1 : Nat) : Int)) (hT2 : T + 2 ≤ 5252) (ht : w 48 T = ((i * 4 + ph : Nat) : Int)) (hg : fm_Machine_go o (i : Int) (ph : Int) (fa_st w 47 1 (T : Int)) = some (fm_Machine_beginPart o (i : Int) (ph : Int) (fa_st w 47 1 (T : Int)))) (hp : ∀ w1 : fa_W, (∀ i j, ¬ (44 ≤ i ∧ i ≤ 54) → w1 i j = w0 i j) → fm_Program_part o (i : Int) (ph : Int) w1 = (pi : Int)) : ∃ w', px_go sc how 1 w w' ∧ px_rS ins A w0 il s w' ∧ w' 47 1 = ((T + 2 : Nat) : Int) ∧ w' 48 T = ((i * 4 + (ph + 1) : Nat) : Int) ∧ w' 48 (T + 1) = ((pi * 4 : Nat) : Int) ∧ (∀ j, j < T → w' 48 j = w 48 j) ∧ ∀ j, w' 49 j = w 49 j ∧ w' 50 j = w 50 j := by
  have hr := px_round (how := how) hsc hS.2.1.2.1 hT (by omega) ht (by omega) hi hg
  have e1 : fm_Machine_beginPart o (i : Int) (ph : Int) (fa_st w 47 1 (T : Int)) = fr_add 47 (fm_Program_part o (i : Int) (ph : Int) (fr_add 47 ((i : Int) * 4 + ((ph : Int) + 1)) (fa_st w 47 1 (T : Int))) * 4 + 0) (fr_add 47 ((i : Int) * 4 + ((ph : Int) + 1)) (fa_st w 47 1 (T : Int))) := rfl
  obtain ⟨p1, p2, p3⟩ := px_push (r := 47) (m := 5252) (n := T) (v := (i : Int) * 4 + ((ph : Int) + 1)) (w := fa_st w 47 1 (T : Int)) (by decide +kernel) (by decide +kernel) (fa_st_eq _ _ _ _) (by omega)
  generalize fr_add 47 ((i : Int) * 4 + ((ph : Int) + 1)) (fa_st w 47 1 (T : Int)) = w1 at *
  have old1 : ∀ i j, ¬ (47 ≤ i ∧ i ≤ 50) → w1 i j = w i j := fun i j q => (p3 i j (by omega) (by omega)).trans (fa_st_ne (by omega))
  rw [hp w1 (fun i j q => (old1 i j (by omega)).trans (hS.1 i j q))] at e1
  obtain ⟨q1, q2, q3⟩ := px_push (r := 47) (m := 5252) (n := T + 1) (v := (pi : Int) * 4 + 0) (w := w1) (by decide +kernel) (by decide +kernel) p1 (by omega)
  rw [e1] at hr
  generalize fr_add 47 ((pi : Int) * 4 + 0) w1 = w2 at *
  refine ⟨w2, hr, px_rS_of hS (fun i j q => (q3 i j (by omega) (by omega)).trans (old1 i j q)), q1, ?_, ?_, fun j q => ?_, fun j => ⟨?_, ?_⟩⟩
  · rw [q3 _ _ (by omega) (by omega), p2]; omega
  · rw [q2]; omega
  · rw [q3 _ _ (by omega) (by omega), p3 _ _ (by omega) (by omega), fa_st_ne (by omega)]
  · rw [q3 _ _ (by omega) (by omega), p3 _ _ (by omega) (by omega), fa_st_ne (by omega)]
  · rw [q3 _ _ (by omega) (by omega), p3 _ _ (by omega) (by omega), fa_st_ne (by omega)]
