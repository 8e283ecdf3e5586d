/-! a FUNCTION is entered, by the reference -/
theorem pm_enter {how : Int} {nf nv f V c cf : Nat} {hb : Nat → Int} {w0 w : fa_W} {il : rv_I} {s : rv_S} {a b : rv_V} (hS : pm_rS hb w0 il s w) (hV : w 181 86 = ((V + 2 : Nat) : Int)) (hV2 : V + 2 < 55000) (hn : s.1 < 100) (hq : il.length ≤ s.1) (hj : rv_j il ≤ s.1) (hmo : s.2.2.2.2.2 ≤ s.1) (hen : s.2.2.2.2.1 < 2 ^ 24) (hf : f < 24) (ea : a.2.1 = (f : Int)) (vb : w 226 (V + 1) = b.1 ∧ w 227 (V + 1) = b.2.1 ∧ w 228 (V + 1) = b.2.2) (h124 : nv ≤ 124) (hsv : ∀ i v z, s.2.1 i v = some z → i ≤ s.1 ∧ v < nv) (hup : ∀ v z, (rv_nw s f b a.2.2 il.length).2.1 (s.1 + 1) v = some z → v ≠ f → hb v ≠ (f : Int)) (h223 : w0 223 f = (cf : Int)) (hc : c < 499) : ∃ w', (∀ F : Nat, fm_Mod_runs_j350 how (fun x2 x3 w9 => fm_Mod_runs_l57 how F x2 x3 w9) (rv_j il : Int) ((c : Int) + 1) a.2.1 a.2.2 w = fm_Mod_runs_l57 how F ((s.1 + 1 : Nat) : Int) (cf : Int) w') ∧ pm_rS hb w0 ((f, s.1 + 1) :: il) (rv_nw s f b a.2.2 il.length) w' ∧ w' 181 86 = (V : Int) ∧ (∀ j, w' 226 j = w 226 j ∧ w' 227 j = w 227 j ∧ w' 228 j = w 228 j) ∧ (∀ j, j < il.length → w' 234 j = w 234 j ∧ w' 235 j = w 235 j) ∧ w' 234 il.length = ((c + 1 : Nat) : Int) ∧ w' 235 il.length = (rv_j il : Int) := by
  obtain ⟨o, ⟨a1, a2, a3, a4, a5, a6, a7⟩, h2, h3, h4⟩ := hS
  obtain ⟨w1, hw1⟩ : ∃ w1, w1 = fa_st (fa_st w 181 89 ((s.1 : Int) + 1)) 181 91 ((s.2.2.2.2.1 ||| 2 ^ f : Nat) : Int) := ⟨_, rfl⟩
  have w1o : ∀ i j, ¬ (i = 181 ∧ (j = 89 ∨ j = 91)) → w1 i j = w i j := fun i j q => by rw [hw1, fa_st_ne (by omega), fa_st_ne (by omega)]
  have w189 : w1 181 89 = ((s.1 + 1 : Nat) : Int) := by rw [hw1, fa_st_ne (by omega), fa_st_eq]; rfl
  have w191 : w1 181 91 = ((s.2.2.2.2.1 ||| 2 ^ f : Nat) : Int) := by rw [hw1, fa_st_eq]
  have ior : fa_ior (fa_st w 181 89 ((s.1 : Int) + 1) 181 91) (fa_ishl 1 (f : Int)) = ((s.2.2.2.2.1 ||| 2 ^ f : Nat) : Int) := by
    have p := Nat.pow_lt_pow_right (a := 2) (by omega) hf
    have e1 : fa_ishl 1 (f : Int) = ((2 ^ f : Nat) : Int) := by
      have := pb_shl (a := 1) (k := f) (by omega) (by rw [Nat.one_shiftLeft]; omega) (by omega)
      rw [Nat.one_shiftLeft] at this
      exact this
    rw [fa_st_ne (by omega), a5, e1, pb_or (by omega) (by omega)]
  obtain ⟨w2, hw2⟩ : ∃ w2, w2 = fa_st (fa_st (fa_st (fa_st w1 234 il.length ((c : Int) + 1)) 235 il.length (rv_j il : Int)) 236 il.length (f : Int)) 181 88 ((il.length : Int) + 1) := ⟨_, rfl⟩
  have w2o : ∀ i j, ¬ ((i = 234 ∨ i = 235 ∨ i = 236) ∧ j = il.length) → ¬ (i = 181 ∧ j = 88) → w2 i j = w1 i j := fun i j q q2 => by rw [hw2, fa_st_ne q2, fa_st_ne (by omega), fa_st_ne (by omega), fa_st_ne (by omega)]
  have w288 : w2 181 88 = ((il.length + 1 : Nat) : Int) := by rw [hw2, fa_st_eq]; rfl
  have w2q : w2 234 il.length = ((c + 1 : Nat) : Int) ∧ w2 235 il.length = (rv_j il : Int) ∧ w2 236 il.length = (f : Int) := by
    rw [hw2]
    refine ⟨?_, ?_, ?_⟩
    · rw [fa_st_ne (by omega), fa_st_ne (by omega), fa_st_ne (by omega), fa_st_eq]; rfl
    · rw [fa_st_ne (by omega), fa_st_ne (by omega), fa_st_eq]
    · rw [fa_st_ne (by omega), fa_st_eq]
  obtain ⟨w3, hw3⟩ : ∃ w3, w3 = fa_st w2 181 90 ((max s.2.2.2.2.2 (il.length + 1) : Nat) : Int) := ⟨_, rfl⟩
  have w3o : ∀ i j, ¬ (i = 181 ∧ j = 90) → w3 i j = w2 i j := fun i j q => by rw [hw3, fa_st_ne q]
  have w390 : w3 181 90 = ((max s.2.2.2.2.2 (il.length + 1) : Nat) : Int) := by rw [hw3, fa_st_eq]
  obtain ⟨w4, f1, f2, f3, f4, f5⟩ := pm_frame (n := s.1 + 1) (w := w3) (by rw [w3o _ _ (by omega), w2o _ _ (by omega) (by omega), w1o _ _ (by omega)]; exact a1) (by omega) (f : Int) a.2.2
  obtain ⟨w5, g1, g2, g3, g4, g5, g6⟩ := pm_holdsIn (V := V + 1) (j := s.1 + 1) (v := f) (w := w4) (by rw [f5 _ _ (by omega) (by omega), w3o _ _ (by omega), w2o _ _ (by omega) (by omega), w1o _ _ (by omega)]; exact hV) (by omega) (by omega)
  have w4v : ∀ i j, 226 ≤ i → i ≤ 231 → w4 i j = w i j := fun i j p q => by rw [f5 _ _ (by omega) (by omega), w3o _ _ (by omega), w2o _ _ (by omega) (by omega), w1o _ _ (by omega)]
  obtain ⟨w6, hw6⟩ : ∃ w6, w6 = fa_st w5 181 86 (V : Int) := ⟨_, rfl⟩
  have w6o : ∀ i j, ¬ (i = 181 ∧ j = 86) → w6 i j = w5 i j := fun i j q => by rw [hw6, fa_st_ne q]
  have big : ∀ i j, ¬ (226 ≤ i ∧ i ≤ 236) → ¬ (i = 181 ∧ 86 ≤ j ∧ j ≤ 93) → w6 i j = w0 i j := fun i j p q => by
    rw [w6o _ _ (by omega), g6 _ _ (by omega) (by omega), f5 _ _ (by omega) (by omega), w3o _ _ (by omega), w2o _ _ (by omega) (by omega), w1o _ _ (by omega)]
    exact o i j p q
  have dn : ∀ i j, ¬ (i = 181 ∧ (j = 86 ∨ j = 87 ∨ j = 88 ∨ j = 89 ∨ j = 90 ∨ j = 91)) → ¬ ((i = 234 ∨ i = 235 ∨ i = 236) ∧ j = il.length) → ¬ ((i = 232 ∨ i = 233) ∧ j = s.1 + 1) → ¬ ((i = 229 ∨ i = 230 ∨ i = 231) ∧ j = 124 * (s.1 + 1) + f) → w6 i j = w i j := fun i j p1 p2 p3 p4 => by
    rw [w6o _ _ (by omega), g6 _ _ p4 (by omega), f5 _ _ p3 (by omega), w3o _ _ (by omega), w2o _ _ p2 (by omega), w1o _ _ (by omega)]
  have hq6 : ∀ i j, i = 234 ∨ i = 235 ∨ i = 236 → w6 i j = w2 i j := fun i j p => by
    rw [w6o _ _ (by omega), g6 _ _ (by omega) (by omega), f5 _ _ (by omega) (by omega), w3o _ _ (by omega)]
  refine ⟨w6, fun F => ?_, ⟨big, ⟨?_, ?_, ?_, ?_, ?_, ?_, ?_⟩, fun i hi => ?_, fun i x q => ?_, fun k v z q q2 => ?_⟩, by rw [hw6, fa_st_eq], fun j => ⟨?_, ?_, ?_⟩, fun j hj => ⟨?_, ?_⟩, ?_, ?_⟩
  · unfold fm_Mod_runs_j350
    rw [a6, if_pos (by decide), a3, pf_let_eq, ea, ior, pf_let_eq, ← hw1, w1o 181 88 (by omega), a2, pb_ix (show il.length < 110 by omega) (by omega), Option.bind_some, pf_let_eq, fa_st_ne (by omega), w1o 181 88 (by omega), a2, pb_ix (show il.length < 110 by omega) (by omega), Option.bind_some, pf_let_eq, fa_st_ne (by omega), fa_st_ne (by omega), w1o 181 88 (by omega), a2, pb_ix (show il.length < 110 by omega) (by omega), Option.bind_some, pf_let_eq, fa_st_ne (by omega), fa_st_ne (by omega), fa_st_ne (by omega), w1o 181 88 (by omega), a2, pf_let_eq, ← hw2, w288, w2o 181 90 (by omega) (by omega), w1o 181 90 (by omega), a4, pb_wr (by omega), pb_wr (by omega)]
    have tail : ∀ x : Int, x = ((max s.2.2.2.2.2 (il.length + 1) : Nat) : Int) → fm_Mod_runs_j448 how (fun x2 x3 w9 => fm_Mod_runs_l57 how F x2 x3 w9) (f : Int) a.2.2 x w2 = fm_Mod_runs_l57 how F ((s.1 + 1 : Nat) : Int) (cf : Int) w6 := fun x hx => by
      unfold fm_Mod_runs_j448
      rw [hx, pf_let_eq, ← hw3, f1, pf_bd_eq, g1, Option.bind_some, g5, pf_let_eq, show ((V + 1 : Nat) : Int) - 1 = (V : Int) by omega, ← hw6, pb_ix (show f < 25 by omega) (by omega), Option.bind_some, big 223 f (by omega) (by omega), h223]
      rfl
    by_cases z : il.length + 1 ≤ s.2.2.2.2.2
    · rw [if_pos (by omega)]
      exact tail _ (by rw [Nat.max_eq_left z])
    · rw [if_neg (by omega)]
      exact tail _ (by rw [Nat.max_eq_right (by omega)])
  · show w6 181 87 = ((s.1 + 1 + 1 : Nat) : Int)
    rw [w6o _ _ (by omega), g6 _ _ (by omega) (by omega), f4]
  · rw [w6o _ _ (by omega), g6 _ _ (by omega) (by omega), f5 _ _ (by omega) (by omega), w3o _ _ (by omega), w288, List.length_cons]
  · show w6 181 89 = ((s.1 + 1 : Nat) : Int)
    rw [w6o _ _ (by omega), g6 _ _ (by omega) (by omega), f5 _ _ (by omega) (by omega), w3o _ _ (by omega), w2o _ _ (by omega) (by omega), w189]
  · show w6 181 90 = ((max s.2.2.2.2.2 (il.length + 1) : Nat) : Int)
    rw [w6o _ _ (by omega), g6 _ _ (by omega) (by omega), f5 _ _ (by omega) (by omega), w390]
  · show w6 181 91 = ((s.2.2.2.2.1 ||| 2 ^ f : Nat) : Int)
    rw [w6o _ _ (by omega), g6 _ _ (by omega) (by omega), f5 _ _ (by omega) (by omega), w3o _ _ (by omega), w2o _ _ (by omega) (by omega), w191]
  · rw [dn _ _ (by omega) (by omega) (by omega) (by omega)]; exact a6
  · rw [dn _ _ (by omega) (by omega) (by omega) (by omega)]; exact a7
  · change i ≤ s.1 + 1 at hi
    show w6 232 i = (if i = s.1 + 1 then (f : Int) else s.2.2.1 i) ∧ w6 233 i = (if i = s.1 + 1 then a.2.2 else s.2.2.2.1 i)
    by_cases z : i = s.1 + 1
    · subst z
      rw [if_pos rfl, if_pos rfl, w6o _ _ (by omega), g6 _ _ (by omega) (by omega), w6o _ _ (by omega), g6 _ _ (by omega) (by omega)]
      exact ⟨f2, f3⟩
    · rw [if_neg z, if_neg z, dn _ _ (by omega) (by omega) (by omega) (by omega), dn _ _ (by omega) (by omega) (by omega) (by omega)]
      exact h2 i (by omega)
  · rw [List.reverse_cons, List.map_append] at q
    by_cases z : i < il.length
    · rw [List.getElem?_append_left (by rw [List.length_map, List.length_reverse]; exact z)] at q
      rw [dn _ _ (by omega) (by omega) (by omega) (by omega)]
      exact h3 i x q
    · rw [List.getElem?_append_right (by rw [List.length_map, List.length_reverse]; omega), List.length_map, List.length_reverse] at q
      have z2 : i = il.length := by
        cases zz : i - il.length with
        | zero => omega
        | succ y => rw [zz] at q; cases q
      subst z2
      rw [Nat.sub_self] at q
      cases q
      rw [hq6 _ _ (by omega)]
      exact w2q.2.2
  · change (if k = s.1 + 1 then (f : Int) else s.2.2.1 k) = hb v at q2
    by_cases zk : k = s.1 + 1
    · subst zk
      rw [if_pos rfl] at q2
      have zv : v = f := by
        by_cases zv : v = f
        · exact zv
        · exact (hup v z q zv q2.symm).elim
      subst zv
      change (if s.1 + 1 = s.1 + 1 then (if v = v then some b else _) else _) = some z at q
      rw [if_pos rfl, if_pos rfl] at q
      cases q
      rw [w6o _ _ (by omega), w6o _ _ (by omega), w6o _ _ (by omega), g2, g3, g4, w4v _ _ (by omega) (by omega), w4v _ _ (by omega) (by omega), w4v _ _ (by omega) (by omega)]
      exact vb
    · change (if k = s.1 + 1 then _ else s.2.1 k v) = some z at q
      rw [if_neg zk] at q q2
      have := hsv k v z q
      rw [dn _ _ (by omega) (by omega) (by omega) (by omega), dn _ _ (by omega) (by omega) (by omega) (by omega), dn _ _ (by omega) (by omega) (by omega) (by omega)]
      exact h4 k v z q q2
  · exact dn _ _ (by omega) (by omega) (by omega) (by omega)
  · exact dn _ _ (by omega) (by omega) (by omega) (by omega)
  · exact dn _ _ (by omega) (by omega) (by omega) (by omega)
  · exact dn _ _ (by omega) (by omega) (by omega) (by omega)
  · exact dn _ _ (by omega) (by omega) (by omega) (by omega)
  · rw [hq6 _ _ (by omega)]; exact w2q.1
  · rw [hq6 _ _ (by omega)]; exact w2q.2.1
/-- a FUNCTION is left -/
theorem pm_leave {how : Int} {q c n1 c1 : Nat} {w : fa_W} {now : Nat} (h92 : w 181 92 = -1) (hc : c < 500) (h1 : w 221 c = 11) (h88 : w 181 88 = ((q + 1 : Nat) : Int)) (hq : q < 110) (e1 : w 234 q = (c1 : Int)) (e2 : w 235 q = (n1 : Int)) : pm_go how 1 now c w n1 c1 (fa_st w 181 88 (q : Int)) := fun F => by
  conv => lhs; unfold fm_Mod_runs_l57
  rw [h92, if_pos (by decide), pb_ix hc (by omega), Option.bind_some, pf_let_eq, Option.bind_some, h1, pf_let_eq, pf_let_eq, if_neg (by decide), if_neg (by decide), if_neg (by decide), if_neg (by decide), if_neg (by decide), if_neg (by decide), if_neg (by decide), if_neg (by decide), if_neg (by decide), if_neg (by decide), h88, pb_wr (by omega), if_neg (by omega), show ((q + 1 : Nat) : Int) - 1 = (q : Int) by omega, pf_let_eq, fa_st_eq, pb_ix hq (by omega), Option.bind_some, fa_st_ne (by omega), e1, pf_let_eq, Option.bind_some, fa_st_ne (by omega), e2, pf_let_eq]
