/-! a pass of the reference's COMES -/
def pf_Y (nf ns : Nat) (fb : Nat → pt_T) (sb : pf_sT) (t : pt_T) : Prop := nf ≤ 24 ∧ ns ≤ 101 ∧ ∃ nv, nv ≤ 124 ∧ pt_tw t ∧ (∀ f, pt_tw (fb f)) ∧ pf_W nf nv ns t ∧ pf_S sb (-1) t ∧ ∀ f, f < nf → pf_W nf nv ns (fb f) ∧ pf_S sb (f : Int) (fb f)
def pf_cl (fb : Nat → pt_T) (H R : Nat → Nat → Prop) (L M : Nat → Prop) : Prop := ∀ f, L f → pf_c H R L (fb f) ∧ (∀ g, pf_k H R (fb f) g → R f g) ∧ ∀ g, pf_o (fb f) g → M g
def pf_zL (z : pf_s) (f : Nat) : Prop := z.2.2.1.testBit f = true
def pf_zM (z : pf_s) (f : Nat) : Prop := z.2.2.2.testBit f = true
def pf_ls (nf : Nat) (fb : Nat → pt_T) (L : Nat → Prop) (s : Nat) : Prop := ∃ f, f < nf ∧ L f ∧ pf_ss (fb f) s
theorem pf_pass_l {nf ns : Nat} {fb : Nat → pt_T} {sb : pf_sT} {t : pt_T} {K : fa_W → Option fa_W} (hY : pf_Y nf ns fb sb t) : ∀ (d k F fo : Nat) (z : pf_s) (w : fa_W), nf = k + d → d < F → pf_PB nf fb t w → pf_mc z fo w → pf_ok nf z → ∃ (w' : fa_W) (z' : pf_s) (fo' : Nat), fm_Mod_comesAll_l125 K F (k : Int) w = K w' ∧ pf_PB nf fb t w' ∧ pf_mc z' fo' w' ∧ pf_ch nf z fo z' fo' ∧ pf_fw (fun _ => True) w w' ∧ (∀ H R L M, pf_sd z H R L M → pf_cl fb H R L M → pf_sd z' H R L M ∧ pf_fw (pf_ls nf fb L) w w') ∧ (pf_Fi z' = pf_Fi z → ∀ f, k ≤ f → f < nf → pf_zL z f → pf_c (pf_b z.1) (pf_b z.2.1) (pf_zL z) (fb f) ∧ (∀ g, pf_k (pf_b z.1) (pf_b z.2.1) (fb f) g → pf_b z.2.1 f g) ∧ ∀ g, pf_o (fb f) g → pf_zM z g) := by
  obtain ⟨h24, h101, nv, hnv, tt, tf, Wt, St, hF⟩ := hY
  intro d
  induction d with
  | zero =>
    intro k F fo z w hk hF hP hm ok
    obtain ⟨F, rfl⟩ : ∃ G, F = G + 1 := ⟨F - 1, by omega⟩
    refine ⟨w, z, fo, ?_, hP, hm, pf_ch_refl fo ok, pf_fw_refl _ _, fun H R L M a _ => ⟨a, pf_fw_refl _ _⟩, fun _ f p q => by omega⟩
    unfold fm_Mod_comesAll_l125 fm_Mod_functions
    rw [hP.1, pb_wr (by omega), pb_wr (by omega), if_pos (by omega)]
  | succ d ih =>
    intro k F fo z w hk hF' hP hm ok
    obtain ⟨F, rfl⟩ : ∃ G, F = G + 1 := ⟨F - 1, by omega⟩
    unfold fm_Mod_comesAll_l125 fm_Mod_functions
    rw [hP.1, pb_wr (by omega), pb_wr (by omega), if_neg (by omega), hm.2.2.1, pf_hd (pf_lt24 (pf_two h24 ok.2.2.1)) (by omega)]
    have nx : ((k : Nat) : Int) + 1 = ((k + 1 : Nat) : Int) := by omega
    cases e : z.2.2.1.testBit k with
    | false =>
      rw [if_neg (by decide)]
      dsimp only [fa_let]
      rw [nx]
      obtain ⟨w', z', fo', q1, q2, q3, q4, q5, q7, q8⟩ := ih (k + 1) F fo z w (by omega) (by omega) hP hm ok
      refine ⟨w', z', fo', q1, q2, q3, q4, q5, q7, fun h f p q v => q8 h f ?_ q v⟩
      have : f ≠ k := fun ef => by rw [ef] at v; unfold pf_zL at v; rw [e] at v; cases v
      omega
    | true =>
      rw [if_pos rfl, pb_ix (k := k) (n := 24) (by omega) (by omega)]
      dsimp only [fa_let, Option.bind_some]
      obtain ⟨a, a1, a2, a3⟩ := hP.2.2 k (by omega)
      have pp := pt_sz_pos (fb k)
      rw [a2]
      obtain ⟨r1, w1, z1, fo1, e1, l1, m1, c1, f1, s1, x1⟩ := pf_looks h24 hnv h101 (fb k) (tf k) (k : Int) a 900 fo z w a3 (by omega) (by omega) (hF k (by omega)).1 (hF k (by omega)).2 hP.1 hm ok
      rw [e1]
      dsimp only [fa_bd, Option.bind_some]
      obtain ⟨fo2, t1, t2, t3⟩ := pf_moreR h24 m1 c1.1 (show k < 24 by omega) l1
      have k208 : w 208 k = w1 208 k := (f1 208 k (by omega) (by omega) (by omega)).symm
      rw [k208, t1]
      dsimp only [Option.bind_some]
      generalize hw2 : fa_st (fa_st w1 181 55 (fo2 : Int)) 208 k ((z1.2.1 k ||| r1 : Nat) : Int) = w2 at t2
      have f2 : pf_fw (fun _ => False) w1 w2 := fun i j p q r => by rw [← hw2, fa_st_ne (by omega), fa_st_ne (by omega)]
      have f12 : pf_fw (pf_ss (fb k)) w w2 := pf_fw_tr (pf_fw_of f1) f2 (fun _ q => q) (fun _ q => False.elim q)
      rw [nx]
      obtain ⟨w', z', fo', q1, q2, q3, q4, q5, q7, q8⟩ := ih (k + 1) F fo2 _ w2 (by omega) (by omega) (pf_PB_fw tt tf f12 hP) t2 t3.1
      refine ⟨w', z', fo', q1, q2, q3, pf_ch_tr c1 (pf_ch_tr t3 q4), pf_fw_tr f12 q5 (fun _ _ => trivial) (fun _ _ => trivial), fun H R L M p q => ?_, fun h => ?_⟩
      · have lk := p.2.2.1 k e
        obtain ⟨p1, p2⟩ := s1 H R L M p (q k lk).1 (q k lk).2.2
        obtain ⟨y1, y2⟩ := q7 H R L M ⟨p1.1, fun v f hb => by
          dsimp only at hb
          by_cases ev : v = k
          · rw [ev, pu_set_eq, Nat.testBit_or, Bool.or_eq_true] at hb
            rw [ev]
            exact hb.elim (p1.2.1 k f) (fun hb => (q k lk).2.1 f (p2 f hb))
          · rw [pu_set_ne _ _ ev] at hb
            exact p1.2.1 v f hb, p1.2.2⟩ q
        exact ⟨y1, pf_fw_tr f12 y2 (fun s hs => ⟨k, by omega, lk, hs⟩) (fun _ hs => hs)⟩
      · have g1 := c1.2.2.1
        have g2 := t3.2.2.1
        have g3 := q4.2.2.1
        have d1 := c1.2.2.2 (by omega)
        have d2 := t3.2.2.2 (by omega)
        obtain ⟨b1, b2, b3, b4⟩ := x1 (by omega)
        have q9 := q8 (by omega)
        have e4 : z1.2.1 k ||| r1 = z1.2.1 k := by
          have := congrFun (congrArg (fun q : pf_s => q.2.1) d2) k
          dsimp only at this
          rw [pu_set_eq] at this
          exact this
        rw [d2] at q9
        rw [d1] at q9 e4
        intro f p q v
        by_cases ef : f = k
        · rw [ef]
          exact ⟨b2, fun g hg => pf_or_sub e4 ((b1 g).mpr hg), b3⟩
        · exact q9 f (by omega) q v
