/-! the reference's COMES: pass after pass, and the last one -/
def pf_fix (fb : Nat → pt_T) (t : pt_T) (z : pf_s) : Prop := pf_c (pf_b z.1) (pf_b z.2.1) (pf_zL z) t ∧ (∀ g, pf_o t g → pf_zM z g) ∧ pf_cl fb (pf_b z.1) (pf_b z.2.1) (pf_zL z) (pf_zM z)
theorem pf_still {nf : Nat} {sb : pf_sT} {t : pt_T} {z : pf_s} {fo : Nat} {w : fa_W} {x : Option (Int × fa_W)} (h : pf_LQ nf sb t z fo w x) (hc : pf_c (pf_b z.1) (pf_b z.2.1) (pf_zL z) t) (ho : ∀ g, pf_o t g → pf_zM z g) : ∃ (r : Nat) (w' : fa_W) (fo' : Nat), x = some ((r : Int), w') ∧ r < 2 ^ nf ∧ pf_mc z fo' w' ∧ pf_fv (pf_ss t) w w' ∧ (∀ f, r.testBit f = true ↔ pf_k (pf_b z.1) (pf_b z.2.1) t f) ∧ ∀ s, pf_ss t s → pf_X z (sb s) s w' := by
  obtain ⟨r1, w1, z1, fo1, e1, l1, m1, c1, f1, s1, x1⟩ := h
  obtain ⟨p1, _⟩ := s1 _ _ _ _ (pf_self_refl z) hc ho
  have q1 := pf_self_Fi p1
  have q2 := c1.2.2.1
  have q3 := c1.2.2.2 (by omega)
  obtain ⟨b1, b2, b3, b4⟩ := x1 (by omega)
  rw [q3] at m1
  exact ⟨r1, w1, fo1, e1, l1, m1, f1, b1, b4⟩
def pf_lk (nf : Nat) (fb : Nat → pt_T) (L : Nat → Prop) (k s : Nat) : Prop := ∃ f, k ≤ f ∧ f < nf ∧ L f ∧ pf_ss (fb f) s
theorem pf_last_l {nf ns : Nat} {fb : Nat → pt_T} {sb : pf_sT} {t : pt_T} {z : pf_s} (hY : pf_Y nf ns fb sb t) (hfix : pf_fix fb t z) (ok : pf_ok nf z) : ∀ (d k F fo : Nat) (w : fa_W), nf = k + d → d < F → pf_PB nf fb t w → pf_mc z fo w → ∃ (w' : fa_W) (fo' : Nat), fm_Mod_comesAll_l193 F (k : Int) w = some w' ∧ pf_mc z fo' w' ∧ pf_fv (pf_lk nf fb (pf_zL z) k) w w' ∧ ∀ s, pf_lk nf fb (pf_zL z) k s → pf_X z (sb s) s w' := by
  obtain ⟨h24, h101, nv, hnv, tt, tf, Wt, St, hF⟩ := hY
  intro d
  induction d with
  | zero =>
    intro k F fo w hk hF hP hm
    obtain ⟨F, rfl⟩ : ∃ G, F = G + 1 := ⟨F - 1, by omega⟩
    refine ⟨w, fo, ?_, hm, pf_fv_refl _ _, fun s ⟨f, p, q, _⟩ => by omega⟩
    unfold fm_Mod_comesAll_l193 fm_Mod_functions
    rw [hP.1, pb_wr (by omega), pb_wr (by omega), if_pos (by omega)]
  | succ d ih =>
    intro k F fo w hk hF' hP hm
    obtain ⟨F, rfl⟩ : ∃ G, F = G + 1 := ⟨F - 1, by omega⟩
    unfold fm_Mod_comesAll_l193 fm_Mod_functions
    rw [hP.1, pb_wr (by omega), pb_wr (by omega), if_neg (by omega), hm.2.2.1, pf_hd (pf_lt24 (pf_two h24 ok.2.2.1)) (by omega)]
    have nx : ((k : Nat) : Int) + 1 = ((k + 1 : Nat) : Int) := by omega
    cases e : z.2.2.1.testBit k with
    | false =>
      rw [if_neg (by decide)]
      dsimp only [fa_let]
      rw [nx]
      obtain ⟨w', fo', q1, q2, q3, q4⟩ := ih (k + 1) F fo w (by omega) (by omega) hP hm
      have up : ∀ s, pf_lk nf fb (pf_zL z) k s → pf_lk nf fb (pf_zL z) (k + 1) s := fun s ⟨f, p, q, v, u⟩ => ⟨f, by
        have : f ≠ k := fun ef => by rw [ef] at v; unfold pf_zL at v; rw [e] at v; cases v
        omega, q, v, u⟩
      exact ⟨w', fo', q1, q2, pf_fv_tr (pf_fv_refl (fun _ => False) _) q3 (fun _ x => False.elim x) (fun s ⟨f, p, q⟩ => ⟨f, by omega, q⟩), fun s hs => q4 s (up s hs)⟩
    | true =>
      rw [if_pos rfl, pb_ix (k := k) (n := 24) (by omega) (by omega)]
      dsimp only [fa_let, Option.bind_some]
      obtain ⟨a, a1, a2, a3⟩ := hP.2.2 k (by omega)
      have pp := pt_sz_pos (fb k)
      rw [a2]
      have ck := hfix.2.2 k e
      obtain ⟨r1, w1, fo1, e1, l1, m1, f1, b1, b4⟩ := pf_still (pf_looks h24 hnv h101 (fb k) (tf k) (k : Int) a 900 fo z w a3 (by omega) (by omega) (hF k (by omega)).1 (hF k (by omega)).2 hP.1 hm ok) ck.1 ck.2.2
      rw [e1]
      dsimp only [fa_bd, Option.bind_some]
      rw [nx]
      obtain ⟨w', fo', q1, q2, q3, q4⟩ := ih (k + 1) F fo1 w1 (by omega) (by omega) (pf_PB_fw tt tf (pf_fw_of f1) hP) m1
      refine ⟨w', fo', q1, q2, pf_fv_tr f1 q3 (fun s hs => ⟨k, Nat.le_refl _, by omega, e, hs⟩) (fun s ⟨f, p, q⟩ => ⟨f, by omega, q⟩), fun s ⟨f, p, q, v, u⟩ => ?_⟩
      refine pf_Xs b4 q3 q4 s ?_
      by_cases ef : f = k
      · rw [ef] at u; exact Or.inl u
      · exact Or.inr ⟨f, by omega, q, v, u⟩
def pf_fz (S : Nat → Prop) (w w' : fa_W) : Prop := ∀ i j, ¬ (i = 207 ∨ i = 208) → ¬ (i = 181 ∧ 52 ≤ j ∧ j ≤ 55) → ¬ (209 ≤ i ∧ i ≤ 212 ∧ S j) → w' i j = w i j
theorem pf_fz_tr {S S' S'' : Nat → Prop} {a b c : fa_W} (h1 : pf_fz S a b) (h2 : pf_fz S' b c) (s1 : ∀ j, S j → S'' j) (s2 : ∀ j, S' j → S'' j) : pf_fz S'' a c := fun i j p q r => (h2 i j p q (fun ⟨x, y, z⟩ => r ⟨x, y, s2 j z⟩)).trans (h1 i j p q (fun ⟨x, y, z⟩ => r ⟨x, y, s1 j z⟩))
theorem pf_fz_of {S S' : Nat → Prop} {w w' : fa_W} (h : pf_fw S w w') (s : ∀ j, S j → S' j) : pf_fz S' w w' := fun i j p q r => h i j p (by omega) (fun ⟨x, y, z⟩ => r ⟨x, y, s j z⟩)
/-- what COMES leaves -/
def pf_done (nf : Nat) (fb : Nat → pt_T) (sb : pf_sT) (t : pt_T) (z : pf_s) (w' : fa_W) : Prop := pf_ok nf z ∧ pf_fix fb t z ∧ (∃ fo, pf_mc z fo w') ∧ (∃ e : Nat, w' 181 54 = (e : Int) ∧ e < 2 ^ nf ∧ ∀ f, e.testBit f = true ↔ pf_k (pf_b z.1) (pf_b z.2.1) t f) ∧ ∀ s, pf_ss t s ∨ pf_ls nf fb (pf_zL z) s → pf_X z (sb s) s w'
theorem pf_mc_54 {z : pf_s} {fo : Nat} {w : fa_W} (x : Int) (h : pf_mc z fo w) : pf_mc z fo (fa_st w 181 54 x) := by
  obtain ⟨m1, m2, m3, m4, m5⟩ := h
  exact ⟨fun v hv => (fa_st_ne (by omega)).trans (m1 v hv), fun v hv => (fa_st_ne (by omega)).trans (m2 v hv), (fa_st_ne (by omega)).trans m3, (fa_st_ne (by omega)).trans m4, (fa_st_ne (by omega)).trans m5⟩
theorem pf_PB_fz {nf : Nat} {fb : Nat → pt_T} {t : pt_T} {S : Nat → Prop} {w w' : fa_W} (tt : pt_tw t) (tf : ∀ f, pt_tw (fb f)) (hf : pf_fz S w w') (h : pf_PB nf fb t w) : pf_PB nf fb t w' := by
  obtain ⟨h1, ⟨b, b1, b2, b3⟩, h3⟩ := h
  have ob : pm_ob w w' := fun i j a b => hf i j (by omega) (by omega) (by omega)
  refine ⟨by rw [hf 181 17 (by omega) (by omega) (by omega), hf 181 18 (by omega) (by omega) (by omega)]; exact h1, ⟨b, b1, (hf 181 21 (by omega) (by omega) (by omega)).trans b2, pm_H_ob ob t tt _ _ b3⟩, fun f hl => ?_⟩
  obtain ⟨a, a1, a2, a3⟩ := h3 f hl
  exact ⟨a, a1, (ob _ _ (by omega) (by omega)).trans a2, pm_H_ob ob _ (tf f) _ _ a3⟩
theorem pf_rounds {nf ns : Nat} {fb : Nat → pt_T} {sb : pf_sT} {t : pt_T} {H R : Nat → Nat → Prop} {L M : Nat → Prop} (hY : pf_Y nf ns fb sb t) (hc : pf_c H R L t) (ho : ∀ f, pf_o t f → M f) (hcl : pf_cl fb H R L M) : ∀ (d F fo : Nat) (z : pf_s) (w : fa_W), 1 ≤ d → (fo ≠ 0 → 3602 ≤ d + pf_Fi z) → d ≤ F → pf_PB nf fb t w → pf_mc z fo w → pf_ok nf z → fo ≤ 3600 → (fo = 0 → pf_fix fb t z) → pf_sd z H R L M → ∃ (w' : fa_W) (z' : pf_s), fm_Mod_comesAll_l99 F w = some w' ∧ pf_done nf fb sb t z' w' ∧ pf_sd z' H R L M ∧ pf_fz (fun s => pf_ss t s ∨ pf_ls nf fb L s) w w' := by
  have hY' := hY
  obtain ⟨h24, h101, nv, hnv, tt, tf, Wt, St, hF⟩ := hY'
  obtain ⟨FU, hFU⟩ : ∃ F, F = fa_FU := ⟨_, rfl⟩
  have hF2 : 1000 < FU := by rw [hFU]; unfold fa_FU; omega
  intro d
  induction d with
  | zero => intro F fo z w h1; omega
  | succ d ih =>
    intro F fo z w h1 h2 h3 hP hm ok hfo hfix hsd
    obtain ⟨F, rfl⟩ : ∃ G, F = G + 1 := ⟨F - 1, by omega⟩
    unfold fm_Mod_comesAll_l99
    rw [← hFU, hm.2.2.2.2, pb_wr (by omega)]
    obtain ⟨b, b1, b2, b3⟩ := hP.2.1
    have pp := pt_sz_pos t
    by_cases e0 : fo = 0
    · have hx := hfix e0
      rw [if_pos (by omega), b2]
      obtain ⟨r1, w1, fo1, e1, l1, m1, f1, k1, k4⟩ := pf_still (pf_looks h24 hnv h101 t tt (-1) b 900 fo z w b3 (by omega) (by omega) Wt St hP.1 hm ok) hx.1 hx.2.1
      rw [e1]
      dsimp only [fa_bd, Option.bind_some, fa_let]
      have f2 : pf_fz (fun s => pf_ss t s) w (fa_st w1 181 54 (r1 : Int)) := fun i j p q r => by
        rw [fa_st_ne (by omega)]
        exact f1 i j (by omega) (by omega) r
      obtain ⟨w', fo', q1, q2, q3, q4⟩ := pf_last_l hY hx ok nf 0 FU fo1 _ (by omega) (by omega) (pf_PB_fz tt tf f2 hP) (pf_mc_54 (r1 : Int) m1)
      refine ⟨w', z, q1, ⟨ok, hx, ⟨fo', q2⟩, ⟨r1, ?_, l1, k1⟩, fun s hs => ?_⟩, hsd, pf_fz_tr f2 (pf_fz_of (pf_fw_of q3) (fun _ h => h)) (fun _ h => Or.inl h) (fun s ⟨f, _, p, q, v⟩ => Or.inr ⟨f, p, hsd.2.2.1 f q, v⟩)⟩
      · rw [q3 181 54 (by omega) (by omega) (by omega), fa_st_eq]
      · refine pf_Xs (A := pf_ss t) (fun s h => pf_X_fr (fun i p q => fa_st_ne (by omega)) (k4 s h)) q3 q4 s ?_
        exact hs.elim Or.inl (fun ⟨f, p, q, v⟩ => Or.inr ⟨f, Nat.zero_le _, p, q, v⟩)
    · rw [if_neg (by omega)]
      dsimp only [fa_let]
      have m0 : pf_mc z 0 (fa_st w 181 55 0) := by
        obtain ⟨m1, m2, m3, m4, m5⟩ := hm
        exact ⟨fun v hv => (fa_st_ne (by omega)).trans (m1 v hv), fun v hv => (fa_st_ne (by omega)).trans (m2 v hv), (fa_st_ne (by omega)).trans m3, (fa_st_ne (by omega)).trans m4, fa_st_eq _ _ _ _⟩
      have f0 : pf_fz (fun _ => False) w (fa_st w 181 55 0) := fun i j p q r => fa_st_ne (by omega)
      generalize fa_st w 181 55 0 = w0 at m0 f0
      have P0 := pf_PB_fz tt tf f0 hP
      rw [f0 181 21 (by omega) (by omega) (by omega), b2]
      obtain ⟨b', b1', b2', b3'⟩ := P0.2.1
      have eb : b + pt_sz t - 1 = b' + pt_sz t - 1 := by
        rw [f0 181 21 (by omega) (by omega) (by omega), b2] at b2'
        omega
      rw [eb]
      obtain ⟨r1, w1, z1, fo1, e1, l1, m1, c1, f1, s1, x1⟩ := pf_looks (sb := sb) h24 hnv h101 t tt (-1) b' 900 0 z w0 b3' (by omega) (by omega) Wt St P0.1 m0 ok
      rw [e1]
      dsimp only [fa_bd, Option.bind_some]
      have f2 : pf_fz (pf_ss t) w0 (fa_st w1 181 54 (r1 : Int)) := fun i j p q r => by
        rw [fa_st_ne (by omega)]
        exact f1 i j (by omega) (by omega) r
      have m2 := pf_mc_54 (r1 : Int) m1
      generalize fa_st w1 181 54 (r1 : Int) = w2 at f2 m2
      obtain ⟨sd1, _⟩ := s1 H R L M hsd hc ho
      obtain ⟨w3, z3, fo3, q1, q2, q3, q4, q5, q7, q8⟩ := pf_pass_l (K := fun w9 => fm_Mod_comesAll_l99 F w9) hY nf 0 FU fo1 z1 w2 (by omega) (by omega) (pf_PB_fz tt tf f2 P0) m2 c1.1
      obtain ⟨sd3, f3⟩ := q7 H R L M sd1 hcl
      have ct := pf_ch_tr c1 q4
      have lim := pf_Fi_le z3
      have g0 := ct.2.1
      obtain ⟨w', z', y1, y2, y3, y4⟩ := ih F fo3 z3 w3 (by omega) (fun n => by omega) (by omega) q2 q3 q4.1 (by omega) (fun e3 => by
        have g1 := c1.2.2.1
        have g2 := q4.2.2.1
        have d1 := c1.2.2.2 (by omega)
        have d2 := q4.2.2.2 (by omega)
        obtain ⟨a1, a2, a3, a4⟩ := x1 (by omega)
        have q9 := q8 (by omega)
        rw [d2]
        rw [d1] at q9 ⊢
        exact ⟨a2, a3, fun f hf => q9 f (Nat.zero_le _) (pf_tb_lt ok.2.2.1 hf) hf⟩) sd3
      refine ⟨w', z', q1.trans y1, y2, y3, ?_⟩
      exact pf_fz_tr f0 (pf_fz_tr f2 (pf_fz_tr (pf_fz_of f3 (fun _ h => h)) y4 (fun _ h => Or.inr h) (fun _ h => h)) (fun _ h => Or.inl h) (fun _ h => h)) (fun _ h => False.elim h) (fun _ h => h)
