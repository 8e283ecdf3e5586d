/-! copying: GLOBALS -/
def pe_dz (M CL : Nat → Bool) : Nat → Nat
  | 0 => 0
  | k + 1 => pe_dz M CL k + (if M k = true ∧ CL k = false then 1 else 0)
theorem pe_dz_mono (M CL : Nat → Bool) : ∀ {a b : Nat}, a ≤ b → pe_dz M CL a ≤ pe_dz M CL b := by
  intro a b h
  induction b with
  | zero => rw [show a = 0 by omega]; exact Nat.le_refl _
  | succ b ih =>
    by_cases z : a = b + 1
    · rw [z]; exact Nat.le_refl _
    · have := ih (by omega)
      show _ ≤ pe_dz M CL b + _
      omega
def pe_fg (o n0 R : Nat) (w w' : fa_W) : Prop := ∀ x y, ¬ (x = o ∧ y = 13) → x ≠ o + 17 → x ≠ o + 18 → ¬ (x = o + 20 ∧ y < R) → ¬ ((x = o + 1 ∨ x = o + 3 ∨ x = o + 5 ∨ x = o + 7 ∨ x = o + 9) ∧ y = 1) → ¬ ((x = o + 2 ∨ x = o + 4 ∨ x = o + 6 ∨ x = o + 8) ∧ n0 ≤ y) → ¬ (x = o + 10 ∧ 3 * n0 ≤ y) → w' x y = w x y
/-- the GLOBALS that stand there already -/
def pe_GG (o oP n0 : Nat) (M CL : Nat → Bool) (w2 : fa_W) (k : Nat) (w : fa_W) : Prop := ∀ g, g < k → M g = true → w (o + 18) (pc_rk M g) = w2 (oP + 18) g ∧ (CL g = true → ∀ j : Nat, w2 (oP + 20) g = (j : Int) → w (o + 20) (pc_rk M g) = w2 (o + 24) j) ∧ (CL g = false → w (o + 20) (pc_rk M g) = ((n0 + pe_dz M CL g : Nat) : Int) ∧ px_N o w (n0 + pe_dz M CL g) 4 0 ((pc_rk M g : Nat) : Int) (n0 + pe_dz M CL g) (-1) (-1) (-1))
set_option maxHeartbeats 4000000 in
theorem pe_l3 (a : Nat) : 3 * a < 3 * a + 3 := by omega
theorem pe_l31 (a : Nat) : 3 * a + 1 < 3 * a + 3 := by omega
theorem pe_l32 (a : Nat) : 3 * a + 2 < 3 * a + 3 := by omega
theorem pe_ub {o rk n0 dg dk : Nat} {v : Int} {w wb wc : fa_W} (hd : dg < dk) (fc : ∀ x y, ¬ ((x = o + 1 ∨ x = o + 3 ∨ x = o + 5 ∨ x = o + 7 ∨ x = o + 9) ∧ y = 1) → ¬ ((x = o + 2 ∨ x = o + 4 ∨ x = o + 6 ∨ x = o + 8) ∧ y = n0 + dk) → ¬ (x = o + 10 ∧ 3 * (n0 + dk) ≤ y) → wc x y = wb x y) (fb : ∀ x y, ¬ (x = o ∧ y = 13) → x ≠ o + 17 → x ≠ o + 18 → wb x y = w x y) : ∀ x y, ((x = o + 2 ∨ x = o + 4 ∨ x = o + 6 ∨ x = o + 8) ∧ y = n0 + dg) ∨ (x = o + 10 ∧ y < 3 * (n0 + dg) + 3) → fa_st wc (o + 20) rk v x y = w x y := fun x y h => (fa_st_ne (by omega)).trans ((fc x y (by omega) (by omega) (by omega)).trans (fb x y (by omega) (by omega) (by omega)))
set_option maxHeartbeats 4000000 in
theorem pe_cg_l {o oP nd n0 G : Nat} {M CL : Nat → Bool} {cd : Int} {w2 : fa_W} (hs : pe_sep o oP) (hk : pe_kp CL cd) (hG : G ≤ 6) (h100 : n0 + pe_dz M CL G ≤ 100) (n100 : nd ≤ 100) (g13 : w2 oP 13 = (G : Int)) (g17 : w2 (oP + 17) 1 = (G : Int)) (g19 : w2 (oP + 19) 1 = ((24 : Nat) : Int)) (grt : ∀ g, g < G → ∃ j : Nat, w2 (oP + 20) g = (j : Int) ∧ j < nd) (h21 : w2 (o + 21) 1 = ((24 : Nat) : Int)) (h22 : ∀ f, f < 24 → w2 (o + 22) f = if M f = true then ((pc_rk M f : Nat) : Int) else -1) (h23 : w2 (o + 23) 1 = (nd : Int)) : ∀ (d k F : Nat) (w : fa_W), G = k + d → d < F → pe_fg o n0 (pc_rk M G) w2 w → px_sze o (n0 + pe_dz M CL k) w → w (o + 17) 1 = ((pc_rk M k : Nat) : Int) → w o 13 = ((pc_rk M k : Nat) : Int) → pe_GG o oP n0 M CL w2 k w → ∃ w', fm_Program_copyGlobals_l2 o oP cd F (k : Int) w = some w' ∧ pe_fg o n0 (pc_rk M G) w2 w' ∧ px_sze o (n0 + pe_dz M CL G) w' ∧ w' (o + 17) 1 = ((pc_rk M G : Nat) : Int) ∧ w' o 13 = ((pc_rk M G : Nat) : Int) ∧ pe_GG o oP n0 M CL w2 G w' := by
  obtain ⟨he, ho, hp, hd⟩ := hs
  obtain ⟨r8, s8, m8⟩ := px_po_r8 ho
  obtain ⟨r9, s9, m9⟩ := px_po_r9 ho
  obtain ⟨r10, s10, m10⟩ := px_po_r10 ho
  obtain ⟨r11, s11, m11⟩ := px_po_r11 ho
  obtain ⟨t8, u8, v8⟩ := px_po_r8 hp
  obtain ⟨t9, u9, v9⟩ := px_po_r9 hp
  clear ho hp
  intro d
  induction d with
  | zero =>
    intro k F w hk' hF hw hz h17 h13 hGG
    obtain ⟨F, rfl⟩ : ∃ H, F = H + 1 := ⟨F - 1, by omega⟩
    have ek : k = G := by omega
    rw [ek] at hz h17 h13 hGG
    refine ⟨w, ?_, hw, hz, h17, h13, hGG⟩
    unfold fm_Program_copyGlobals_l2
    rw [hw oP 13 (by omega) (by omega) (by omega) (by omega) (by omega) (by omega) (by omega), g13, pb_wr (by omega), pb_wr (by omega), if_pos (by omega)]
  | succ d ih =>
    intro k F w hk' hF hw hz h17 h13 hGG
    obtain ⟨F, rfl⟩ : ∃ H, F = H + 1 := ⟨F - 1, by omega⟩
    have nx : ((k : Nat) : Int) + 1 = ((k + 1 : Nat) : Int) := by omega
    have fo : ∀ x y, (x < o ∨ o + 20 < x) → w x y = w2 x y := fun x y h => hw x y (by omega) (by omega) (by omega) (by omega) (by omega) (by omega) (by omega)
    have e22 : fr_at (o + 21) (k : Int) w = if M k = true then ((pc_rk M k : Nat) : Int) else -1 := by
      rw [pb_at ((fo _ _ (by omega)).trans h21) (by omega) (by rw [m10]; exact Nat.le_refl _), s10, show o + 21 + 1 = o + 22 by omega, fo _ _ (by omega), h22 k (by omega)]
    have lr := pc_rk_le M k
    unfold fm_Program_copyGlobals_l2
    rw [fo oP 13 (by omega), g13, pb_wr (by omega), pb_wr (by omega), if_neg (by omega), r10, e22, pf_let_eq]
    by_cases c1 : M k = true
    · have rkt := pc_rk_t c1
      have rlt := pc_rk_lt c1 (show k < G by omega)
      have e18 : fr_at (oP + 17) (k : Int) w = w2 (oP + 18) k := by
        rw [pb_at ((fo _ _ (by omega)).trans g17) (by omega) (by rw [v8]; omega), u8, show oP + 17 + 1 = oP + 18 by omega, fo _ _ (by omega)]
      have ad := px_ad1 (v := w2 (oP + 18) k) s8 h17 (by rw [m8]; omega)
      rw [if_pos c1, pb_wr (by omega), if_neg (by omega), r8, t8, e18]
      generalize fr_add (o + 17) (w2 (oP + 18) k) w = wa at ad
      obtain ⟨a1, a2, a3⟩ := ad
      have b13 : wa o 13 = ((pc_rk M k : Nat) : Int) := (a3 _ _ (by omega) (by omega)).trans h13
      rw [pf_let_eq, b13, show ((pc_rk M k : Nat) : Int) + 1 = ((pc_rk M k + 1 : Nat) : Int) from rfl, pf_let_eq, hk k _ (by omega)]
      -- the world with the name and the count
      have fb : ∀ x y, ¬ (x = o ∧ y = 13) → x ≠ o + 17 → x ≠ o + 18 → fa_st wa o 13 ((pc_rk M k + 1 : Nat) : Int) x y = w x y := fun x y p q r => (fa_st_ne (by omega)).trans (a3 x y (by omega) (by omega))
      have c17 : fa_st wa o 13 ((pc_rk M k + 1 : Nat) : Int) (o + 17) 1 = ((pc_rk M k + 1 : Nat) : Int) := (fa_st_ne (by omega)).trans a1
      have c13 : fa_st wa o 13 ((pc_rk M k + 1 : Nat) : Int) o 13 = ((pc_rk M k + 1 : Nat) : Int) := fa_st_eq _ _ _ _
      have c18 : fa_st wa o 13 ((pc_rk M k + 1 : Nat) : Int) (o + 18) (pc_rk M k) = w2 (oP + 18) k := (fa_st_ne (by omega)).trans a2
      have o18 : ∀ y, y ≠ pc_rk M k → fa_st wa o 13 ((pc_rk M k + 1 : Nat) : Int) (o + 18) y = w (o + 18) y := fun y hy => (fa_st_ne (by omega)).trans (a3 _ _ (by omega) (by omega))
      generalize fa_st wa o 13 ((pc_rk M k + 1 : Nat) : Int) = wb at fb c17 c13 c18 o18
      have zb : px_sze o (n0 + pe_dz M CL k) wb := by
        obtain ⟨z1, z2, z3, z4, z5, z6, z7, z8, z9⟩ := hz
        exact ⟨(fb _ _ (by omega) (by omega) (by omega)).trans z1, (fb _ _ (by omega) (by omega) (by omega)).trans z2, (fb _ _ (by omega) (by omega) (by omega)).trans z3, (fb _ _ (by omega) (by omega) (by omega)).trans z4, (fb _ _ (by omega) (by omega) (by omega)).trans z5, (fb _ _ (by omega) (by omega) (by omega)).trans z6, (fb _ _ (by omega) (by omega) (by omega)).trans z7, (fb _ _ (by omega) (by omega) (by omega)).trans z8, (fb _ _ (by omega) (by omega) (by omega)).trans z9⟩
      by_cases c2 : CL k = true
      · obtain ⟨j, j1, j2⟩ := grt k (by omega)
        have e9 : fr_at (oP + 19) (k : Int) wb = (j : Int) := by
          rw [pb_at ((fb _ _ (by omega) (by omega) (by omega)).trans ((fo _ _ (by omega)).trans g19)) (by omega) (by rw [v9]; exact Nat.le_refl _), u9, show oP + 19 + 1 = oP + 20 by omega, fb _ _ (by omega) (by omega) (by omega), fo _ _ (by omega), j1]
        have e11 : fr_at (o + 23) (j : Int) wb = w2 (o + 24) j := by
          rw [pb_at ((fb _ _ (by omega) (by omega) (by omega)).trans ((fo _ _ (by omega)).trans h23)) j2 (by rw [m11]; exact n100), s11, show o + 23 + 1 = o + 24 by omega, fb _ _ (by omega) (by omega) (by omega), fo _ _ (by omega)]
        have ez : pe_dz M CL (k + 1) = pe_dz M CL k := by
          show pe_dz M CL k + (if M k = true ∧ CL k = false then 1 else 0) = _
          rw [if_neg (fun q => by rw [c2] at q; cases q.2)]; rfl
        unfold fm_Program_copyGlobals_j94
        rw [if_pos c2, t9, e9, r11, e11, r9, pb_set zb.2.2.2.2.2.2.2.2 (by omega) (by rw [m9]; exact Nat.le_refl _), s9, show o + 19 + 1 = o + 20 by omega, pf_let_eq, pf_let_eq, nx]
        refine ih (k + 1) F _ (by omega) (by omega) (fun x y p q r s t' u v => ?_) ?_ ?_ ?_ (fun g hg hm => ?_)
        · rw [fa_st_ne (fun z => s ⟨z.1, by rw [z.2]; exact rlt⟩), fb x y p q r]; exact hw x y p q r s t' u v
        · rw [ez]
          obtain ⟨z1, z2, z3, z4, z5, z6, z7, z8, z9⟩ := zb
          exact ⟨(fa_st_ne (by omega)).trans z1, (fa_st_ne (by omega)).trans z2, (fa_st_ne (by omega)).trans z3, (fa_st_ne (by omega)).trans z4, (fa_st_ne (by omega)).trans z5, (fa_st_ne (by omega)).trans z6, (fa_st_ne (by omega)).trans z7, (fa_st_ne (by omega)).trans z8, (fa_st_ne (by omega)).trans z9⟩
        · rw [fa_st_ne (by omega), rkt]; exact c17
        · rw [fa_st_ne (by omega), rkt]; exact c13
        · by_cases e : g = k
          · rw [e]
            refine ⟨(fa_st_ne (by omega)).trans c18, fun _ j' hj' => ?_, fun z => by rw [c2] at z; cases z⟩
            rw [fa_st_eq]
            have : j' = j := by rw [j1] at hj'; omega
            rw [this]
          · have gl : g < k := by omega
            have rg := pc_rk_lt hm gl
            obtain ⟨y1, y2, y3⟩ := hGG g gl hm
            refine ⟨(fa_st_ne (by omega)).trans ((o18 _ (by omega)).trans y1), fun z j' hj' => (fa_st_ne (by omega)).trans ((fb _ _ (by omega) (by omega) (by omega)).trans (y2 z j' hj')), fun z => ?_⟩
            obtain ⟨y4, n1, n2, n3, n4, n5, n6, n7⟩ := y3 z
            have u : ∀ x y, (x = o + 2 ∨ x = o + 4 ∨ x = o + 6 ∨ x = o + 8 ∨ x = o + 10) → fa_st wb (o + 20) (pc_rk M k) (w2 (o + 24) j) x y = w x y := fun x y h => (fa_st_ne (by omega)).trans (fb x y (by omega) (by omega) (by omega))
            exact ⟨(fa_st_ne (by omega)).trans ((fb _ _ (by omega) (by omega) (by omega)).trans y4), (u _ _ (Or.inl rfl)).trans n1, (u _ _ (Or.inr (Or.inl rfl))).trans n2, (u _ _ (Or.inr (Or.inr (Or.inl rfl)))).trans n3, (u _ _ (Or.inr (Or.inr (Or.inr (Or.inl rfl))))).trans n4, (u _ _ (Or.inr (Or.inr (Or.inr (Or.inr rfl))))).trans n5, (u _ _ (Or.inr (Or.inr (Or.inr (Or.inr rfl))))).trans n6, (u _ _ (Or.inr (Or.inr (Or.inr (Or.inr rfl))))).trans n7⟩
      · have cf := pc_bf c2
        have ez : pe_dz M CL (k + 1) = pe_dz M CL k + 1 := by
          show pe_dz M CL k + (if M k = true ∧ CL k = false then 1 else 0) = _
          rw [if_pos ⟨c1, cf⟩]
        have dm := pe_dz_mono M CL (show k + 1 ≤ G by omega)
        rw [ez] at dm
        obtain ⟨wc, d1, d2, d3, _, _, _, d7⟩ := px_adde he (K := 4) (v := 0) (h := ((pc_rk M k : Nat) : Int)) (a := -1) (b := -1) (c := -1) (st := n0 + pe_dz M CL k) zb (by omega) (Or.inl ⟨pb_wr1, rfl⟩) (by decide) (fun z => absurd z (by decide)) (fun z => absurd z (by decide)) (fun z => absurd z (by decide))
        have d1' : fm_Program_add o 4 0 ((pc_rk M k : Nat) : Int) (-1) (-1) (-1) wb = (((n0 + pe_dz M CL k : Nat) : Int), wc) := d1
        have fc : ∀ x y, ¬ ((x = o + 1 ∨ x = o + 3 ∨ x = o + 5 ∨ x = o + 7 ∨ x = o + 9) ∧ y = 1) → ¬ ((x = o + 2 ∨ x = o + 4 ∨ x = o + 6 ∨ x = o + 8) ∧ y = n0 + pe_dz M CL k) → ¬ (x = o + 10 ∧ 3 * (n0 + pe_dz M CL k) ≤ y) → wc x y = wb x y := fun x y p q r => d7 x y (by unfold px_une; omega)
        unfold fm_Program_copyGlobals_j94
        rw [if_neg c2, d1']
        show ∃ w', fa_let (fr_set (fa_rf o 9) ((pc_rk M k : Nat) : Int) ((n0 + pe_dz M CL k : Nat) : Int) wc) _ = some w' ∧ _
        rw [r9, pb_set d3.2.2.2.2.2.2.2.2 (by omega) (by rw [m9]; exact Nat.le_refl _), s9, show o + 19 + 1 = o + 20 by omega, pf_let_eq]
        show ∃ w', fm_Program_copyGlobals_l2 o oP cd F ((k : Int) + 1) _ = some w' ∧ _
        rw [nx]
        refine ih (k + 1) F _ (by omega) (by omega) (fun x y p q r s t' u v => ?_) ?_ ?_ ?_ (fun g hg hm => ?_)
        · rw [fa_st_ne (fun z => s ⟨z.1, by rw [z.2]; exact rlt⟩), fc x y t' (by omega) (by omega), fb x y p q r]; exact hw x y p q r s t' u v
        · rw [ez]
          obtain ⟨z1, z2, z3, z4, z5, z6, z7, z8, z9⟩ := d3
          exact ⟨(fa_st_ne (by omega)).trans z1, (fa_st_ne (by omega)).trans z2, (fa_st_ne (by omega)).trans z3, (fa_st_ne (by omega)).trans z4, (fa_st_ne (by omega)).trans z5, (fa_st_ne (by omega)).trans z6, (fa_st_ne (by omega)).trans z7, (fa_st_ne (by omega)).trans z8, (fa_st_ne (by omega)).trans z9⟩
        · rw [fa_st_ne (by omega), fc _ _ (by omega) (by omega) (by omega), rkt]; exact c17
        · rw [fa_st_ne (by omega), fc _ _ (by omega) (by omega) (by omega), rkt]; exact c13
        · by_cases e : g = k
          · rw [e]
            refine ⟨(fa_st_ne (by omega)).trans ((fc _ _ (by omega) (by omega) (by omega)).trans c18), fun z => absurd z c2, fun _ => ⟨fa_st_eq _ _ _ _, ?_⟩⟩
            obtain ⟨n1, n2, n3, n4, n5, n6, n7⟩ := d2
            exact ⟨(fa_st_ne (by omega)).trans n1, (fa_st_ne (by omega)).trans n2, (fa_st_ne (by omega)).trans n3, (fa_st_ne (by omega)).trans n4, (fa_st_ne (by omega)).trans n5, (fa_st_ne (by omega)).trans n6, (fa_st_ne (by omega)).trans n7⟩
          · have gl : g < k := by omega
            have rg := pc_rk_lt hm gl
            obtain ⟨y1, y2, y3⟩ := hGG g gl hm
            refine ⟨(fa_st_ne (by omega)).trans ((fc _ _ (by omega) (by omega) (by omega)).trans ((o18 _ (by omega)).trans y1)), fun z j' hj' => (fa_st_ne (by omega)).trans ((fc _ _ (by omega) (by omega) (by omega)).trans ((fb _ _ (by omega) (by omega) (by omega)).trans (y2 z j' hj'))), fun z => ?_⟩
            obtain ⟨y4, n1, n2, n3, n4, n5, n6, n7⟩ := y3 z
            have dg : pe_dz M CL g < pe_dz M CL k := by
              have q := pe_dz_mono M CL (show g + 1 ≤ k by omega)
              have : pe_dz M CL (g + 1) = pe_dz M CL g + 1 := by
                show pe_dz M CL g + (if M g = true ∧ CL g = false then 1 else 0) = _
                rw [if_pos ⟨hm, z⟩]
              omega
            have u := pe_ub (v := ((n0 + pe_dz M CL k : Nat) : Int)) (rk := pc_rk M k) dg fc fb
            have u4 := (fa_st_ne (w := wc) (v := ((n0 + pe_dz M CL k : Nat) : Int)) (o := o + 20) (k := pc_rk M k) (o' := o + 20) (k' := pc_rk M g) (by omega)).trans ((fc _ _ (by omega) (by omega) (by omega)).trans ((fb _ _ (by omega) (by omega) (by omega)).trans y4))
            exact ⟨u4, (u _ _ (Or.inl ⟨Or.inl rfl, rfl⟩)).trans n1, (u _ _ (Or.inl ⟨Or.inr (Or.inl rfl), rfl⟩)).trans n2, (u _ _ (Or.inl ⟨Or.inr (Or.inr (Or.inl rfl)), rfl⟩)).trans n3, (u _ _ (Or.inl ⟨Or.inr (Or.inr (Or.inr rfl)), rfl⟩)).trans n4, (u _ _ (Or.inr ⟨rfl, pe_l3 _⟩)).trans n5, (u _ _ (Or.inr ⟨rfl, pe_l31 _⟩)).trans n6, (u _ _ (Or.inr ⟨rfl, pe_l32 _⟩)).trans n7⟩
    · have cf := pc_bf c1
      have ez : pe_dz M CL (k + 1) = pe_dz M CL k := by
        show pe_dz M CL k + (if M k = true ∧ CL k = false then 1 else 0) = _
        rw [if_neg (fun q => c1 q.1)]; rfl
      rw [if_neg c1, pb_wr1, if_pos rfl, pf_let_eq, nx]
      refine ih (k + 1) F w (by omega) (by omega) hw (by rw [ez]; exact hz) (by rw [pc_rk_f cf]; exact h17) (by rw [pc_rk_f cf]; exact h13) (fun g hg hm => hGG g (by
        have : g ≠ k := fun e => c1 (e ▸ hm)
        omega) hm)
