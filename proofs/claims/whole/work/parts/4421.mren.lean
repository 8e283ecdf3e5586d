/-! numbers as they are told, behind the reading -/
def pk_rf (G f : Nat) : Nat := if f < 6 then f else G + (f - 6)
def pk_rb (G v : Nat) : Nat := if v < 24 then pk_rf G v else v
def pk_rn (G : Nat) : pt_T → pt_T := pt_rec pt_num (fun v x => pt_var (pk_rb G v) x) pt_glo pt_dead (fun f x _ b => pt_lam (pk_rf G f) x b) (fun _ _ _ a b c => pt_ife a b c) (fun v x _ _ a b => pt_let v x a b) (fun s _ _ a b => pt_op s a b) (fun s _ _ a b => pt_site s a b) (pt_num 0)
theorem pk_rn_tw (G : Nat) (t : pt_T) (ht : pt_tw t) : pt_tw (pk_rn G t) ∧ pt_sz (pk_rn G t) = pt_sz t := by
  induction t, ht using pt_indh with
  | num v => exact ⟨trivial, rfl⟩
  | var v x => exact ⟨trivial, rfl⟩
  | glo g x => exact ⟨trivial, rfl⟩
  | dead d => exact ⟨trivial, rfl⟩
  | lam f x b tb ih => exact ⟨ih.1, by show pt_sz (pk_rn G b) + 1 = pt_sz b + 1; rw [ih.2]⟩
  | ife a b c ta tb tc ia ib ic => exact ⟨⟨ia.1, ib.1, ic.1⟩, by show pt_sz (pk_rn G a) + pt_sz (pk_rn G b) + pt_sz (pk_rn G c) + 1 = pt_sz a + pt_sz b + pt_sz c + 1; rw [ia.2, ib.2, ic.2]⟩
  | lt v x a b ta tb ia ib => exact ⟨⟨ia.1, ib.1⟩, by show pt_sz (pk_rn G a) + pt_sz (pk_rn G b) + 1 = pt_sz a + pt_sz b + 1; rw [ia.2, ib.2]⟩
  | op s a b ta tb ia ib => exact ⟨⟨ia.1, ib.1⟩, by show pt_sz (pk_rn G a) + pt_sz (pk_rn G b) + 1 = pt_sz a + pt_sz b + 1; rw [ia.2, ib.2]⟩
  | site s a b ta tb ia ib => exact ⟨⟨ia.1, ib.1⟩, by show pt_sz (pk_rn G a) + pt_sz (pk_rn G b) + 1 = pt_sz a + pt_sz b + 1; rw [ia.2, ib.2]⟩
def pm_rh (G : Nat) (h : Int) : Int := if fa_wr h = -1 then -1 else if 6 ≤ fa_wr h then (G : Int) + h - 6 else h
def pm_rk (G : Nat) (K v : Int) : Int := if fa_wr K = 1 then (if 24 ≤ fa_wr v then v else if 6 ≤ fa_wr v then (G : Int) + v - 6 else v) else if fa_wr K = 4 then (if 6 ≤ fa_wr v then (G : Int) + v - 6 else v) else v
theorem pm_numbered {w : fa_W} {G : Nat} (h : w 181 17 = (G : Int)) (a : Int) : fm_Mod_numbered a w = if 6 ≤ fa_wr a then (G : Int) + a - 6 else a := by
  unfold fm_Mod_numbered
  rw [h]
theorem pm_homeN {w : fa_W} {G : Nat} (h : w 181 17 = (G : Int)) (a : Int) : fm_Mod_homeNumbered a w = pm_rh G a := by
  unfold fm_Mod_homeNumbered pm_rh
  rw [pm_numbered h]
theorem pm_ren_sites {G si : Nat} (hsi : si ≤ 101) : ∀ (d k F : Nat) (w : fa_W), k + d = si → d < F → w 181 17 = (G : Int) → w 181 20 = (si : Int) → pb_ok (fm_Mod_renumbers_l181 F (k : Int) w) (fun w' => (∀ j, k ≤ j → j < si → w' 195 j = pm_rh G (w 195 j)) ∧ ∀ o j, ¬ (o = 195 ∧ k ≤ j ∧ j < si) → w' o j = w o j) := by
  intro d
  induction d with
  | zero =>
    intro k F w hk hF h17 h20
    obtain ⟨F, rfl⟩ : ∃ z, F = z + 1 := ⟨F - 1, by omega⟩
    unfold fm_Mod_renumbers_l181
    rw [h20, pb_wr (by omega), pb_wr (by omega), if_pos (by omega)]
    exact pb_some ⟨fun j a b => by omega, fun o j _ => rfl⟩
  | succ d ih =>
    intro k F w hk hF h17 h20
    obtain ⟨F, rfl⟩ : ∃ z, F = z + 1 := ⟨F - 1, by omega⟩
    unfold fm_Mod_renumbers_l181
    rw [h20, pb_wr (by omega), pb_wr (by omega), if_neg (by omega), pb_ix (show k < 101 by omega) (by decide)]
    dsimp only [Option.bind_some, fa_let]
    rw [pm_homeN h17]
    refine pb_mono (ih (k + 1) F (fa_st w 195 k (pm_rh G (w 195 k))) (by omega) (by omega) (by rw [fa_st_ne (by omega)]; exact h17) (by rw [fa_st_ne (by omega)]; exact h20)) (fun w' q => ⟨fun j a b => ?_, fun o j r => ?_⟩)
    · by_cases e : j = k
      · subst e
        rw [q.2 195 j (by omega), fa_st_eq]
      · rw [q.1 j (by omega) b, fa_st_ne (by omega)]
    · rw [q.2 o j (by omega), fa_st_ne (by omega)]
theorem pm_ren_lets {G li si : Nat} (hsi : si ≤ 101) (hli : li ≤ 100) : ∀ (d k F : Nat) (w : fa_W), k + d = li → d < F → w 181 17 = (G : Int) → w 181 20 = (si : Int) → w 181 19 = (li : Int) → pb_ok (fm_Mod_renumbers_l143 F (k : Int) w) (fun w' => (∀ j, j < si → w' 195 j = pm_rh G (w 195 j)) ∧ (∀ j, k ≤ j → j < li → w' 193 (24 + j) = pm_rh G (w 193 (24 + j))) ∧ ∀ o j, ¬ (o = 195 ∧ j < si) → ¬ (o = 193 ∧ 24 + k ≤ j ∧ j < 24 + li) → w' o j = w o j) := by
  intro d
  induction d with
  | zero =>
    intro k F w hk hF h17 h20 h19
    obtain ⟨F, rfl⟩ : ∃ z, F = z + 1 := ⟨F - 1, by omega⟩
    unfold fm_Mod_renumbers_l143
    rw [h19, pb_wr (by omega), pb_wr (by omega), if_pos (by omega)]
    exact pb_mono (pm_ren_sites (G := G) hsi si 0 fa_FU w (by omega) (by unfold fa_FU; omega) h17 h20) (fun w' q => ⟨fun j b => q.1 j (by omega) b, fun j a b => by omega, fun o j r _ => q.2 o j (by omega)⟩)
  | succ d ih =>
    intro k F w hk hF h17 h20 h19
    obtain ⟨F, rfl⟩ : ∃ z, F = z + 1 := ⟨F - 1, by omega⟩
    unfold fm_Mod_renumbers_l143
    rw [h19, pb_wr (by omega), pb_wr (by omega), if_neg (by omega), show (24 : Int) + (k : Int) = ((24 + k : Nat) : Int) from rfl, pb_ix (show 24 + k < 124 by omega) (by decide)]
    dsimp only [Option.bind_some, fa_let]
    rw [pm_homeN h17]
    refine pb_mono (ih (k + 1) F (fa_st w 193 (24 + k) (pm_rh G (w 193 (24 + k)))) (by omega) (by omega) (by rw [fa_st_ne (by omega)]; exact h17) (by rw [fa_st_ne (by omega)]; exact h20) (by rw [fa_st_ne (by omega)]; exact h19)) (fun w' q => ⟨fun j b => ?_, fun j a b => ?_, fun o j r1 r2 => ?_⟩)
    · rw [q.1 j b, fa_st_ne (by omega)]
    · by_cases e : j = k
      · subst e
        rw [q.2.2 193 (24 + j) (by omega) (by omega), fa_st_eq]
      · rw [q.2.1 j (by omega) b, fa_st_ne (by omega)]
    · rw [q.2.2 o j (by omega) (by omega), fa_st_ne (by omega)]
theorem pm_ren_lams {G la li si : Nat} (hG : G ≤ 6) (hla : la ≤ 18) (hsi : si ≤ 101) (hli : li ≤ 100) : ∀ (d k F : Nat) (w : fa_W), k + d = la → d < F → w 181 17 = (G : Int) → w 181 20 = (si : Int) → w 181 19 = (li : Int) → w 181 18 = (la : Int) → pb_ok (fm_Mod_renumbers_l71 F ((6 + k : Nat) : Int) w) (fun w' => (∀ j, j < si → w' 195 j = pm_rh G (w 195 j)) ∧ (∀ j, j < li → w' 193 (24 + j) = pm_rh G (w 193 (24 + j))) ∧ (∀ j, k ≤ j → j < la → w' 189 (G + j) = w 189 (6 + j) ∧ w' 191 (G + j) = pm_rh G (w 191 (6 + j)) ∧ w' 192 (G + j) = w 192 (6 + j) ∧ w' 193 (G + j) = ((G + j : Nat) : Int)) ∧ ∀ o j, ¬ (o = 195 ∧ j < si) → ¬ (o = 193 ∧ 24 ≤ j ∧ j < 24 + li) → ¬ ((o = 189 ∨ (191 ≤ o ∧ o ≤ 193)) ∧ G + k ≤ j ∧ j < G + la) → w' o j = w o j) := by
  intro d
  induction d with
  | zero =>
    intro k F w hk hF h17 h20 h19 h18
    obtain ⟨F, rfl⟩ : ∃ z, F = z + 1 := ⟨F - 1, by omega⟩
    unfold fm_Mod_renumbers_l71
    rw [h18, show (6 : Int) + (la : Int) = ((6 + la : Nat) : Int) from rfl, pb_wr (by omega), pb_wr (by omega), if_pos (by omega)]
    exact pb_mono (pm_ren_lets (G := G) hsi hli li 0 fa_FU w (by omega) (by unfold fa_FU; omega) h17 h20 h19) (fun w' q => ⟨q.1, fun j b => q.2.1 j (by omega) b, fun j a b => by omega, fun o j r1 r2 _ => q.2.2 o j r1 (by omega)⟩)
  | succ d ih =>
    intro k F w hk hF h17 h20 h19 h18
    obtain ⟨F, rfl⟩ : ∃ z, F = z + 1 := ⟨F - 1, by omega⟩
    unfold fm_Mod_renumbers_l71
    rw [h18, show (6 : Int) + (la : Int) = ((6 + la : Nat) : Int) from rfl, pb_wr (by omega), pb_wr (by omega), if_neg (by omega), pm_numbered h17, pb_wr (by omega), if_pos (by omega), show (G : Int) + ((6 + k : Nat) : Int) - 6 = ((G + k : Nat) : Int) by omega]
    dsimp only [fa_let]
    rw [pb_ix (show 6 + k < 24 by omega) (by decide), pb_ix (show G + k < 24 by omega) (by decide), pb_ix (show 6 + k < 124 by omega) (by decide), pb_ix (show G + k < 124 by omega) (by decide)]
    dsimp only [Option.bind_some]
    rw [pm_homeN (by rw [fa_st_ne (by omega)]; exact h17), fa_st_ne (w := w) (o := 189) (o' := 191) (by omega)]
    have e192 : fa_st (fa_st w 189 (G + k) (w 189 (6 + k))) 191 (G + k) (pm_rh G (w 191 (6 + k))) 192 (6 + k) = w 192 (6 + k) := by rw [fa_st_ne (by omega), fa_st_ne (by omega)]
    rw [e192, show ((6 + k : Nat) : Int) + 1 = ((6 + (k + 1) : Nat) : Int) by omega]
    have nn : ∀ o j, ¬ ((o = 189 ∨ (191 ≤ o ∧ o ≤ 193)) ∧ j = G + k) → fa_st (fa_st (fa_st (fa_st w 189 (G + k) (w 189 (6 + k))) 191 (G + k) (pm_rh G (w 191 (6 + k)))) 192 (G + k) (w 192 (6 + k))) 193 (G + k) ((G + k : Nat) : Int) o j = w o j := by
      intro o j r
      rw [fa_st_ne (by omega), fa_st_ne (by omega), fa_st_ne (by omega), fa_st_ne (by omega)]
    have v1 : fa_st (fa_st (fa_st (fa_st w 189 (G + k) (w 189 (6 + k))) 191 (G + k) (pm_rh G (w 191 (6 + k)))) 192 (G + k) (w 192 (6 + k))) 193 (G + k) ((G + k : Nat) : Int) 189 (G + k) = w 189 (6 + k) := by rw [fa_st_ne (by omega), fa_st_ne (by omega), fa_st_ne (by omega), fa_st_eq]
    have v2 : fa_st (fa_st (fa_st (fa_st w 189 (G + k) (w 189 (6 + k))) 191 (G + k) (pm_rh G (w 191 (6 + k)))) 192 (G + k) (w 192 (6 + k))) 193 (G + k) ((G + k : Nat) : Int) 191 (G + k) = pm_rh G (w 191 (6 + k)) := by rw [fa_st_ne (by omega), fa_st_ne (by omega), fa_st_eq]
    have v3 : fa_st (fa_st (fa_st (fa_st w 189 (G + k) (w 189 (6 + k))) 191 (G + k) (pm_rh G (w 191 (6 + k)))) 192 (G + k) (w 192 (6 + k))) 193 (G + k) ((G + k : Nat) : Int) 192 (G + k) = w 192 (6 + k) := by rw [fa_st_ne (by omega), fa_st_eq]
    have v4 : fa_st (fa_st (fa_st (fa_st w 189 (G + k) (w 189 (6 + k))) 191 (G + k) (pm_rh G (w 191 (6 + k)))) 192 (G + k) (w 192 (6 + k))) 193 (G + k) ((G + k : Nat) : Int) 193 (G + k) = ((G + k : Nat) : Int) := by rw [fa_st_eq]
    generalize fa_st (fa_st (fa_st (fa_st w 189 (G + k) (w 189 (6 + k))) 191 (G + k) (pm_rh G (w 191 (6 + k)))) 192 (G + k) (w 192 (6 + k))) 193 (G + k) ((G + k : Nat) : Int) = w1 at nn v1 v2 v3 v4 ⊢
    refine pb_mono (ih (k + 1) F w1 (by omega) (by omega) (by rw [nn 181 17 (by omega)]; exact h17) (by rw [nn 181 20 (by omega)]; exact h20) (by rw [nn 181 19 (by omega)]; exact h19) (by rw [nn 181 18 (by omega)]; exact h18)) (fun w' q => ⟨fun j b => ?_, fun j b => ?_, fun j a b => ?_, fun o j r1 r2 r3 => ?_⟩)
    · rw [q.1 j b, nn 195 j (by omega)]
    · rw [q.2.1 j b, nn 193 (24 + j) (by omega)]
    · by_cases e : j = k
      · subst e
        have z := fun o h1 h2 => q.2.2.2 o (G + j) h1 h2 (by omega)
        refine ⟨?_, ?_, ?_, ?_⟩
        · rw [z 189 (by omega) (by omega)]; exact v1
        · rw [z 191 (by omega) (by omega)]; exact v2
        · rw [z 192 (by omega) (by omega)]; exact v3
        · rw [z 193 (by omega) (by omega)]; exact v4
      · have z := q.2.2.1 j (by omega) b
        rw [nn 189 (6 + j) (by omega), nn 191 (6 + j) (by omega), nn 192 (6 + j) (by omega)] at z
        exact z
    · rw [q.2.2.2 o j r1 r2 (by omega), nn o j (by omega)]
/-- how the worlds ahead of and behind the new numbers go together -/
def pm_rl (G la li si nd : Nat) (w w' : fa_W) : Prop := (∀ j, j < si → w' 195 j = pm_rh G (w 195 j)) ∧ (∀ j, j < li → w' 193 (24 + j) = pm_rh G (w 193 (24 + j))) ∧ (∀ j, j < la → w' 189 (G + j) = w 189 (6 + j) ∧ w' 191 (G + j) = pm_rh G (w 191 (6 + j)) ∧ w' 192 (G + j) = w 192 (6 + j) ∧ w' 193 (G + j) = ((G + j : Nat) : Int)) ∧ (∀ j, j < nd → w' 185 j = pm_rk G (w 184 j) (w 185 j)) ∧ ∀ o j, ¬ (o = 195 ∧ j < si) → ¬ (o = 193 ∧ 24 ≤ j ∧ j < 24 + li) → ¬ ((o = 189 ∨ (191 ≤ o ∧ o ≤ 193)) ∧ G ≤ j ∧ j < G + la) → ¬ (o = 185 ∧ j < nd) → w' o j = w o j
theorem pm_ren_nodes {G la li si nd : Nat} (hG : G ≤ 6) (hla : la ≤ 18) (hsi : si ≤ 101) (hli : li ≤ 100) (hnd : nd ≤ 101) : ∀ (d k F : Nat) (w : fa_W), k + d = nd → d < F → w 181 17 = (G : Int) → w 181 20 = (si : Int) → w 181 19 = (li : Int) → w 181 18 = (la : Int) → w 181 16 = (nd : Int) → pb_ok (fm_Mod_renumbers_l2 F (k : Int) w) (fun w' => (∀ j, j < si → w' 195 j = pm_rh G (w 195 j)) ∧ (∀ j, j < li → w' 193 (24 + j) = pm_rh G (w 193 (24 + j))) ∧ (∀ j, j < la → w' 189 (G + j) = w 189 (6 + j) ∧ w' 191 (G + j) = pm_rh G (w 191 (6 + j)) ∧ w' 192 (G + j) = w 192 (6 + j) ∧ w' 193 (G + j) = ((G + j : Nat) : Int)) ∧ (∀ j, k ≤ j → j < nd → w' 185 j = pm_rk G (w 184 j) (w 185 j)) ∧ ∀ o j, ¬ (o = 195 ∧ j < si) → ¬ (o = 193 ∧ 24 ≤ j ∧ j < 24 + li) → ¬ ((o = 189 ∨ (191 ≤ o ∧ o ≤ 193)) ∧ G ≤ j ∧ j < G + la) → ¬ (o = 185 ∧ k ≤ j ∧ j < nd) → w' o j = w o j) := by
  intro d
  induction d with
  | zero =>
    intro k F w hk hF h17 h20 h19 h18 h16
    obtain ⟨F, rfl⟩ : ∃ z, F = z + 1 := ⟨F - 1, by omega⟩
    unfold fm_Mod_renumbers_l2
    rw [h16, pb_wr (by omega), pb_wr (by omega), if_pos (by omega)]
    exact pb_mono (pm_ren_lams (G := G) hG hla hsi hli la 0 fa_FU w (by omega) (by unfold fa_FU; omega) h17 h20 h19 h18) (fun w' q => ⟨q.1, q.2.1, fun j b => q.2.2.1 j (by omega) b, fun j a b => by omega, fun o j r1 r2 r3 _ => q.2.2.2 o j r1 r2 (by omega)⟩)
  | succ d ih =>
    intro k F w hk hF h17 h20 h19 h18 h16
    obtain ⟨F, rfl⟩ : ∃ z, F = z + 1 := ⟨F - 1, by omega⟩
    have fin : ∀ w1 : fa_W, w1 = fa_st w 185 k (pm_rk G (w 184 k) (w 185 k)) → pb_ok (fm_Mod_renumbers_l2 F ((k + 1 : Nat) : Int) w1) (fun w' => (∀ j, j < si → w' 195 j = pm_rh G (w 195 j)) ∧ (∀ j, j < li → w' 193 (24 + j) = pm_rh G (w 193 (24 + j))) ∧ (∀ j, j < la → w' 189 (G + j) = w 189 (6 + j) ∧ w' 191 (G + j) = pm_rh G (w 191 (6 + j)) ∧ w' 192 (G + j) = w 192 (6 + j) ∧ w' 193 (G + j) = ((G + j : Nat) : Int)) ∧ (∀ j, k ≤ j → j < nd → w' 185 j = pm_rk G (w 184 j) (w 185 j)) ∧ ∀ o j, ¬ (o = 195 ∧ j < si) → ¬ (o = 193 ∧ 24 ≤ j ∧ j < 24 + li) → ¬ ((o = 189 ∨ (191 ≤ o ∧ o ≤ 193)) ∧ G ≤ j ∧ j < G + la) → ¬ (o = 185 ∧ k ≤ j ∧ j < nd) → w' o j = w o j) := by
      intro w1 e1
      have nn : ∀ o j, ¬ (o = 185 ∧ j = k) → w1 o j = w o j := by
        intro o j r
        rw [e1, fa_st_ne (by omega)]
      have v : w1 185 k = pm_rk G (w 184 k) (w 185 k) := by rw [e1, fa_st_eq]
      refine pb_mono (ih (k + 1) F w1 (by omega) (by omega) (by rw [nn 181 17 (by omega)]; exact h17) (by rw [nn 181 20 (by omega)]; exact h20) (by rw [nn 181 19 (by omega)]; exact h19) (by rw [nn 181 18 (by omega)]; exact h18) (by rw [nn 181 16 (by omega)]; exact h16)) (fun w' q => ⟨fun j b => ?_, fun j b => ?_, fun j b => ?_, fun j a b => ?_, fun o j r1 r2 r3 r4 => ?_⟩)
      · rw [q.1 j b, nn 195 j (by omega)]
      · rw [q.2.1 j b, nn 193 (24 + j) (by omega)]
      · have z := q.2.2.1 j b
        rw [nn 189 (6 + j) (by omega), nn 191 (6 + j) (by omega), nn 192 (6 + j) (by omega)] at z
        exact z
      · by_cases e : j = k
        · subst e
          rw [q.2.2.2.2 185 j (by omega) (by omega) (by omega) (by omega)]
          exact v
        · rw [q.2.2.2.1 j (by omega) b, nn 184 j (by omega), nn 185 j (by omega)]
      · rw [q.2.2.2.2 o j r1 r2 r3 (by omega), nn o j (by omega)]
    unfold fm_Mod_renumbers_l2 fm_Mod_renumbers_j36
    rw [h16, pb_wr (by omega), pb_wr (by omega), if_neg (by omega), pb_ix (show k < 101 by omega) (by decide)]
    dsimp only [Option.bind_some, fa_let]
    rw [show (k : Int) + 1 = ((k + 1 : Nat) : Int) from rfl]
    by_cases k1 : fa_wr (w 184 k) = 1
    · rw [if_pos k1]
      have e184 : fa_st w 185 k (fm_Mod_binderNumbered (w 185 k) w) 184 k = w 184 k := fa_st_ne (by omega)
      rw [e184, if_neg (by omega)]
      refine fin _ ?_
      unfold fm_Mod_binderNumbered pm_rk
      rw [pm_numbered h17, if_pos k1]
    · rw [if_neg k1]
      by_cases k4 : fa_wr (w 184 k) = 4
      · rw [if_pos k4]
        refine fin _ ?_
        unfold pm_rk
        rw [pm_numbered h17, if_neg k1, if_pos k4]
      · rw [if_neg k4]
        refine fin _ ?_
        unfold pm_rk
        rw [if_neg k1, if_neg k4, pb_st_id rfl]
