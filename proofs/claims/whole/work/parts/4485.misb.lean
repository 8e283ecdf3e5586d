/-! whether no TYPE lies in itself, as the reference finds it -/
def pm_MK (T : Nat) (mk : Nat → Nat) (w : fa_W) : Prop := ∀ k, k < T → w 205 k = (mk k : Int) ∧ mk k ≤ 2
def pm_wf (T : Nat) (up : Nat → Nat) (ar : pu_A) (R mk : Nat → Nat) : Prop := ∃ rk : Nat → Nat, ∀ k, k < T → up k = k → mk k = 2 → ∀ a b, ar k = some (a, b) → (ar (R a) = none ∨ mk (R a) = 2) ∧ (ar (R b) = none ∨ mk (R b) = 2) ∧ rk (R a) < rk k ∧ rk (R b) < rk k
theorem pm_so2 {T : Nat} {up : Nat → Nat} {ar : pu_A} {R : Nat → Nat} {l : List Nat} {N : Nat} (hI : pu_I T up ar R l N) (k : Nat) : fa_wr (pm_so ar k) = 2 ↔ ar k ≠ none := by
  rw [pm_so_wr]
  unfold pm_so
  by_cases z : k = 0
  · rw [if_pos z, z, hI.2.2.2.2.2.1]
    exact ⟨fun h => by omega, fun h => absurd rfl h⟩
  · rw [if_neg z]
    by_cases y : ar k = none
    · rw [if_pos y]; exact ⟨fun h => by omega, fun h => absurd y h⟩
    · rw [if_neg y]; exact ⟨fun _ => y, fun _ => rfl⟩
set_option maxHeartbeats 1000000 in
theorem pm_isB {T : Nat} {up : Nat → Nat} {ar : pu_A} {R : Nat → Nat} {l : List Nat} {N : Nat} (hI : pu_I T up ar R l N) : ∀ (n t : Nat) (mk : Nat → Nat) (wh : List Nat) (w : fa_W), wh.length < n → wh.Nodup → (∀ k, k ∈ wh ↔ (k < T ∧ mk k = 0)) → t < T → up t = t → pm_U T up ar false w → pm_MK T mk w → pm_wf T up ar R mk → (∀ g, g < T → mk g = 1 → ∀ rk, pu_ac T up ar R rk → rk t < rk g) → ∃ (b : Bool) (w' : fa_W), fm_Mod_isBounded n (t : Int) w = some (b, w') ∧ (∀ i j, i ≠ 205 → w' i j = w i j) ∧ (b = true → ∃ (mk' : Nat → Nat) (wh' : List Nat), pm_MK T mk' w' ∧ pm_wf T up ar R mk' ∧ (∀ k, k < T → (mk' k = 1 ↔ mk k = 1)) ∧ (∀ k, k < T → mk k = 2 → mk' k = 2) ∧ wh'.Nodup ∧ (∀ k, k ∈ wh' ↔ (k < T ∧ mk' k = 0)) ∧ wh'.length ≤ wh.length ∧ (ar t = none ∨ mk' t = 2)) ∧ (b = false → ∀ rk, ¬ pu_ac T up ar R rk) := by
  intro n
  induction n with
  | zero => intro t mk wh w h; omega
  | succ n ih =>
    intro t mk wh w hn hnd hwh ht hu hU hMK hwf hg
    have hT := hU.2.1
    have hab := hI.2.2.2.2.2.2.1
    show ∃ b w', fm_Mod_isBounded_b (fm_Mod_isBounded n) (t : Int) w = some (b, w') ∧ _
    unfold fm_Mod_isBounded_b
    rw [pb_ix (n := 1200) (by omega) (by omega)]
    dsimp only [Option.bind_some]
    obtain ⟨m1, m2⟩ := hMK t ht
    rw [m1, pb_wr (by omega), hU.2.2.2.1 t ht]
    by_cases e2 : mk t = 2
    · rw [if_pos (by omega)]
      exact ⟨true, w, rfl, fun _ _ _ => rfl, fun _ => ⟨mk, wh, hMK, hwf, fun _ _ => Iff.rfl, fun _ _ h => h, hnd, hwh, Nat.le_refl _, Or.inr e2⟩, (fun z => by cases z)⟩
    rw [if_neg (by omega)]
    cases ea : ar t with
    | none =>
      rw [if_neg (fun q => (pm_so2 hI t).mp q ea)]
      exact ⟨true, w, rfl, fun _ _ _ => rfl, fun _ => ⟨mk, wh, hMK, hwf, fun _ _ => Iff.rfl, fun _ _ h => h, hnd, hwh, Nat.le_refl _, Or.inl rfl⟩, (fun z => by cases z)⟩
    | some q =>
      obtain ⟨a, b⟩ := q
      rw [if_pos ((pm_so2 hI t).mpr (by rw [ea]; simp))]
      by_cases e1 : mk t = 1
      · rw [if_pos (by omega)]
        exact ⟨false, w, rfl, fun _ _ _ => rfl, (fun z => by cases z), fun _ rk hrk => by have := hg t ht e1 rk hrk; omega⟩
      rw [if_neg (by omega)]
      have e0 : mk t = 0 := by omega
      have bb := hab t ht a b ea
      have ta := hU.2.2.2.2.1 t ht a b ea
      have ra := pu_root hI bb.1
      have rb := pu_root hI bb.2
      dsimp only [fa_let]
      have hU1 : pm_U T up ar false (fa_st w 205 t 1) := pm_U_of hU (fun i j q => fa_st_ne (by omega))
      have f1 : ∀ i j, i ≠ 205 → fa_st w 205 t 1 i j = w i j := fun i j q => fa_st_ne (fun z => q z.1)
      have MK1 : pm_MK T (pu_set mk t 1) (fa_st w 205 t 1) := fun k hk => by
        by_cases z : k = t
        · rw [z, pu_set_eq, fa_st_eq]; exact ⟨rfl, by omega⟩
        · rw [pu_set_ne _ _ z, fa_st_ne (by omega)]; exact hMK k hk
      have wf1 : pm_wf T up ar R (pu_set mk t 1) := by
        obtain ⟨rk, h⟩ := hwf
        refine ⟨rk, fun k hk hku h2 x y exy => ?_⟩
        have kt : k ≠ t := fun z => by rw [z, pu_set_eq] at h2; omega
        rw [pu_set_ne _ _ kt] at h2
        obtain ⟨c1, c2, c3, c4⟩ := h k hk hku h2 x y exy
        have up2 : ∀ z, (ar (R z) = none ∨ mk (R z) = 2) → (ar (R z) = none ∨ pu_set mk t 1 (R z) = 2) := fun z h => by
          rcases h with h | h
          · exact Or.inl h
          · exact Or.inr (by rw [pu_set_ne _ _ (fun q => by rw [q] at h; omega)]; exact h)
        exact ⟨up2 x c1, up2 y c2, c3, c4⟩
      have twh : t ∈ wh := (hwh t).mpr ⟨ht, e0⟩
      have lpos := List.length_pos_of_mem twh
      have wl : (wh.erase t).length + 1 = wh.length := by rw [List.length_erase_of_mem twh]; omega
      have wh1 : ∀ k, k ∈ wh.erase t ↔ (k < T ∧ pu_set mk t 1 k = 0) := fun k => by
        rw [hnd.mem_erase_iff, hwh]
        by_cases z : k = t
        · rw [z, pu_set_eq]; exact ⟨fun q => absurd rfl q.1, fun q => by omega⟩
        · rw [pu_set_ne _ _ z]; exact ⟨fun q => q.2, fun q => ⟨z, q⟩⟩
      have gr1 : ∀ c, c < T → (∀ rk, pu_ac T up ar R rk → rk c < rk t) → ∀ g, g < T → pu_set mk t 1 g = 1 → ∀ rk, pu_ac T up ar R rk → rk c < rk g := fun c hc hct g hg' hm rk hrk => by
        have := hct rk hrk
        by_cases z : g = t
        · rw [z]; exact this
        · rw [pu_set_ne _ _ z] at hm
          have := hg g hg' hm rk hrk
          omega
      have la : ∀ rk, pu_ac T up ar R rk → rk (R a) < rk t := fun rk hrk => (hrk t ht hu a b ea).1
      have lb : ∀ rk, pu_ac T up ar R rk → rk (R b) < rk t := fun rk hrk => (hrk t ht hu a b ea).2
      have r1 : fa_st w 205 t 1 200 t = (a : Int) := (f1 _ _ (by omega)).trans ta.1
      rw [r1, pm_find hI hU1 bb.1]
      dsimp only [Option.bind_some]
      generalize fa_st w 205 t 1 = w8 at hU1 f1 MK1 ⊢
      obtain ⟨b1, w14, c1, c2, c3, c4⟩ := ih (R a) (pu_set mk t 1) (wh.erase t) w8 (by omega) (hnd.erase t) wh1 ra.2.1 ra.2.2 hU1 MK1 wf1 (gr1 _ ra.2.1 la)
      rw [c1]
      dsimp only [fa_bd, Option.bind_some]
      have fail : ∀ (wz : fa_W), (∀ i j, i ≠ 205 → wz i j = w i j) → (∀ rk, ¬ pu_ac T up ar R rk) → ∃ (bo : Bool) (w' : fa_W), fm_Mod_isBounded_j79 (t : Int) (fm_Mod_isBounded n) wz = some (bo, w') ∧ (∀ i j, i ≠ 205 → w' i j = w i j) ∧ (bo = true → ∃ (mk' : Nat → Nat) (wh' : List Nat), pm_MK T mk' w' ∧ pm_wf T up ar R mk' ∧ (∀ k, k < T → (mk' k = 1 ↔ mk k = 1)) ∧ (∀ k, k < T → mk k = 2 → mk' k = 2) ∧ wh'.Nodup ∧ (∀ k, k ∈ wh' ↔ (k < T ∧ mk' k = 0)) ∧ wh'.length ≤ wh.length ∧ (some (a, b) = none ∨ mk' t = 2)) ∧ (bo = false → ∀ rk, ¬ pu_ac T up ar R rk) := by
        intro wz hz hno
        unfold fm_Mod_isBounded_j79 fm_Mod_isBounded_j80
        rw [pb_ix (n := 1200) (by omega) (by omega)]
        exact ⟨false, _, rfl, fun i j q => (fa_st_ne (fun z => q z.1)).trans (hz i j q), (fun z => by cases z), fun _ => hno⟩
      have f14 : ∀ i j, i ≠ 205 → w14 i j = w i j := fun i j q => (c2 i j q).trans (f1 i j q)
      cases b1 with
      | false =>
        rw [if_neg (by decide)]
        exact fail w14 f14 (c4 rfl)
      | true =>
        rw [if_pos rfl]
        obtain ⟨mk2, wh2, d1, d2, d3, d4, d5, d6, d7, d8⟩ := c3 rfl
        have hU2 : pm_U T up ar false w14 := pm_U_of hU1 (fun i j q => c2 i j (by omega))
        rw [f14 201 t (by omega), ta.2, pm_find hI hU2 bb.2]
        dsimp only [Option.bind_some]
        obtain ⟨b2, w23, g1, g2, g3, g4⟩ := ih (R b) mk2 wh2 w14 (by omega) d5 d6 rb.2.1 rb.2.2 hU2 d1 d2 (fun g hg' hm rk hrk => gr1 _ rb.2.1 lb g hg' ((d3 g hg').mp hm) rk hrk)
        rw [g1]
        dsimp only [fa_bd, Option.bind_some]
        have f23 : ∀ i j, i ≠ 205 → w23 i j = w i j := fun i j q => (g2 i j q).trans (f14 i j q)
        cases b2 with
        | false =>
          rw [if_neg (by decide)]
          exact fail w23 f23 (g4 rfl)
        | true =>
          rw [if_pos rfl]
          obtain ⟨mk3, wh3, u1, u2, u3, u4, u5, u6, u7, u8⟩ := g3 rfl
          unfold fm_Mod_isBounded_j80
          rw [pb_ix (n := 1200) (by omega) (by omega)]
          have m3t : mk3 t = 1 := (u3 t ht).mpr ((d3 t ht).mpr (pu_set_eq _ _ _))
          refine ⟨true, _, rfl, fun i j q => (fa_st_ne (fun z => q z.1)).trans (f23 i j q), fun _ => ⟨pu_set mk3 t 2, wh3, fun k hk => ?_, ?_, fun k hk => ?_, fun k hk h2 => ?_, u5, fun k => ?_, by omega, Or.inr (pu_set_eq _ _ _)⟩, (fun z => by cases z)⟩
          · by_cases z : k = t
            · rw [z, pu_set_eq, fa_st_eq]; exact ⟨rfl, by omega⟩
            · rw [pu_set_ne _ _ z, fa_st_ne (by omega)]; exact u1 k hk
          · obtain ⟨rk, h⟩ := u2
            refine ⟨pu_set rk t (rk (R a) + rk (R b) + 1), fun k hk hku h2 x y exy => ?_⟩
            have ra_t : R a ≠ t := fun z => by
              rcases d8 with d8 | d8
              · rw [z, ea] at d8; cases d8
              · rw [z] at d8
                have := (d3 t ht).mpr (pu_set_eq _ _ _)
                omega
            have rb_t : R b ≠ t := fun z => by
              rcases u8 with u8 | u8
              · rw [z, ea] at u8; cases u8
              · rw [z] at u8; omega
            by_cases z : k = t
            · rw [z, ea] at exy
              cases exy
              rw [z, pu_set_eq, pu_set_ne _ _ ra_t, pu_set_ne _ _ rb_t, pu_set_ne _ _ ra_t, pu_set_ne _ _ rb_t]
              exact ⟨d8.elim Or.inl (fun q => Or.inr (u4 _ ra.2.1 q)), u8, by omega, by omega⟩
            · rw [pu_set_ne _ _ z] at h2
              obtain ⟨q1, q2, q3, q4⟩ := h k hk hku h2 x y exy
              have bxy := hab k hk x y exy
              have nt : ∀ v, (ar (R v) = none ∨ mk3 (R v) = 2) → R v ≠ t := fun v hv q => by
                rcases hv with hv | hv
                · rw [q, ea] at hv; cases hv
                · rw [q] at hv; omega
              rw [pu_set_ne _ _ z, pu_set_ne _ _ (nt x q1), pu_set_ne _ _ (nt y q2), pu_set_ne _ _ (nt x q1), pu_set_ne _ _ (nt y q2)]
              exact ⟨q1, q2, q3, q4⟩
          · by_cases z : k = t
            · rw [z, pu_set_eq]; exact ⟨fun q => by omega, fun q => by omega⟩
            · rw [pu_set_ne _ _ z, u3 k hk, d3 k hk, pu_set_ne _ _ z]
          · by_cases z : k = t
            · rw [z] at h2; omega
            · rw [pu_set_ne _ _ z]
              exact u4 k hk (d4 k hk (by rw [pu_set_ne _ _ z]; exact h2))
          · rw [u6]
            by_cases z : k = t
            · rw [z, pu_set_eq, m3t]; exact ⟨fun q => by omega, fun q => by omega⟩
            · rw [pu_set_ne _ _ z]
/-- the loop over all numbers -/
theorem pm_isB_all {T : Nat} {up : Nat → Nat} {ar : pu_A} {R : Nat → Nat} {l : List Nat} {N : Nat} (hI : pu_I T up ar R l N) : ∀ (d j F : Nat) (mk : Nat → Nat) (wh : List Nat) (w : fa_W), j + d = T → d + 1 < F → wh.length < 900 → wh.Nodup → (∀ k, k ∈ wh ↔ (k < T ∧ mk k = 0)) → pm_U T up ar false w → pm_MK T mk w → pm_wf T up ar R mk → (∀ k, k < T → mk k ≠ 1) → (∀ k, k < j → ar (R k) = none ∨ mk (R k) = 2) → ∃ (cl : Bool) (w' : fa_W), fm_Mod_typesAll_l140 F (j : Int) w = some w' ∧ w' 181 44 = fa_bi (!cl) ∧ (∀ i k, i ≠ 205 → ¬ (i = 181 ∧ k = 44) → w' i k = w i k) ∧ (cl = false → ∃ rk, pu_ac T up ar R rk) ∧ (cl = true → ∀ rk, ¬ pu_ac T up ar R rk) := by
  intro d
  induction d with
  | zero =>
    intro j F mk wh w hj hF hwl hnd hwh hU hMK hwf hg hdone
    obtain ⟨F, rfl⟩ : ∃ z, F = z + 1 := ⟨F - 1, by omega⟩
    have hT := hU.2.1
    refine ⟨false, w, ?_, hU.2.2.2.2.2, fun _ _ _ _ => rfl, fun _ => ?_, (fun z => by cases z)⟩
    · unfold fm_Mod_typesAll_l140
      rw [hU.1, pb_wr (by omega), pb_wr (by omega), if_pos (by omega)]
    · obtain ⟨rk, h⟩ := hwf
      obtain ⟨dd, hdd⟩ := pu_walk hI
      refine ⟨rk, fun k hk hu a b ea => ?_⟩
      have rk' : R k = k := (hdd k hk).2.2.2.2.1 hu
      have m2 : mk k = 2 := by
        have := hdone k (by omega)
        rw [rk', ea] at this
        rcases this with q | q
        · cases q
        · exact q
      exact (h k hk hu m2 a b ea).2.2
  | succ d ih =>
    intro j F mk wh w hj hF hwl hnd hwh hU hMK hwf hg hdone
    obtain ⟨F, rfl⟩ : ∃ z, F = z + 1 := ⟨F - 1, by omega⟩
    have hT := hU.2.1
    have hjT : j < T := by omega
    have rj := pu_root hI hjT
    obtain ⟨b, w1, e1, e2, e3, e4⟩ := pm_isB hI 900 (R j) mk wh w hwl hnd hwh rj.2.1 rj.2.2 hU hMK hwf (fun g hg' hm => absurd hm (hg g hg'))
    have e44 : w 181 44 = fa_bi true := hU.2.2.2.2.2
    have red : fm_Mod_typesAll_l140 (F + 1) (j : Int) w = fm_Mod_typesAll_l140 F ((j : Int) + 1) (fa_st w1 181 44 (fa_bi b)) := by
      show (if fa_wr (w 181 43) ≤ fa_wr (j : Int) then _ else _) = _
      rw [hU.1, pb_wr (by omega), pb_wr (by omega), if_neg (by omega), e44, if_pos (by decide), pm_find hI hU hjT]
      dsimp only [Option.bind_some]
      rw [e1]
      rfl
    rw [red]
    have fr : ∀ i k, i ≠ 205 → ¬ (i = 181 ∧ k = 44) → fa_st w1 181 44 (fa_bi b) i k = w i k := fun i k a c => (fa_st_ne c).trans (e2 i k a)
    cases b with
    | false =>
      refine ⟨true, _, ?_, fa_st_eq _ _ _ _, fr, (fun z => by cases z), fun _ => e4 rfl⟩
      obtain ⟨F, rfl⟩ : ∃ z, F = z + 1 := ⟨F - 1, by omega⟩
      show (if fa_wr (fa_st w1 181 44 (fa_bi false) 181 43) ≤ fa_wr ((j : Int) + 1) then _ else _) = _
      rw [fa_st_eq, if_neg (show ¬ (decide (fa_bi false ≠ 0) = true) by decide)]
      split <;> rfl
    | true =>
      obtain ⟨mk', wh', u1, u2, u3, u4, u5, u6, u7, u8⟩ := e3 rfl
      have U' : pm_U T up ar false (fa_st w1 181 44 (fa_bi true)) := by
        obtain ⟨h1, h2, h3, h4, h5, h6⟩ := hU
        exact ⟨by rw [fr _ _ (by omega) (by omega)]; exact h1, h2, fun k hk => by rw [fr _ _ (by omega) (by omega)]; exact h3 k hk, fun k hk => by rw [fr _ _ (by omega) (by omega)]; exact h4 k hk, fun k hk a b q => by rw [fr _ _ (by omega) (by omega), fr _ _ (by omega) (by omega)]; exact h5 k hk a b q, fa_st_eq _ _ _ _⟩
      obtain ⟨cl, w', y1, y2, y3, y4, y5⟩ := ih (j + 1) F mk' wh' (fa_st w1 181 44 (fa_bi true)) (by omega) (by omega) (by omega) u5 u6 U' (fun k hk => by rw [fa_st_ne (by omega)]; exact u1 k hk) u2 (fun k hk z => hg k hk ((u3 k hk).mp z)) (fun k hk => by
        by_cases z : k = j
        · rw [z]; exact u8
        · rcases hdone k (by omega) with q | q
          · exact Or.inl q
          · exact Or.inr (u4 _ (pu_root hI (by omega)).2.1 q))
      exact ⟨cl, w', y1, y2, fun i k a c => (y3 i k a c).trans (fr i k a c), y4, y5⟩
theorem pm_marks {T : Nat} : ∀ (d j F : Nat) (w : fa_W), j + d = T → T ≤ 400 → d < F → w 181 43 = (T : Int) → (∀ k, k < j → w 205 k = 0) → ∃ w', fm_Mod_typesAll_l117 F (j : Int) w = fm_Mod_typesAll_l140 fa_FU 0 w' ∧ (∀ k, k < T → w' 205 k = 0) ∧ ∀ i k, i ≠ 205 → w' i k = w i k := by
  intro d
  induction d with
  | zero =>
    intro j F w hj hT hF h43 h
    obtain ⟨F, rfl⟩ : ∃ z, F = z + 1 := ⟨F - 1, by omega⟩
    refine ⟨w, ?_, fun k hk => h k (by omega), fun _ _ _ => rfl⟩
    unfold fm_Mod_typesAll_l117
    rw [h43, pb_wr (by omega), pb_wr (by omega), if_pos (by omega)]
  | succ d ih =>
    intro j F w hj hT hF h43 h
    obtain ⟨F, rfl⟩ : ∃ z, F = z + 1 := ⟨F - 1, by omega⟩
    unfold fm_Mod_typesAll_l117
    rw [h43, pb_wr (by omega), pb_wr (by omega), if_neg (by omega), pb_ix (n := 1200) (by omega) (by omega)]
    dsimp only [Option.bind_some, fa_let]
    obtain ⟨w', y1, y2, y3⟩ := ih (j + 1) F (fa_st w 205 j 0) (by omega) hT (by omega) (by rw [fa_st_ne (by omega)]; exact h43) (fun k hk => by
      by_cases z : k = j
      · rw [z]; exact fa_st_eq _ _ _ _
      · rw [fa_st_ne (by omega)]; exact h k (by omega))
    exact ⟨w', y1, y2, fun i k a => (y3 i k a).trans (fa_st_ne (fun z => a z.1))⟩
/-- the reference's TYPES of the program -/
def pm_TV (gs : ps_G) (t : pt_T) (nf nd : Nat) (w : fa_W) : Prop := ∃ (T : Nat) (up : Nat → Nat) (ar : pu_A) (R : Nat → Nat) (l : List Nat) (N : Nat) (rk : Nat → Nat), pm_U T up ar false w ∧ pu_I T up ar R l N ∧ (∀ n, n < nd → w 203 n = ((125 + n : Nat) : Int)) ∧ (∀ f, f < nf → w 206 f = ((125 + nd + f : Nat) : Int)) ∧ nd ≤ 100 ∧ nf ≤ 24 ∧ 0 < nd ∧ 125 + nd + nf ≤ T ∧ pu_Q nf gs t T up ar (fun f => 125 + nd + f) (125 + (nd - 1)) ∧ pu_ac T up ar R rk
theorem pm_TV_of {gs : ps_G} {t : pt_T} {nf nd : Nat} {w w' : fa_W} (h : pm_TV gs t nf nd w) (e : ∀ i j, (199 ≤ i ∧ i ≤ 206) ∨ (i = 181 ∧ (j = 43 ∨ j = 44)) → w' i j = w i j) : pm_TV gs t nf nd w' := by
  obtain ⟨T, up, ar, R, l, N, rk, h1, h2, h3, h4, h5, h6, h7, h8, h9, h10⟩ := h
  exact ⟨T, up, ar, R, l, N, rk, pm_U_of h1 (fun i j q => e i j (by omega)), h2, fun n hn => by rw [e _ _ (by omega)]; exact h3 n hn, fun f hf => by rw [e _ _ (by omega)]; exact h4 f hf, h5, h6, h7, h8, h9, h10⟩
theorem pm_typesAll {gs : ps_G} {t : pt_T} {la li si nd : Nat} {w : fa_W} (hV : pn_V gs t la li si nd) (hW : pm_Pw gs t la li si nd w) : ∃ (cl : Bool) (w' : fa_W), fm_Mod_typesAll w = some w' ∧ w' 181 44 = fa_bi (!cl) ∧ (cl = false → (∃ r, pv_P r gs t) ∧ pm_TV gs t (gs.length + la) nd w') ∧ (cl = true → ¬ ∃ r, pv_P r gs t) ∧ ∀ i j, ¬ (199 ≤ i ∧ i ≤ 206) → ¬ (i = 181 ∧ (j = 43 ∨ j = 44)) → w' i j = w i j := by
  obtain ⟨w1, T, up, ar, cl, R, l, N, bd, e1, hI, hS, hC, hnd, fr⟩ := pm_types1 hV hW
  obtain ⟨a1, a2, a3, a4, a5, a6, a7, a8, a9, a10⟩ := id hI
  have hT := a1.2.1
  obtain ⟨FU, hFU⟩ : ∃ F, F = fa_FU := ⟨_, rfl⟩
  have hF2 : 1000 < FU := by rw [hFU]; unfold fa_FU; omega
  obtain ⟨w2, e2, z2, k2⟩ := pm_marks (T := T) T 0 FU w1 (by omega) hT (by omega) a1.1 (fun k hk => by omega)
  rw [e1, ← hFU]
  rw [show ((0 : Nat) : Int) = 0 from rfl, ← hFU] at e2
  rw [e2]
  have U2 := pm_U_of a1 (fun i j q => k2 i j (by omega))
  have fr2 : ∀ i j, ¬ (199 ≤ i ∧ i ≤ 206) → ¬ (i = 181 ∧ (j = 43 ∨ j = 44)) → w2 i j = w i j := fun i j a b => (k2 i j (by omega)).trans (fr i j (by omega) (by omega) b)
  cases cl with
  | true =>
    refine ⟨true, w2, ?_, U2.2.2.2.2.2, (fun z => by cases z), fun _ hr => ?_, fr2⟩
    · obtain ⟨F, rfl⟩ : ∃ z, FU = z + 1 := ⟨FU - 1, by omega⟩
      show (if fa_wr (w2 181 43) ≤ fa_wr 0 then _ else _) = _
      rw [U2.2.2.2.2.2, if_neg (show ¬ (decide (fa_bi (!true) ≠ 0) = true) by decide)]
      split <;> rfl
    · obtain ⟨r, hr⟩ := hr
      have := (hS r hr).1
      cases this
  | false =>
    have wh : ∀ k, k ∈ List.range T ↔ (k < T ∧ (fun _ : Nat => 0) k = 0) := fun k => by
      rw [List.mem_range]
      exact ⟨fun h => ⟨h, rfl⟩, fun h => h.1⟩
    obtain ⟨cl, w3, y1, y2, y3, y4, y5⟩ := pm_isB_all a2 T 0 FU (fun _ => 0) (List.range T) w2 (by omega) (by omega) (by rw [List.length_range]; omega) List.nodup_range wh U2 (fun k hk => ⟨z2 k hk, Nat.zero_le _⟩) ⟨fun _ => 0, fun k _ _ h => by change 0 = 2 at h; omega⟩ (fun k _ h => by change 0 = 1 at h; omega) (fun k hk => by omega)
    rw [show ((0 : Nat) : Int) = 0 from rfl] at y1
    have fr3 : ∀ i j, ¬ (199 ≤ i ∧ i ≤ 206) → ¬ (i = 181 ∧ (j = 43 ∨ j = 44)) → w3 i j = w i j := fun i j a b => (y3 i j (by omega) (by omega)).trans (fr2 i j a b)
    refine ⟨cl, w3, y1, y2, fun hcl => ?_, fun hcl hr => ?_, fr3⟩
    · obtain ⟨rk, hrk⟩ := y4 hcl
      obtain ⟨M, hM⟩ := pu_bd rk T
      have hC' := hC rfl
      have ex : ∃ r, pv_P r gs t := by
        obtain ⟨r, hr, _⟩ := hC' _ (pu_ev_0 a2 hrk hM)
        exact ⟨r, hr⟩
      have U3 : pm_U T up ar false w3 := by
        obtain ⟨h1, h2, h3, h4, h5, h6⟩ := U2
        exact ⟨by rw [y3 _ _ (by omega) (by omega)]; exact h1, h2, fun k hk => by rw [y3 _ _ (by omega) (by omega)]; exact h3 k hk, fun k hk => by rw [y3 _ _ (by omega) (by omega)]; exact h4 k hk, fun k hk a b q => by rw [y3 _ _ (by omega) (by omega), y3 _ _ (by omega) (by omega)]; exact h5 k hk a b q, by rw [y2, hcl]⟩
      have f13 : ∀ i j, i ≠ 205 → ¬ (i = 181 ∧ j = 44) → w3 i j = w1 i j := fun i j a b => (y3 i j a b).trans (k2 i j a)
      refine ⟨ex, T, up, ar, R, l, N, rk, U3, a2, fun n hn => by rw [f13 _ _ (by omega) (by omega)]; exact a3 n hn, fun f hf => by rw [f13 _ _ (by omega) (by omega)]; exact (a5 f hf).1, a7, a8, hnd, a10, ⟨by omega, fun f hf => by dsimp only; omega, fun r hr => ?_, fun val h0 => ?_⟩, hrk⟩
      · obtain ⟨_, val, v0, v1, v2⟩ := hS r hr
        exact ⟨val, v0, v1, v2⟩
      · obtain ⟨r, hr, v1, v2⟩ := hC' val h0
        exact ⟨r, hr, v1, v2⟩
    · obtain ⟨r, hr⟩ := hr
      obtain ⟨_, val, v0, _⟩ := hS r hr
      exact y5 hcl _ (pu_ac_0 a2 v0)
