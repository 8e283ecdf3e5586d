/-- the reference holds the program -/
def pm_Pw (gs : ps_G) (t : pt_T) (la li si nd : Nat) (w : fa_W) : Prop := w 181 16 = (nd : Int) ∧ w 181 17 = (gs.length : Int) ∧ w 181 18 = (la : Int) ∧ w 181 19 = (li : Int) ∧ w 181 20 = (si : Int) ∧ w 181 21 = ((nd - 1 : Nat) : Int) ∧ w 181 35 = (nd : Int) ∧ pm_GH gs 0 0 w ∧ ∃ b, b + pt_sz t = nd ∧ pm_H t (-1) b w
theorem pn_os_app (gs : ps_G) (t : pt_T) (l m : List Nat) : pn_os gs t (l ++ m) = pn_os gs t l + pn_os gs t m := by
  induction l with
  | nil => exact (Nat.zero_add _).symm
  | cons y r ih =>
    show pt_sz (pn_tr gs t y) + pn_os gs t (r ++ m) = pt_sz (pn_tr gs t y) + pn_os gs t r + pn_os gs t m
    rw [ih, Nat.add_assoc]
theorem pm_GH_L {gs : ps_G} {t : pt_T} {w : fa_W} : ∀ (gs' : ps_G) (g a b : Nat), (∀ j, pn_tr gs t (g + j) = pn_tr gs' t j) → g + gs'.length = gs.length → pm_GH gs' g a w → a + pn_os gs t (List.range' g gs'.length) = b → pm_H t (-1) b w → pm_L gs t (List.range' g (gs'.length + 1)) a w := by
  intro gs'
  induction gs' with
  | nil =>
    intro g a b ht hl _ hb H
    have e : pn_tr gs t g = t := ht 0
    rw [List.length_nil, Nat.add_zero] at hl
    have eb : a = b := hb
    refine ⟨?_, fun q => by omega, trivial⟩
    rw [e, eb]
    unfold pn_ow
    rw [if_neg (by omega)]
    exact H
  | cons x r ih =>
    intro g a b ht hl HG hb H
    obtain ⟨n, v, t'⟩ := x
    obtain ⟨c1, c2, c3, c4, c5, c6, c7⟩ := HG
    rw [List.length_cons] at hl hb ⊢
    have e : pn_tr gs t g = t' := ht 0
    rw [List.range'_succ] at hb ⊢
    have i := ih (g + 1) (a + pt_sz t') b (fun j => by rw [show g + 1 + j = g + (j + 1) by omega]; exact ht (j + 1)) (by omega) c7 (by rw [← hb]; show a + pt_sz t' + _ = a + (pt_sz (pn_tr gs t g) + _); rw [e, Nat.add_assoc]) H
    refine ⟨?_, fun _ => ?_, ?_⟩
    · rw [e]
      unfold pn_ow
      rw [if_pos (by omega)]
      exact c6
    · rw [e]; exact c2
    · rw [e]; exact i
def pm_ts (gs : ps_G) (t : pt_T) : List Nat → Nat → List (pt_T × Nat)
  | [], _ => []
  | g :: r, a => (pn_tr gs t g, a) :: pm_ts gs t r (a + pt_sz (pn_tr gs t g))
theorem pm_ts_snoc (gs : ps_G) (t : pt_T) (g : Nat) : ∀ (l : List Nat) (a : Nat), pm_ts gs t (l ++ [g]) a = pm_ts gs t l a ++ [(pn_tr gs t g, a + pn_os gs t l)] := by
  intro l
  induction l with
  | nil => intro a; rfl
  | cons y r ih =>
    intro a
    show (pn_tr gs t y, a) :: pm_ts gs t (r ++ [g]) _ = (pn_tr gs t y, a) :: (pm_ts gs t r _ ++ _)
    rw [ih, Nat.add_assoc]
    rfl
theorem pm_ts_mem (gs : ps_G) (t : pt_T) : ∀ (l : List Nat) (a : Nat) (p : pt_T × Nat), p ∈ pm_ts gs t l a ↔ ∃ o1 g o2, l = o1 ++ g :: o2 ∧ p = (pn_tr gs t g, a + pn_os gs t o1) := by
  intro l
  induction l with
  | nil =>
    intro a p
    constructor
    · intro h; cases h
    · rintro ⟨o1, g, o2, e, _⟩
      cases o1 <;> cases e
  | cons y r ih =>
    intro a p
    constructor
    · intro h
      rcases List.mem_cons.mp h with rfl | h
      · exact ⟨[], y, r, rfl, rfl⟩
      · obtain ⟨o1, g, o2, e, q⟩ := (ih _ p).mp h
        refine ⟨y :: o1, g, o2, by rw [e]; rfl, ?_⟩
        rw [q]
        show _ = (pn_tr gs t g, a + (pt_sz (pn_tr gs t y) + pn_os gs t o1))
        rw [Nat.add_assoc]
    · rintro ⟨o1, g, o2, e, q⟩
      cases o1 with
      | nil =>
        rw [List.nil_append] at e
        injection e with e1 e2
        rw [q, ← e1]
        exact List.mem_cons_self ..
      | cons z o1 =>
        rw [List.cons_append] at e
        injection e with e1 e2
        refine List.mem_cons_of_mem _ ((ih _ p).mpr ⟨o1, g, o2, e2, ?_⟩)
        rw [q, e1]
        show (pn_tr gs t g, a + (pt_sz (pn_tr gs t z) + pn_os gs t o1)) = _
        rw [Nat.add_assoc]
/-- the loop over the nodes, item by item -/
theorem pm_ty_L {nf nd la li : Nat} {gs : ps_G} {t : pt_T} {K K' : Nat → pk_K} {bd : Nat → Nat} (hK : pn_K gs t K K' la li) (hnf : nf = gs.length + la) (hli : li ≤ 100) (hT : ∀ g, pt_tw (pn_tr gs t g)) {T0 : Nat} {up0 : Nat → Nat} {ar0 : pu_A} {cl0 : Bool} (hT0 : 125 + nd + nf ≤ T0) : ∀ (r done : List Nat) (T : Nat) (up : Nat → Nat) (ar : pu_A) (cl : Bool) (R : Nat → Nat) (l : List Nat) (N : Nat) (w : fa_W), (∀ g ∈ r, g ≤ gs.length) → (∀ g ∈ done, g ≤ gs.length ∧ g ∉ r) → r.Nodup → pm_L gs t r (pn_os gs t done) w → pn_os gs t done + pn_os gs t r ≤ nd → pm_TI nf nd T bd up ar cl R l N w → T + pn_os gs t r ≤ 400 → pm_TS gs.length nf nd (pm_ts gs t done 0) (fun d => ∃ g ∈ done, pv_iv (K g).2.2.2 (K' g).2.2.2 d) (fun s => ∃ g ∈ done, pv_iv (K g).2.2.1 (K' g).2.2.1 s) T0 up0 ar0 cl0 T up ar cl → ∃ w' T' up' ar' cl' R' l' N', (∀ F, fm_Mod_typesAll_l95 (F + pn_os gs t r) 0 (pn_os gs t done : Int) w = fm_Mod_typesAll_l95 F 0 ((pn_os gs t (done ++ r) : Nat) : Int) w') ∧ pm_TI nf nd T' bd up' ar' cl' R' l' N' w' ∧ pm_TS gs.length nf nd (pm_ts gs t (done ++ r) 0) (fun d => ∃ g ∈ done ++ r, pv_iv (K g).2.2.2 (K' g).2.2.2 d) (fun s => ∃ g ∈ done ++ r, pv_iv (K g).2.2.1 (K' g).2.2.1 s) T0 up0 ar0 cl0 T' up' ar' cl' ∧ T' ≤ T + pn_os gs t r ∧ pm_tf w w' := by
  intro r
  induction r with
  | nil =>
    intro done T up ar cl R l N w hr hdn hnd hL ha hI hTT hTS
    rw [List.append_nil]
    exact ⟨w, T, up, ar, cl, R, l, N, fun F => rfl, hI, hTS, Nat.le_refl _, fun _ _ _ _ => rfl⟩
  | cons g r ih =>
    intro done T up ar cl R l N w hr hdn hnd hL ha hI hTT hTS
    obtain ⟨L1, L2, L3⟩ := hL
    have eo : pn_os gs t (g :: r) = pt_sz (pn_tr gs t g) + pn_os gs t r := rfl
    have hg := hr g (List.mem_cons_self ..)
    obtain ⟨k1, k2, k3, k4, gl', sc', k5, k6, k8⟩ := hK.1 g hg
    have ps := pt_sz_pos (pn_tr gs t g)
    have nd2 := List.nodup_cons.mp hnd
    have h24 := hI.2.2.2.2.2.2.2.1
    obtain ⟨w1, T1, up1, ar1, cl1, R1, l1, N1, p1, p2, p4, p5, p7⟩ := pm_ty_t (pn_tr gs t g) k1 gl' sc' (pn_ow gs.length g) (K g) (K' g) (pn_os gs t done) T up ar cl R l N w (by omega) k2 (by omega) (by omega) k5 (fun b hb => by have := k8 b hb; omega) L1 (by omega) hI (by omega)
    have ord : ∀ x, x ≤ gs.length → x ≠ g → (pk_ge (K' x) (K g) ∨ pk_ge (K' g) (K x)) := fun x h1 h2 => by
      by_cases z : x < g
      · exact Or.inl (hK.2 x g z hg)
      · exact Or.inr (hK.2 g x (by omega) h1)
    have mm : ∀ x, x ∈ done ++ [g] ↔ x ∈ done ∨ x = g := fun x => by simp
    have TS1 := pm_TS_snoc (P' := fun d => ∃ x ∈ done ++ [g], pv_iv (K x).2.2.2 (K' x).2.2.2 d) (Q' := fun s => ∃ x ∈ done ++ [g], pv_iv (K x).2.2.1 (K' x).2.2.1 s) hT0 (by omega) hTS k1 k2 p4 (fun d z1 z2 ⟨x, z3, z4⟩ => by
        have h1 := hdn x z3
        have h2 := ord x h1.1 (fun e => h1.2 (by rw [e]; exact List.mem_cons_self ..))
        unfold pv_iv at z4
        unfold pk_ge at h2
        omega) (fun d z1 z2 ⟨x, z3, z4⟩ => by
        have h1 := hdn x z3
        have h2 := ord x h1.1 (fun e => h1.2 (by rw [e]; exact List.mem_cons_self ..))
        unfold pv_iv at z4
        unfold pk_ge at h2
        omega) (fun d => by
        constructor
        · rintro ⟨x, h1, h2⟩
          rcases (mm x).mp h1 with h1 | rfl
          · exact Or.inl ⟨x, h1, h2⟩
          · exact Or.inr h2
        · rintro (⟨x, h1, h2⟩ | h2)
          · exact ⟨x, (mm x).mpr (Or.inl h1), h2⟩
          · exact ⟨g, (mm g).mpr (Or.inr rfl), h2⟩) (fun d => by
        constructor
        · rintro ⟨x, h1, h2⟩
          rcases (mm x).mp h1 with h1 | rfl
          · exact Or.inl ⟨x, h1, h2⟩
          · exact Or.inr h2
        · rintro (⟨x, h1, h2⟩ | h2)
          · exact ⟨x, (mm x).mpr (Or.inl h1), h2⟩
          · exact ⟨g, (mm g).mpr (Or.inr rfl), h2⟩)
    have es : pm_ts gs t done 0 ++ [(pn_tr gs t g, pn_os gs t done)] = pm_ts gs t (done ++ [g]) 0 := by rw [pm_ts_snoc, Nat.zero_add]
    rw [es] at TS1
    have eos : pn_os gs t (done ++ [g]) = pn_os gs t done + pt_sz (pn_tr gs t g) := by rw [pn_os_app]; rfl
    obtain ⟨w', T', up', ar', cl', R', l', N', y1, y2, y3, y5, y7⟩ := ih (done ++ [g]) T1 up1 ar1 cl1 R1 l1 N1 w1 (fun x hx => hr x (List.mem_cons_of_mem _ hx)) (fun x hx => by
        rcases (mm x).mp hx with hx | rfl
        · exact ⟨(hdn x hx).1, fun z => (hdn x hx).2 (List.mem_cons_of_mem _ z)⟩
        · exact ⟨hg, nd2.1⟩) nd2.2 (by rw [eos]; exact pm_L_ob (pm_ob_tf p7) hT r _ L3) (by omega) p2 (by omega) TS1
    have ea : done ++ [g] ++ r = done ++ g :: r := by simp
    rw [ea] at y1 y3
    refine ⟨w', T', up', ar', cl', R', l', N', fun F => ?_, y2, y3, by omega, pm_tf_tr p7 y7⟩
    rw [eo, show F + (pt_sz (pn_tr gs t g) + pn_os gs t r) = F + pn_os gs t r + pt_sz (pn_tr gs t g) by omega, p1, ← eos]
    exact y1 F
