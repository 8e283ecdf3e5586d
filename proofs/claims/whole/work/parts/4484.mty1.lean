theorem pn_lam_item {B : Nat} {t : pt_T} : ∀ (gs : ps_G) (gl : List Nat) (k k1 k2 : pk_K), pn_GW B gs gl k k1 → pn_can B t k1 k2 → ∀ f, B + k.1 ≤ f → f < B + k2.1 → ∃ g, g ≤ gs.length ∧ ∃ ka kb, pn_can B (pn_tr gs t g) ka kb ∧ B + ka.1 ≤ f ∧ f < B + kb.1 := by
  intro gs
  induction gs with
  | nil =>
    intro gl k k1 k2 h hc f h1 h2
    cases h
    exact ⟨0, Nat.le_refl _, k, k2, hc, h1, h2⟩
  | cons e r ih =>
    intro gl k k1 k2 h hc f h1 h2
    obtain ⟨x, v, t'⟩ := e
    obtain ⟨_, _, _, tt, _, k3, h6, h7⟩ := h
    by_cases z : f < B + k3.1
    · exact ⟨0, Nat.zero_le _, k, k3, h6, h1, z⟩
    · obtain ⟨g, g1, ka, kb, g2, g3, g4⟩ := ih _ _ _ _ h7 hc f (by omega) h2
      exact ⟨g + 1, by rw [List.length_cons]; omega, ka, kb, g2, g3, g4⟩
theorem pm_L_at {gs : ps_G} {t : pt_T} {w : fa_W} : ∀ (os : List Nat) (a : Nat), pm_L gs t os a w → ∀ (o1 : List Nat) (g : Nat) (o2 : List Nat), os = o1 ++ g :: o2 → pm_H (pn_tr gs t g) (pn_ow gs.length g) (a + pn_os gs t o1) w ∧ (g < gs.length → w 189 g = ((a + pn_os gs t o1 + pt_sz (pn_tr gs t g) - 1 : Nat) : Int)) := by
  intro os
  induction os with
  | nil => intro a _ o1 g o2 e; cases o1 <;> cases e
  | cons x q ih =>
    intro a H o1 g o2 e
    cases o1 with
    | nil =>
      rw [List.nil_append] at e
      injection e with e1 e2
      rw [← e1]
      exact ⟨H.1, H.2.1⟩
    | cons y o1 =>
      rw [List.cons_append] at e
      injection e with e1 e2
      have := ih _ H.2.2 o1 g o2 e2
      rw [← e1]
      show pm_H (pn_tr gs t g) (pn_ow gs.length g) (a + (pt_sz (pn_tr gs t x) + pn_os gs t o1)) w ∧ (g < gs.length → w 189 g = ((a + (pt_sz (pn_tr gs t x) + pn_os gs t o1) + pt_sz (pn_tr gs t g) - 1 : Nat) : Int))
      rw [← Nat.add_assoc]
      exact this
theorem pn_range_at {n g : Nat} (h : g < n) : List.range n = List.range g ++ g :: (List.range' (g + 1) (n - g - 1)) := by
  rw [List.range_eq_range', List.range_eq_range']
  have e := @List.range'_append_1 0 g (n - g - 1 + 1)
  rw [Nat.zero_add, List.range'_succ] at e
  rw [e]
  congr 1
  omega
theorem pm_types1 {gs : ps_G} {t : pt_T} {la li si nd : Nat} {w : fa_W} (hV : pn_V gs t la li si nd) (hW : pm_Pw gs t la li si nd w) : ∃ w' T up ar cl R l N bd, fm_Mod_typesAll w = fm_Mod_typesAll_l117 fa_FU 0 w' ∧ pm_TI (gs.length + la) nd T bd up ar cl R l N w' ∧ (∀ r, pv_P r gs t → cl = false ∧ ∃ val, pu_0 T up ar val ∧ (∀ f, f < gs.length + la → val (125 + nd + f) = r.2.1 f) ∧ val (125 + (nd - 1)) = pv_t r t) ∧ (cl = false → ∀ val, pu_0 T up ar val → ∃ r, pv_P r gs t ∧ (∀ f, f < gs.length + la → val (125 + nd + f) = r.2.1 f) ∧ val (125 + (nd - 1)) = pv_t r t) ∧ 0 < nd ∧ ∀ i j, ¬ (199 ≤ i ∧ i ≤ 204) → i ≠ 206 → ¬ (i = 181 ∧ (j = 43 ∨ j = 44)) → w' i j = w i j := by
  obtain ⟨K, K', hK⟩ := pn_K_of hV
  obtain ⟨v1, v2, v3, v4, v5, v6, v7, k1, v8, v9⟩ := id hV
  obtain ⟨bd, hbd⟩ := pm_bds hV hW
  obtain ⟨L, o1, o2⟩ := pm_Pw_L hV hW
  have tw := pn_tr_tw v6 gs _ _ _ v8
  have pp := pt_sz_pos t
  obtain ⟨w1, e1, I1, k1'⟩ := pm_first (nf := gs.length + la) (nd := nd) (bd := bd) (by omega) v3 (fun f hf => (hbd f hf).2) hW.1 (by rw [hW.2.1, hW.2.2.1]; rfl) (fun f hf => (hbd f hf).1)
  have ob1 : pm_ob w w1 := fun i j a b => k1' i j (by omega) (by omega) (by omega)
  obtain ⟨w2, T2, up2, ar2, cl2, R2, l2, N2, p1, p2, p3, p5, p7⟩ := pm_ty_L hK rfl v5 tw (Nat.le_refl _) (List.range (gs.length + 1)) [] (125 + nd + (gs.length + la)) _ _ _ _ _ _ w1 (fun g hg => by rw [List.mem_range] at hg; omega) (fun g hg => by cases hg) List.nodup_range (pm_L_ob ob1 tw _ _ L) (by show 0 + _ ≤ _; omega) I1 (by omega) (pm_TS_nil _ _ _ _ _ _ _ _ _)
  rw [List.nil_append] at p1 p3
  obtain ⟨FU, hFU⟩ : ∃ F, F = fa_FU := ⟨_, rfl⟩
  have hF2 : 1000 < FU := by rw [hFU]; unfold fa_FU; omega
  have kf : ∀ i j, ¬ (199 ≤ i ∧ i ≤ 204) → i ≠ 206 → ¬ (i = 181 ∧ (j = 43 ∨ j = 44)) → w2 i j = w i j := fun i j a b c => (p7 i j (by omega) c).trans (k1' i j a b c)
  have arr := pm_arr p2
  obtain ⟨b1, b2, b3, b4, b5⟩ := p3
  have memi : ∀ g, g ≤ gs.length → (pn_tr gs t g, pn_os gs t (List.range g)) ∈ pm_ts gs t (List.range (gs.length + 1)) 0 := fun g hg => (pm_ts_mem gs t _ 0 _).mpr ⟨List.range g, g, _, pn_range_at (by omega), by rw [Nat.zero_add]⟩
  have memj : ∀ p ∈ pm_ts gs t (List.range (gs.length + 1)) 0, ∃ g, g ≤ gs.length ∧ p.1 = pn_tr gs t g ∧ p.2 = pn_os gs t (List.range g) := fun p hp => by
    obtain ⟨o1, g, o2, q1, q2⟩ := (pm_ts_mem gs t _ 0 p).mp hp
    have hg : g ∈ List.range (gs.length + 1) := by rw [q1]; simp
    rw [List.mem_range] at hg
    have hl : o1.length = g := by
      have h1 : (List.range (gs.length + 1))[o1.length]? = some g := by rw [q1, List.getElem?_append_right (Nat.le_refl _), Nat.sub_self]; rfl
      have lt := (List.getElem?_eq_some_iff.mp h1)
      obtain ⟨lt, h2⟩ := lt
      rw [List.getElem_range] at h2
      exact h2
    have eo : o1 = List.range g := by
      have := congrArg (List.take o1.length) q1
      rw [List.take_left, List.take_range, hl, Nat.min_eq_left (by omega)] at this
      exact this.symm
    rw [q2, eo, Nat.zero_add]
    exact ⟨g, by omega, rfl, rfl⟩
  have bdG : ∀ g, g < gs.length → bd g = pn_os gs t (List.range g) + pt_sz (pn_tr gs t g) - 1 := fun g hg => by
    have := (pm_L_at _ 0 L _ g _ (pn_range_at (by omega))).2 hg
    rw [(hbd g (by omega)).1, Nat.zero_add] at this
    omega
  refine ⟨w2, T2, up2, ar2, cl2, R2, l2, N2, bd, ?_, p2, fun r hr => ?_, fun c val h0 => ?_, by omega, kf⟩
  · rw [e1, ← hFU]
    obtain ⟨F, hF⟩ : ∃ F, FU = F + 1 + pn_os gs t (List.range (gs.length + 1)) := ⟨FU - 1 - pn_os gs t (List.range (gs.length + 1)), by omega⟩
    have := p1 (F + 1)
    rw [← hF] at this
    have z : ((pn_os gs t [] : Nat) : Int) = 0 := rfl
    rw [z] at this
    rw [this, o2]
    unfold fm_Mod_typesAll_l95
    rw [p2.2.2.2.2.2.1, pb_wr (by omega), if_pos (Int.le_refl _), ← hFU]
  · have pr := (pv_P_iff r gs t).mp hr
    have ll : ∀ os : List Nat, (os.flatMap (fun g => pm_nl r (pn_tr gs t g))).length = pn_os gs t os := by
      intro os
      induction os with
      | nil => rfl
      | cons y q ih =>
        rw [List.flatMap_cons, List.length_append, ih, pm_nl_len r _ (tw y)]
        rfl
    have hval : ∃ val : Nat → pv_T, val 0 = pv_int ∧ (∀ v, v < 124 → val (1 + v) = r.1 v) ∧ (∀ n, n < nd → ((List.range (gs.length + 1)).flatMap (fun g => pm_nl r (pn_tr gs t g)))[n]? = some (val (125 + n))) ∧ ∀ f, val (125 + nd + f) = r.2.1 f := by
      refine ⟨fun k => if k = 0 then pv_int else if k < 125 then r.1 (k - 1) else if k < 125 + nd then (((List.range (gs.length + 1)).flatMap (fun g => pm_nl r (pn_tr gs t g)))[k - 125]?).getD pv_int else r.2.1 (k - 125 - nd), rfl, fun v hv => ?_, fun n hn => ?_, fun f => ?_⟩
      · dsimp only
        rw [if_neg (by omega), if_pos (by omega), show 1 + v - 1 = v by omega]
      · dsimp only
        rw [if_neg (by omega), if_neg (by omega), if_pos (by omega), show 125 + n - 125 = n by omega, List.getElem?_eq_getElem (by rw [ll, o2]; exact hn)]
        rfl
      · dsimp only
        rw [if_neg (by omega), if_neg (by omega), if_neg (by omega), show 125 + nd + f - 125 - nd = f by omega]
    obtain ⟨val, z0, z1, z2, z3⟩ := hval
    have nv : ∀ g, g ≤ gs.length → pm_nv r (pn_tr gs t g) (pn_os gs t (List.range g)) val := fun g hg => by
      have := pm_nv_L (r := r) tw (List.range (gs.length + 1)) 0 val (fun i hi => by rw [Nat.zero_add]; exact z2 i (by omega)) _ g _ (pn_range_at (by omega))
      rw [Nat.zero_add] at this
      exact this
    have arrs : ∀ f, f < gs.length + la → r.2.1 f = pv_ar (r.1 f) (val (125 + bd f)) := fun f hf => by
      by_cases z : f < gs.length
      · rw [bdG f z, pm_nv_root _ (tw f) _ _ (nv f (by omega))]
        exact pr.2 f z
      · obtain ⟨g, g1, ka, kb, g2, g3, g4⟩ := pn_lam_item gs _ _ _ _ v8 v9 f (by dsimp only; omega) (by dsimp only; exact hf)
        have H := (pm_L_at _ 0 L _ g _ (pn_range_at (by omega))).1
        rw [Nat.zero_add] at H
        obtain ⟨b, q1, q2, q3⟩ := pm_lam_bd _ (tw g) _ _ _ _ g2 H f g3 g4
        have eb : b = bd f := by
          rw [(hbd f hf).1] at q2
          omega
        rw [← eb]
        exact q3 r val (pr.1 g g1) (nv g g1)
    have h0 : pu_0 (125 + nd + (gs.length + la)) (fun k => k) (pm_a0 nd bd) val := by
      refine ⟨z0, fun k hk => rfl, fun k hk _ a b e => ?_⟩
      unfold pm_a0 at e
      split at e
      · cases e
        obtain ⟨f, rfl⟩ : ∃ f, k = 125 + nd + f := ⟨k - 125 - nd, by omega⟩
        rw [show 125 + nd + f - 125 - nd = f by omega, z3, z1 f (by omega)]
        exact arrs f (by omega)
      · cases e
    obtain ⟨val', c1, c2, c3, c4⟩ := b4 r val (fun p hp => by
      obtain ⟨g, g1, g2, g3⟩ := memj p hp
      rw [g2, g3]
      exact ⟨pr.1 g g1, nv g g1⟩) h0 (fun k hk z => absurd rfl z) ⟨z1, fun f _ => z3 f⟩
    refine ⟨c4, val', c2, fun f hf => by rw [c1 _ (by omega)]; exact z3 f, ?_⟩
    rw [c1 _ (by omega)]
    have := pm_nv_root _ (tw gs.length) _ _ (nv gs.length (Nat.le_refl _))
    rw [pn_tr_len, o1] at this
    exact this
  · obtain ⟨_, q1⟩ := b5 c
    obtain ⟨h1, q2⟩ := q1 val h0
    obtain ⟨hE, q3⟩ := q2 (fun k hk z => absurd rfl z)
    have cs0 : pm_cs (gs.length + la) nd (fun v => val (1 + v), fun f => val (125 + nd + f), fun _ => pv_int, fun _ => pv_int) val := ⟨fun v _ => rfl, fun f _ => rfl⟩
    obtain ⟨r, r1, r2, r3, r4, r5⟩ := q3 _ cs0
    have cs1 := pm_cs_of (T := 125 + nd + (gs.length + la)) (r' := r) (Nat.le_refl _) cs0 r1 r2 (fun _ _ => rfl)
    have m5 := fun g hg => r5 _ (memi g hg)
    refine ⟨r, (pv_P_iff r gs t).mpr ⟨fun g hg => (m5 g hg).1, fun g hg => ?_⟩, cs1.2, ?_⟩
    · have e1 := (m5 g (by omega)).2
      obtain ⟨b, a1, a2⟩ := arr val h0 hE g (by omega)
      have eb : b = bd g := by
        have := p2.2.2.2.2.2.2.2.2.1 g (by omega)
        rw [this] at a1
        have a3 := congrArg Prod.snd (Option.some.inj a1)
        dsimp only at a3
        omega
      rw [eb, bdG g hg] at a2
      dsimp only at e1
      rw [e1, ← cs1.2 g (by omega), ← cs1.1 g (by omega)]
      exact a2
    · have e1 := (m5 gs.length (Nat.le_refl _)).2
      dsimp only at e1
      rw [pn_tr_len, o1] at e1
      exact e1.symm
