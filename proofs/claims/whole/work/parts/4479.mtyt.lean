def pm_ob (w w' : fa_W) : Prop := ∀ i j, 184 ≤ i → i ≤ 195 → w' i j = w i j
theorem pm_H_ob {w w' : fa_W} (hf : pm_ob w w') (t : pt_T) (ht : pt_tw t) : ∀ (h : Int) (a : Nat), pm_H t h a w → pm_H t h a w' := by
  have e : ∀ i j, 184 ≤ i → i ≤ 195 → w' i j = w i j := hf
  induction t, ht using pt_indh with
  | num v => intro h a H; exact ⟨(e _ _ (by omega) (by omega)).trans H.1, (e _ _ (by omega) (by omega)).trans H.2⟩
  | var v x => intro h a H; exact ⟨(e _ _ (by omega) (by omega)).trans H.1, (e _ _ (by omega) (by omega)).trans H.2.1, (e _ _ (by omega) (by omega)).trans H.2.2⟩
  | glo g x => intro h a H; exact ⟨(e _ _ (by omega) (by omega)).trans H.1, (e _ _ (by omega) (by omega)).trans H.2.1, (e _ _ (by omega) (by omega)).trans H.2.2⟩
  | dead d => intro h a H; exact ⟨(e _ _ (by omega) (by omega)).trans H.1, H.2⟩
  | lam f x b tb ih =>
    intro h a H
    obtain ⟨H1, H2, H3, H4, H5, H6, H7⟩ := H
    exact ⟨ih _ _ H1, (e _ _ (by omega) (by omega)).trans H2, (e _ _ (by omega) (by omega)).trans H3, (e _ _ (by omega) (by omega)).trans H4, (e _ _ (by omega) (by omega)).trans H5, (e _ _ (by omega) (by omega)).trans H6, (e _ _ (by omega) (by omega)).trans H7⟩
  | ife ta tb tc wa wb wc iha ihb ihc =>
    intro h a H
    obtain ⟨H1, H2, H3, H4, H5, H6, H7⟩ := H
    exact ⟨iha _ _ H1, ihb _ _ H2, ihc _ _ H3, (e _ _ (by omega) (by omega)).trans H4, (e _ _ (by omega) (by omega)).trans H5, (e _ _ (by omega) (by omega)).trans H6, (e _ _ (by omega) (by omega)).trans H7⟩
  | lt v x ta tb wa wb iha ihb =>
    intro h a H
    obtain ⟨H1, H2, H3, H4, H5, H6, H7, H8⟩ := H
    exact ⟨iha _ _ H1, ihb _ _ H2, (e _ _ (by omega) (by omega)).trans H3, (e _ _ (by omega) (by omega)).trans H4, (e _ _ (by omega) (by omega)).trans H5, (e _ _ (by omega) (by omega)).trans H6, (e _ _ (by omega) (by omega)).trans H7, (e _ _ (by omega) (by omega)).trans H8⟩
  | op s ta tb wa wb iha ihb =>
    intro h a H
    obtain ⟨H1, H2, H3, H4, H5, H6⟩ := H
    exact ⟨iha _ _ H1, ihb _ _ H2, (e _ _ (by omega) (by omega)).trans H3, (e _ _ (by omega) (by omega)).trans H4, (e _ _ (by omega) (by omega)).trans H5, (e _ _ (by omega) (by omega)).trans H6⟩
  | site s ta tb wa wb iha ihb =>
    intro h a H
    obtain ⟨H1, H2, H3, H4, H5, H6, H7, H8⟩ := H
    exact ⟨iha _ _ H1, ihb _ _ H2, (e _ _ (by omega) (by omega)).trans H3, (e _ _ (by omega) (by omega)).trans H4, (e _ _ (by omega) (by omega)).trans H5, (e _ _ (by omega) (by omega)).trans H6, (e _ _ (by omega) (by omega)).trans H7, (e _ _ (by omega) (by omega)).trans H8⟩
theorem pm_ob_tf {w w' : fa_W} (h : pm_tf w w') : pm_ob w w' := fun i j a b => h i j (by omega) (by omega)
set_option maxHeartbeats 4000000 in
theorem pm_ty_t {B nf nd : Nat} {bd : Nat → Nat} (t : pt_T) (tt : pt_tw t) : ∀ (gl : List Nat) (sc : List (Nat × Nat)) (h : Int) (k k' : pk_K) (a T : Nat) (up : Nat → Nat) (ar : pu_A) (cl : Bool) (R : Nat → Nat) (l : List Nat) (N : Nat) (w : fa_W), gl.length ≤ nf → pn_can B t k k' → B + k'.1 ≤ nf → k'.2.1 ≤ 100 → pk_wfs t gl sc → (∀ b ∈ sc, b.1 < 124) → pm_H t h a w → a + pt_sz t ≤ nd → pm_TI nf nd T bd up ar cl R l N w → T + pt_sz t ≤ 400 → pm_TR nf nd a (pt_sz t) bd t k k' T up ar cl w := by
  induction t, tt using pt_indh with
  | num v =>
    intro gl sc h k k' a T up ar cl R l N w hg hc hB hl hw hs hP ha hI hT
    have sz : pt_sz (pt_num v) = 1 := rfl
    obtain ⟨a1, a2, a3, a4, a5, a6, a7, a8, a9, a10⟩ := id hI
    obtain ⟨w1, up1, cl1, R1, l1, N1, e1, I1, P1, f1⟩ := pm_jn hI (a := 125 + a) (b := 0) (by omega) (by omega)
    rw [show ((0 : Nat) : Int) = 0 from rfl] at e1
    have e : fm_Mod_typesOne (a : Int) 0 w = some w1 := by
      unfold fm_Mod_typesOne
      rw [pb_ix (n := 101) (by omega) (by omega)]
      dsimp only [Option.bind_some, fa_let]
      rw [hP.1, a3 a (by omega), fa_wr_id (x := 0) (by omega) (by omega), if_pos rfl, e1]
      rfl
    exact ⟨w1, T, up1, ar, cl1, R1, l1, N1, fun F => pm_ty_fin hI (by omega) e F, I1, pm_TY_leaf (B := B) a10 P1 trivial rfl (by omega) (fun _ => trivial) (fun r val v0 _ nv => nv.trans v0.symm) (fun r val v0 _ => v0), by omega, f1⟩
  | var v x =>
    intro gl sc h k k' a T up ar cl R l N w hg hc hB hl hw hs hP ha hI hT
    have sz : pt_sz (pt_var v x) = 1 := rfl
    obtain ⟨a1, a2, a3, a4, a5, a6, a7, a8, a9, a10⟩ := id hI
    have hv := hs _ (ps_lk_mem sc x v hw.1)
    dsimp only at hv
    obtain ⟨w1, up1, cl1, R1, l1, N1, e1, I1, P1, f1⟩ := pm_jn hI (a := 125 + a) (b := 1 + v) (by omega) (by omega)
    have e : fm_Mod_typesOne (a : Int) 0 w = some w1 := by
      unfold fm_Mod_typesOne
      rw [pb_ix (n := 101) (by omega) (by omega)]
      dsimp only [Option.bind_some, fa_let]
      rw [hP.1, a3 a (by omega), fa_wr_id (x := 1) (by omega) (by omega), if_neg (by decide), if_pos rfl, hP.2.1, pb_ix (n := 124) (by omega) (by omega)]
      dsimp only [Option.bind_some]
      rw [a4 v hv, e1]
      rfl
    exact ⟨w1, T, up1, ar, cl1, R1, l1, N1, fun F => pm_ty_fin hI (by omega) e F, I1, pm_TY_leaf (B := B) a10 P1 trivial rfl (by omega) (fun _ => trivial) (fun r val _ c nv => nv.trans (c.1 v hv).symm) (fun r val _ c => c.1 v hv), by omega, f1⟩
  | glo g x =>
    intro gl sc h k k' a T up ar cl R l N w hg hc hB hl hw hs hP ha hI hT
    have sz : pt_sz (pt_glo g x) = 1 := rfl
    obtain ⟨a1, a2, a3, a4, a5, a6, a7, a8, a9, a10⟩ := id hI
    have hv := (ps_gx_mem gl x 0 g hw.2.1).2.1
    obtain ⟨w1, up1, cl1, R1, l1, N1, e1, I1, P1, f1⟩ := pm_jn hI (a := 125 + a) (b := 125 + nd + g) (by omega) (by omega)
    have e : fm_Mod_typesOne (a : Int) 0 w = some w1 := by
      unfold fm_Mod_typesOne
      rw [pb_ix (n := 101) (by omega) (by omega)]
      dsimp only [Option.bind_some, fa_let]
      rw [hP.1, a3 a (by omega), fa_wr_id (x := 2) (by omega) (by omega), if_neg (by decide), if_neg (by decide), if_pos rfl, hP.2.1, pb_ix (n := 24) (by omega) (by omega)]
      dsimp only [Option.bind_some]
      rw [(a5 g (by omega)).1, e1]
      rfl
    exact ⟨w1, T, up1, ar, cl1, R1, l1, N1, fun F => pm_ty_fin hI (by omega) e F, I1, pm_TY_leaf (B := B) a10 P1 trivial rfl (by omega) (fun _ => trivial) (fun r val _ c nv => nv.trans (c.2 g (by omega)).symm) (fun r val _ c => c.2 g (by omega)), by omega, f1⟩
  | dead d =>
    intro gl sc h k k' a T up ar cl R l N w hg hc hB hl hw hs hP ha hI hT
    have sz : pt_sz (pt_dead d) = 1 := rfl
    obtain ⟨a1, a2, a3, a4, a5, a6, a7, a8, a9, a10⟩ := id hI
    have e : fm_Mod_typesOne (a : Int) 0 w = some w := by
      unfold fm_Mod_typesOne
      rw [pb_ix (n := 101) (by omega) (by omega)]
      dsimp only [Option.bind_some, fa_let]
      rw [hP.1, fa_wr_id (x := 3) (by omega) (by omega), if_neg (by decide), if_neg (by decide), if_neg (by decide), if_neg (by decide), if_neg (by decide), if_neg (by decide), if_neg (by decide), if_neg (by decide)]
    refine ⟨w, T, up, ar, cl, R, l, N, fun F => pm_ty_fin hI (by omega) e F, hI, ⟨Nat.le_refl _, fun _ _ => rfl, fun r val _ h0 hE _ _ => ⟨val, fun _ _ => rfl, h0, hE, rfl⟩, fun c => ⟨c, fun val h0 => ⟨h0, fun hE => ⟨hE, fun r hcs => ⟨(r.1, r.2.1, pu_set r.2.2.1 d (val (125 + a)), r.2.2.2), ⟨rfl, rfl, fun d' q => ?_, fun _ _ => rfl⟩, trivial, ?_⟩⟩⟩⟩⟩, by omega, fun _ _ _ _ => rfl⟩
    · have h1 := hc.1
      have h2 := hc.2
      rw [h2] at q
      exact pu_set_ne _ _ (by dsimp only at q; omega)
    · exact pu_set_eq _ _ _
  | lam f x b tb ih =>
    intro gl sc h k k' a T up ar cl R l N w hg hc hB hl hw hs hP ha hI hT
    obtain ⟨ef, k1, h1, rfl⟩ := hc
    have sz : pt_sz (pt_lam f x b) = pt_sz b + 1 := rfl
    have pb := pt_sz_pos b
    have m := pn_mono b tb _ _ h1
    dsimp only at hB hl m
    have hfn : f < nf := by omega
    have h24 := hI.2.2.2.2.2.2.2.1
    obtain ⟨w1, T1, up1, ar1, cl1, R1, l1, N1, p1, p2, p4, p5, p7⟩ := ih gl ((f, x) :: sc) (f : Int) _ k1 a T up ar cl R l N w hg h1 hB hl hw.2 (fun b' hb => by
      rcases List.mem_cons.mp hb with rfl | hb
      · dsimp only; omega
      · exact hs b' hb) hP.1 (by omega) hI (by omega)
    obtain ⟨H1, H2, H3, H4, _⟩ := hP
    have ob := pm_ob_tf p7
    obtain ⟨a1, a2, a3, a4, a5, a6, a7, a8, a9, a10⟩ := id p2
    obtain ⟨w2, up2, cl2, R2, l2, N2, e1, I2, P2, f2⟩ := pm_jn p2 (a := 125 + (a + pt_sz b)) (b := 125 + nd + f) (by omega) (by omega)
    have e : fm_Mod_typesOne ((a + pt_sz b : Nat) : Int) 0 w1 = some w2 := by
      unfold fm_Mod_typesOne
      rw [pb_ix (n := 101) (by omega) (by omega)]
      dsimp only [Option.bind_some, fa_let]
      rw [ob 184 _ (by omega) (by omega), H2, a3 _ (by omega), fa_wr_id (x := 4) (by omega) (by omega), if_neg (by decide), if_neg (by decide), if_neg (by decide), if_pos rfl, ob 185 _ (by omega) (by omega), H3, pb_ix (n := 24) (by omega) (by omega)]
      dsimp only [Option.bind_some]
      rw [(a5 f hfn).1, e1]
      rfl
    have hbd : bd f = a + pt_sz b - 1 := by
      have := (hI.2.2.2.2.1 f hfn).2
      rw [H4] at this
      omega
    have ebd : ∀ b' : Nat, ar1 (125 + nd + f) = some (1 + f, 125 + b') → b' = a + pt_sz b - 1 := fun b' z => by
      rw [a9 f hfn] at z
      injection z with z
      injection z with z1 z2
      omega
    refine ⟨w2, T1, up2, ar1, cl2, R2, l2, N2, fun F => ?_, I2, ?_, by omega, pm_tf_tr p7 f2⟩
    · rw [sz, show F + (pt_sz b + 1) = F + 1 + pt_sz b by omega, show a + (pt_sz b + 1) = a + pt_sz b + 1 by omega, p1 (F + 1)]
      exact pm_ty_fin p2 (by omega) e F
    · refine pm_TY_node (hI.2.2.2.2.2.2.2.2.2) (pm_TS1 (hI.2.2.2.2.2.2.2.2.2) tb (by omega) h1 p4) P2 tb (by omega) (fun d z => z.elim (fun u v => ⟨u, by dsimp only; omega⟩)) (fun s z => z) (pm_arr p2) (fun r val hS nv p hp => ?_) (fun r val v0 hcs hS nv p hp => ?_) (fun r val v0 hf hcs hts hps => ?_)
      · rw [List.mem_singleton] at hp
        rw [hp]
        exact ⟨hS.1, nv.1⟩
      · rw [List.mem_singleton] at hp
        rw [hp]
        exact nv.2.trans (hcs.2 f hfn).symm
      · obtain ⟨t1, t2⟩ := hts (b, a) (by simp)
        have ep := hps (125 + (a + pt_sz b), 125 + nd + f) (by simp)
        obtain ⟨b', z1, z2⟩ := hf f hfn
        have := ebd b' z1
        rw [this, hcs.2 f hfn, hcs.1 f (by omega)] at z2
        dsimp only at t1 t2 ep
        refine ⟨r, pv_out_refl _ _ _, ⟨t1, by rw [t2]; exact z2⟩, ?_⟩
        rw [sz, show a + (pt_sz b + 1) - 1 = a + pt_sz b by omega, ep, hcs.2 f hfn]
        rfl
  | ife ta tb tc wa wb wc iha ihb ihc =>
    intro gl sc h k k' a T up ar cl R l N w hg hc hB hl hw hs hP ha hI hT
    obtain ⟨k1, k2, k3, h1, h2, h3, rfl⟩ := hc
    have sz : pt_sz (pt_ife ta tb tc) = pt_sz ta + pt_sz tb + pt_sz tc + 1 := rfl
    have pa := pt_sz_pos ta
    have pb := pt_sz_pos tb
    have pc := pt_sz_pos tc
    have m1 := pn_mono ta wa _ _ h1
    have m2 := pn_mono tb wb _ _ h2
    have m3 := pn_mono tc wc _ _ h3
    dsimp only at hB hl
    obtain ⟨H1, H2, H3, H4, H5, H6, H7⟩ := hP
    obtain ⟨w1, T1, up1, ar1, cl1, R1, l1, N1, p1, p2, p4, p5, p7⟩ := iha gl sc h k k1 a T up ar cl R l N w hg h1 (by omega) (by omega) hw.1 hs H1 (by omega) hI (by omega)
    obtain ⟨w2, T2, up2, ar2, cl2, R2, l2, N2, x1, x2, x4, x5, x7⟩ := ihb gl sc h k1 k2 (a + pt_sz ta) T1 up1 ar1 cl1 R1 l1 N1 w1 hg h2 (by omega) (by omega) hw.2.1 hs (pm_H_ob (pm_ob_tf p7) tb wb _ _ H2) (by omega) p2 (by omega)
    have f2 := pm_tf_tr p7 x7
    obtain ⟨w3, T3, up3, ar3, cl3, R3, l3, N3, y1, y2, y4, y5, y7⟩ := ihc gl sc h k2 k3 (a + pt_sz ta + pt_sz tb) T2 up2 ar2 cl2 R2 l2 N2 w2 hg h3 (by omega) (by omega) hw.2.2 hs (pm_H_ob (pm_ob_tf f2) tc wc _ _ H3) (by omega) x2 (by omega)
    have f3 := pm_tf_tr f2 y7
    obtain ⟨a1, a2, a3, a4, a5, a6, a7, a8, a9, a10⟩ := id y2
    obtain ⟨w4, up4, cl4, R4, l4, N4, e4, I4, P4, g4⟩ := pm_jn y2 (a := 125 + (a + pt_sz ta - 1)) (b := 0) (by omega) (by omega)
    have f4 := pm_tf_tr f3 g4
    obtain ⟨w5, up5, cl5, R5, l5, N5, e5, I5, P5, g5⟩ := pm_jn I4 (a := 125 + (a + pt_sz ta + pt_sz tb + pt_sz tc)) (b := 125 + (a + pt_sz ta + pt_sz tb - 1)) (by omega) (by omega)
    have f5 := pm_tf_tr f4 g5
    obtain ⟨w6, up6, cl6, R6, l6, N6, e6, I6, P6, g6⟩ := pm_jn I5 (a := 125 + (a + pt_sz ta + pt_sz tb + pt_sz tc)) (b := 125 + (a + pt_sz ta + pt_sz tb + pt_sz tc - 1)) (by omega) (by omega)
    rw [show ((0 : Nat) : Int) = 0 from rfl] at e4
    have e : fm_Mod_typesOne ((a + pt_sz ta + pt_sz tb + pt_sz tc : Nat) : Int) 0 w3 = some w6 := by
      unfold fm_Mod_typesOne
      rw [pb_ix (n := 101) (by omega) (by omega)]
      dsimp only [Option.bind_some, fa_let]
      rw [f3 184 _ (by omega) (by omega), H4, fa_wr_id (x := 5) (by omega) (by omega), if_neg (by decide), if_neg (by decide), if_neg (by decide), if_neg (by decide), if_pos rfl, f3 185 _ (by omega) (by omega), H5, pb_ix (n := 101) (by omega) (by omega)]
      dsimp only [Option.bind_some]
      rw [a3 _ (by omega), a3 _ (by omega), e4]
      dsimp only [Option.bind_some]
      rw [f4 186 _ (by omega) (by omega), H6, pb_ix (n := 101) (by omega) (by omega)]
      dsimp only [Option.bind_some]
      rw [I4.2.2.1 _ (by omega), e5]
      dsimp only [Option.bind_some]
      rw [f5 187 _ (by omega) (by omega), H7, pb_ix (n := 101) (by omega) (by omega)]
      dsimp only [Option.bind_some]
      rw [I5.2.2.1 _ (by omega), e6]
      rfl
    have hT0 := hI.2.2.2.2.2.2.2.2.2
    have ts3 := pm_TS_snoc (P' := fun d => pv_iv k.2.2.2 k3.2.2.2 d) (Q' := fun d => pv_iv k.2.2.1 k3.2.2.1 d) hT0 (by omega) (pm_TS2 hT0 wa wb (by omega) (by omega) h1 h2 (Nat.le_refl _) (Nat.le_refl _) p4 x4) wc h3 y4 (fun d z1 z2 z => by unfold pv_iv at z; omega) (fun d z1 z2 z => by unfold pv_iv at z; omega) (fun d => by unfold pv_iv; omega) (fun d => by unfold pv_iv; omega)
    have er : a + pt_sz (pt_ife ta tb tc) - 1 = a + pt_sz ta + pt_sz tb + pt_sz tc := by omega
    refine ⟨w6, T3, up6, ar3, cl6, R6, l6, N6, fun F => ?_, I6, ?_, by omega, pm_tf_tr f5 g6⟩
    · rw [sz, show F + (pt_sz ta + pt_sz tb + pt_sz tc + 1) = F + 1 + pt_sz tc + pt_sz tb + pt_sz ta by omega, show a + (pt_sz ta + pt_sz tb + pt_sz tc + 1) = a + pt_sz ta + pt_sz tb + pt_sz tc + 1 by omega, p1, x1, y1]
      exact pm_ty_fin y2 (by omega) e F
    · refine pm_TY_node hT0 ts3 (pu_P_tr (pu_P_tr P4 P5) P6) ⟨wa, wb, wc⟩ (by omega) (fun d z => by unfold pv_iv at z ⊢; dsimp only; omega) (fun d z => by unfold pv_iv at z ⊢; dsimp only; omega) (pm_arr y2) (fun r val hS nv p hp => ?_) (fun r val v0 hcs hS nv p hp => ?_) (fun r val v0 hf hcs hts hps => ?_)
      · simp only [List.mem_append, List.mem_cons, List.not_mem_nil, or_false] at hp
        rcases hp with (rfl | rfl) | rfl
        · exact ⟨hS.1, nv.1⟩
        · exact ⟨hS.2.1, nv.2.1⟩
        · exact ⟨hS.2.2.1, nv.2.2.1⟩
      · have ra := pm_nv_root ta wa _ _ nv.1
        have rb := pm_nv_root tb wb _ _ nv.2.1
        have rc := pm_nv_root tc wc _ _ nv.2.2.1
        have rr := nv.2.2.2
        simp only [List.mem_append, List.mem_cons, List.not_mem_nil, or_false] at hp
        rcases hp with (rfl | rfl) | rfl
        · dsimp only; rw [ra, v0]; exact hS.2.2.2.1
        · dsimp only; rw [rr, rb]
        · dsimp only; rw [rr, rc]; exact hS.2.2.2.2
      · obtain ⟨t1, t2⟩ := hts (ta, a) (by simp)
        obtain ⟨t3, t4⟩ := hts (tb, a + pt_sz ta) (by simp)
        obtain ⟨t5, t6⟩ := hts (tc, a + pt_sz ta + pt_sz tb) (by simp)
        have q1 := hps (125 + (a + pt_sz ta - 1), 0) (by simp)
        have q2 := hps (125 + (a + pt_sz ta + pt_sz tb + pt_sz tc), 125 + (a + pt_sz ta + pt_sz tb - 1)) (by simp)
        have q3 := hps (125 + (a + pt_sz ta + pt_sz tb + pt_sz tc), 125 + (a + pt_sz ta + pt_sz tb + pt_sz tc - 1)) (by simp)
        dsimp only at t1 t2 t3 t4 t5 t6 q1 q2 q3
        refine ⟨r, pv_out_refl _ _ _, ⟨t1, t3, t5, ?_, ?_⟩, ?_⟩
        · rw [t2, q1, v0]
        · rw [t4, t6, ← q2, ← q3]
        · rw [er, q2, ← t4]; rfl
  | lt v x ta tb wa wb iha ihb =>
    intro gl sc h k k' a T up ar cl R l N w hg hc hB hl hw hs hP ha hI hT
    obtain ⟨k1, k2, h1, ev, h2, rfl⟩ := hc
    have sz : pt_sz (pt_let v x ta tb) = pt_sz ta + pt_sz tb + 1 := rfl
    have pa := pt_sz_pos ta
    have pb := pt_sz_pos tb
    have m1 := pn_mono ta wa _ _ h1
    have m2 := pn_mono tb wb _ _ h2
    dsimp only at hB hl m2
    obtain ⟨H1, H2, H4, H5, H6, H7, _⟩ := hP
    have hv : v < 124 := by omega
    obtain ⟨w1, T1, up1, ar1, cl1, R1, l1, N1, p1, p2, p4, p5, p7⟩ := iha gl sc h k k1 a T up ar cl R l N w hg h1 (by omega) (by omega) hw.2.1 hs H1 (by omega) hI (by omega)
    obtain ⟨w3, T3, up3, ar3, cl3, R3, l3, N3, y1, y2, y4, y5, y7⟩ := ihb gl ((v, x) :: sc) h _ k2 (a + pt_sz ta) T1 up1 ar1 cl1 R1 l1 N1 w1 hg h2 (by omega) (by omega) hw.2.2 (fun b hb => by
      rcases List.mem_cons.mp hb with rfl | hb
      · exact hv
      · exact hs b hb) (pm_H_ob (pm_ob_tf p7) tb wb _ _ H2) (by omega) p2 (by omega)
    have f3 := pm_tf_tr p7 y7
    obtain ⟨a1, a2, a3, a4, a5, a6, a7, a8, a9, a10⟩ := id y2
    obtain ⟨w4, up4, cl4, R4, l4, N4, e4, I4, P4, g4⟩ := pm_jn y2 (a := 1 + v) (b := 125 + (a + pt_sz ta - 1)) (by omega) (by omega)
    have f4 := pm_tf_tr f3 g4
    obtain ⟨w5, up5, cl5, R5, l5, N5, e5, I5, P5, g5⟩ := pm_jn I4 (a := 125 + (a + pt_sz ta + pt_sz tb)) (b := 125 + (a + pt_sz ta + pt_sz tb - 1)) (by omega) (by omega)
    have e : fm_Mod_typesOne ((a + pt_sz ta + pt_sz tb : Nat) : Int) 0 w3 = some w5 := by
      unfold fm_Mod_typesOne
      rw [pb_ix (n := 101) (by omega) (by omega)]
      dsimp only [Option.bind_some, fa_let]
      rw [f3 184 _ (by omega) (by omega), H4, fa_wr_id (x := 6) (by omega) (by omega), if_neg (by decide), if_neg (by decide), if_neg (by decide), if_neg (by decide), if_neg (by decide), if_pos rfl, f3 187 _ (by omega) (by omega), H7, pb_ix (n := 124) (by omega) (by omega)]
      dsimp only [Option.bind_some]
      rw [f3 185 _ (by omega) (by omega), H5, pb_ix (n := 101) (by omega) (by omega)]
      dsimp only [Option.bind_some]
      rw [a4 _ hv, a3 _ (by omega), a3 _ (by omega), e4]
      dsimp only [Option.bind_some]
      rw [f4 186 _ (by omega) (by omega), H6, pb_ix (n := 101) (by omega) (by omega)]
      dsimp only [Option.bind_some]
      rw [I4.2.2.1 _ (by omega), e5]
      rfl
    have hT0 := hI.2.2.2.2.2.2.2.2.2
    have er : a + pt_sz (pt_let v x ta tb) - 1 = a + pt_sz ta + pt_sz tb := by omega
    refine ⟨w5, T3, up5, ar3, cl5, R5, l5, N5, fun F => ?_, I5, ?_, by omega, pm_tf_tr f4 g5⟩
    · rw [sz, show F + (pt_sz ta + pt_sz tb + 1) = F + 1 + pt_sz tb + pt_sz ta by omega, show a + (pt_sz ta + pt_sz tb + 1) = a + pt_sz ta + pt_sz tb + 1 by omega, p1, y1]
      exact pm_ty_fin y2 (by omega) e F
    · refine pm_TY_node hT0 (pm_TS2 hT0 wa wb (by omega) (by omega) h1 h2 (Nat.le_refl _) (Nat.le_refl _) p4 y4) (pu_P_tr P4 P5) ⟨wa, wb⟩ (by omega) (fun d z => by unfold pv_iv at z ⊢; dsimp only at z ⊢; omega) (fun d z => by unfold pv_iv at z ⊢; dsimp only at z ⊢; omega) (pm_arr y2) (fun r val hS nv p hp => ?_) (fun r val v0 hcs hS nv p hp => ?_) (fun r val v0 hf hcs hts hps => ?_)
      · simp only [List.mem_cons, List.not_mem_nil, or_false] at hp
        rcases hp with rfl | rfl
        · exact ⟨hS.1, nv.1⟩
        · exact ⟨hS.2.1, nv.2.1⟩
      · have ra := pm_nv_root ta wa _ _ nv.1
        have rb := pm_nv_root tb wb _ _ nv.2.1
        have rr := nv.2.2
        simp only [List.mem_append, List.mem_cons, List.not_mem_nil, or_false] at hp
        rcases hp with rfl | rfl
        · dsimp only; rw [ra, hcs.1 v hv]; exact hS.2.2
        · dsimp only; rw [rr, rb]
      · obtain ⟨t1, t2⟩ := hts (ta, a) (by simp)
        obtain ⟨t3, t4⟩ := hts (tb, a + pt_sz ta) (by simp)
        have q1 := hps (1 + v, 125 + (a + pt_sz ta - 1)) (by simp)
        have q2 := hps (125 + (a + pt_sz ta + pt_sz tb), 125 + (a + pt_sz ta + pt_sz tb - 1)) (by simp)
        dsimp only at t1 t2 t3 t4 q1 q2
        refine ⟨r, pv_out_refl _ _ _, ⟨t1, t3, ?_⟩, ?_⟩
        · rw [t2, ← q1, hcs.1 v hv]
        · rw [er, q2, ← t4]; rfl
  | op s ta tb wa wb iha ihb =>
    intro gl sc h k k' a T up ar cl R l N w hg hc hB hl hw hs hP ha hI hT
    obtain ⟨k1, k2, h1, h2, rfl⟩ := hc
    have sz : pt_sz (pt_op s ta tb) = pt_sz ta + pt_sz tb + 1 := rfl
    have pa := pt_sz_pos ta
    have pb := pt_sz_pos tb
    have m1 := pn_mono ta wa _ _ h1
    have m2 := pn_mono tb wb _ _ h2
    dsimp only at hB hl
    obtain ⟨H1, H2, H4, H5, H6, _⟩ := hP
    obtain ⟨w1, T1, up1, ar1, cl1, R1, l1, N1, p1, p2, p4, p5, p7⟩ := iha gl sc h k k1 a T up ar cl R l N w hg h1 (by omega) (by omega) hw.2.1 hs H1 (by omega) hI (by omega)
    obtain ⟨w3, T3, up3, ar3, cl3, R3, l3, N3, y1, y2, y4, y5, y7⟩ := ihb gl sc h k1 k2 (a + pt_sz ta) T1 up1 ar1 cl1 R1 l1 N1 w1 hg h2 (by omega) (by omega) hw.2.2 hs (pm_H_ob (pm_ob_tf p7) tb wb _ _ H2) (by omega) p2 (by omega)
    have f3 := pm_tf_tr p7 y7
    obtain ⟨a1, a2, a3, a4, a5, a6, a7, a8, a9, a10⟩ := id y2
    obtain ⟨w4, up4, cl4, R4, l4, N4, e4, I4, P4, g4⟩ := pm_jn y2 (a := 125 + (a + pt_sz ta - 1)) (b := 0) (by omega) (by omega)
    have f4 := pm_tf_tr f3 g4
    obtain ⟨w5, up5, cl5, R5, l5, N5, e5, I5, P5, g5⟩ := pm_jn I4 (a := 125 + (a + pt_sz ta + pt_sz tb - 1)) (b := 0) (by omega) (by omega)
    have f5 := pm_tf_tr f4 g5
    obtain ⟨w6, up6, cl6, R6, l6, N6, e6, I6, P6, g6⟩ := pm_jn I5 (a := 125 + (a + pt_sz ta + pt_sz tb)) (b := 0) (by omega) (by omega)
    rw [show ((0 : Nat) : Int) = 0 from rfl] at e4 e5 e6
    have e : fm_Mod_typesOne ((a + pt_sz ta + pt_sz tb : Nat) : Int) 0 w3 = some w6 := by
      unfold fm_Mod_typesOne
      rw [pb_ix (n := 101) (by omega) (by omega)]
      dsimp only [Option.bind_some, fa_let]
      rw [f3 184 _ (by omega) (by omega), H4, fa_wr_id (x := 7) (by omega) (by omega), if_neg (by decide), if_neg (by decide), if_neg (by decide), if_neg (by decide), if_neg (by decide), if_neg (by decide), if_pos rfl, f3 185 _ (by omega) (by omega), H5, pb_ix (n := 101) (by omega) (by omega)]
      dsimp only [Option.bind_some]
      rw [a3 _ (by omega), a3 _ (by omega), e4]
      dsimp only [Option.bind_some]
      rw [f4 186 _ (by omega) (by omega), H6, pb_ix (n := 101) (by omega) (by omega)]
      dsimp only [Option.bind_some]
      rw [I4.2.2.1 _ (by omega), e5]
      dsimp only [Option.bind_some]
      rw [e6]
      rfl
    have hT0 := hI.2.2.2.2.2.2.2.2.2
    have er : a + pt_sz (pt_op s ta tb) - 1 = a + pt_sz ta + pt_sz tb := by omega
    refine ⟨w6, T3, up6, ar3, cl6, R6, l6, N6, fun F => ?_, I6, ?_, by omega, pm_tf_tr f5 g6⟩
    · rw [sz, show F + (pt_sz ta + pt_sz tb + 1) = F + 1 + pt_sz tb + pt_sz ta by omega, show a + (pt_sz ta + pt_sz tb + 1) = a + pt_sz ta + pt_sz tb + 1 by omega, p1, y1]
      exact pm_ty_fin y2 (by omega) e F
    · refine pm_TY_node hT0 (pm_TS2 hT0 wa wb (by omega) (by omega) h1 h2 (Nat.le_refl _) (Nat.le_refl _) p4 y4) (pu_P_tr (pu_P_tr P4 P5) P6) ⟨wa, wb⟩ (by omega) (fun d z => by unfold pv_iv at z ⊢; dsimp only at z ⊢; omega) (fun d z => by unfold pv_iv at z ⊢; dsimp only at z ⊢; omega) (pm_arr y2) (fun r val hS nv p hp => ?_) (fun r val v0 hcs hS nv p hp => ?_) (fun r val v0 hf hcs hts hps => ?_)
      · simp only [List.mem_cons, List.not_mem_nil, or_false] at hp
        rcases hp with rfl | rfl
        · exact ⟨hS.1, nv.1⟩
        · exact ⟨hS.2.1, nv.2.1⟩
      · have ra := pm_nv_root ta wa _ _ nv.1
        have rb := pm_nv_root tb wb _ _ nv.2.1
        have rr := nv.2.2
        simp only [List.mem_append, List.mem_cons, List.not_mem_nil, or_false] at hp
        rcases hp with (rfl | rfl) | rfl
        · dsimp only; rw [ra, v0]; exact hS.2.2.1
        · dsimp only; rw [rb, v0]; exact hS.2.2.2
        · dsimp only; rw [rr, v0]
      · obtain ⟨t1, t2⟩ := hts (ta, a) (by simp)
        obtain ⟨t3, t4⟩ := hts (tb, a + pt_sz ta) (by simp)
        have q1 := hps (125 + (a + pt_sz ta - 1), 0) (by simp)
        have q2 := hps (125 + (a + pt_sz ta + pt_sz tb - 1), 0) (by simp)
        have q3 := hps (125 + (a + pt_sz ta + pt_sz tb), 0) (by simp)
        dsimp only at t1 t2 t3 t4 q1 q2 q3
        refine ⟨r, pv_out_refl _ _ _, ⟨t1, t3, ?_, ?_⟩, ?_⟩
        · rw [t2, q1, v0]
        · rw [t4, q2, v0]
        · rw [er, q3, v0]; rfl
  | site s ta tb wa wb iha ihb =>
    intro gl sc h k k' a T up ar cl R l N w hg hc hB hl hw hs hP ha hI hT
    obtain ⟨k1, k2, h1, es, h2, rfl⟩ := hc
    have sz : pt_sz (pt_site s ta tb) = pt_sz ta + pt_sz tb + 1 := rfl
    have pa := pt_sz_pos ta
    have pb := pt_sz_pos tb
    have m1 := pn_mono ta wa _ _ h1
    have m2 := pn_mono tb wb _ _ h2
    dsimp only at hB hl m2
    obtain ⟨H1, H2, H4, H5, H6, _⟩ := hP
    obtain ⟨w1, T1, up1, ar1, cl1, R1, l1, N1, p1, p2, p4, p5, p7⟩ := iha gl sc h k k1 a T up ar cl R l N w hg h1 (by omega) (by omega) hw.1 hs H1 (by omega) hI (by omega)
    obtain ⟨w3, T3, up3, ar3, cl3, R3, l3, N3, y1, y2, y4, y5, y7⟩ := ihb gl sc h _ k2 (a + pt_sz ta) T1 up1 ar1 cl1 R1 l1 N1 w1 hg h2 (by omega) (by omega) hw.2 hs (pm_H_ob (pm_ob_tf p7) tb wb _ _ H2) (by omega) p2 (by omega)
    have f3 := pm_tf_tr p7 y7
    obtain ⟨a1, a2, a3, a4, a5, a6, a7, a8, a9, a10⟩ := id y2
    obtain ⟨wx, gx, U2, fx⟩ := pm_alloc a1 (by omega) (some (125 + (a + pt_sz ta + pt_sz tb - 1), 125 + (a + pt_sz ta + pt_sz tb))) 2 ((125 + (a + pt_sz ta + pt_sz tb - 1) : Nat) : Int) ((125 + (a + pt_sz ta + pt_sz tb) : Nat) : Int) (by rw [if_neg (by omega), if_neg (by simp)]) (fun c d z => by cases z; exact ⟨rfl, rfl⟩)
    have I2 := pu_alloc a2 (some (125 + (a + pt_sz ta + pt_sz tb - 1), 125 + (a + pt_sz ta + pt_sz tb))) (fun x y z => by cases z; omega)
    have y2' := pm_TI_of y2 U2 I2 fx (by omega) (fun j hj => pu_set_ne _ _ (by omega))
    have f3' := pm_tf_tr f3 fx
    obtain ⟨w4, up4, cl4, R4, l4, N4, e4, I4, P4, g4⟩ := pm_jn y2' (a := 125 + (a + pt_sz ta - 1)) (b := T3) (by omega) (by omega)
    have e : fm_Mod_typesOne ((a + pt_sz ta + pt_sz tb : Nat) : Int) 0 w3 = some w4 := by
      unfold fm_Mod_typesOne
      rw [pb_ix (n := 101) (by omega) (by omega)]
      dsimp only [Option.bind_some, fa_let]
      rw [f3 184 _ (by omega) (by omega), H4, fa_wr_id (x := 8) (by omega) (by omega), if_neg (by decide), if_neg (by decide), if_neg (by decide), if_neg (by decide), if_neg (by decide), if_neg (by decide), if_neg (by decide), if_pos rfl, f3 185 _ (by omega) (by omega), H5, pb_ix (n := 101) (by omega) (by omega)]
      dsimp only [Option.bind_some]
      rw [f3 186 _ (by omega) (by omega), H6, pb_ix (n := 101) (by omega) (by omega)]
      dsimp only [Option.bind_some]
      rw [a3 _ (by omega), a3 _ (by omega), gx]
      dsimp only [fa_bd, Option.bind_some]
      rw [a3 _ (by omega), e4]
      rfl
    have hT0 := hI.2.2.2.2.2.2.2.2.2
    have er : a + pt_sz (pt_site s ta tb) - 1 = a + pt_sz ta + pt_sz tb := by omega
    refine ⟨w4, T3 + 1, up4, _, cl4, R4, l4, N4, fun F => ?_, I4, ?_, by omega, pm_tf_tr f3' g4⟩
    · rw [sz, show F + (pt_sz ta + pt_sz tb + 1) = F + 1 + pt_sz tb + pt_sz ta by omega, show a + (pt_sz ta + pt_sz tb + 1) = a + pt_sz ta + pt_sz tb + 1 by omega, p1, y1]
      exact pm_ty_fin y2 (by omega) e F
    · obtain ⟨b1, b2, b3, b4, b5⟩ := pm_TS2 hT0 wa wb (by omega) (by omega) h1 h2 (Nat.le_refl _) (Nat.le_succ _) p4 y4
      refine ⟨by omega, fun j hj => by rw [pu_set_ne _ _ (by omega)]; exact b2 j hj, fun r val hS h0 hE hcs nv => ?_, fun c => ?_⟩
      · obtain ⟨val1, u1, u2, u3, u4⟩ := b4 r val (fun p hp => by
          simp only [List.mem_cons, List.not_mem_nil, or_false] at hp
          rcases hp with rfl | rfl
          · exact ⟨hS.1, nv.1⟩
          · exact ⟨hS.2.1, nv.2.1⟩) h0 hE hcs
        have nv1 := pm_nv_cong (pt_site s ta tb) ⟨wa, wb⟩ a T val val1 (by omega) u1 nv
        have ra := pm_nv_root ta wa _ _ nv1.1
        have rb := pm_nv_root tb wb _ _ nv1.2.1
        have rr := nv1.2.2
        have v2 : ∀ j, j < T3 → pu_set val1 T3 (pv_ar (pv_t r tb) (r.2.2.2 s)) j = val1 j := fun j hj => pu_set_ne _ _ (by omega)
        have v3 : pu_set val1 T3 (pv_ar (pv_t r tb) (r.2.2.2 s)) T3 = pv_ar (pv_t r tb) (r.2.2.2 s) := pu_set_eq _ _ _
        generalize pu_set val1 T3 (pv_ar (pv_t r tb) (r.2.2.2 s)) = val2 at v2 v3
        have q0 := (pu_al_0 a2 (some (125 + (a + pt_sz ta + pt_sz tb - 1), 125 + (a + pt_sz ta + pt_sz tb))) (val := val2)).mpr ⟨pu_0_cong a2 v2 u2, fun c d z => by cases z; rw [v3, v2 _ (by omega), v2 _ (by omega), rb, rr]⟩
        have qE := (pu_al_E (some (125 + (a + pt_sz ta + pt_sz tb - 1), 125 + (a + pt_sz ta + pt_sz tb)))).mpr (pu_E_cong a2 v2 u3)
        have p := P4.1 val2 q0 qE (fun p hp => by
          rw [List.mem_singleton] at hp
          rw [hp]
          dsimp only
          rw [v2 _ (by omega), v3, ra]
          exact hS.2.2)
        exact ⟨val2, fun j hj => (v2 j (by omega)).trans (u1 j hj), p.1, p.2.1, p.2.2.trans u4⟩
      · obtain ⟨c1, u2⟩ := P4.2 c
        obtain ⟨c0, a6'⟩ := b5 c1
        refine ⟨c0, fun val h2' => ?_⟩
        obtain ⟨h3, w2', w3'⟩ := u2 val h2'
        have w2' := w2' (125 + (a + pt_sz ta - 1), T3) (by simp)
        dsimp only at w2'
        obtain ⟨h4, h5⟩ := (pu_al_0 a2 _).mp h3
        have h5 := h5 _ _ rfl
        obtain ⟨h0, g1⟩ := a6' val h4
        refine ⟨h0, fun hE => ?_⟩
        obtain ⟨hE1, r1⟩ := g1 hE
        refine ⟨w3' ((pu_al_E _).mpr hE1), fun r hcs => ?_⟩
        obtain ⟨r', x1, x2, x3, x4, x5⟩ := r1 r hcs
        have hsQ : ¬ (pv_iv k.2.2.1 k1.2.2.1 s ∨ pv_iv (k1.2.2.1 + 1) k2.2.2.1 s) := fun z => by unfold pv_iv at z; omega
        have cg : ∀ p ∈ [(ta, a), (tb, a + pt_sz ta)], pv_S (r'.1, r'.2.1, r'.2.2.1, pu_set r'.2.2.2 s (val (125 + (a + pt_sz ta + pt_sz tb)))) p.1 ∧ pv_t (r'.1, r'.2.1, r'.2.2.1, pu_set r'.2.2.2 s (val (125 + (a + pt_sz ta + pt_sz tb)))) p.1 = val (125 + (p.2 + pt_sz p.1 - 1)) := by
          intro p hp
          obtain ⟨_, y2, ka, kb, y3, y4, y5⟩ := b3 p hp
          have cg := pv_cong p.1 y2 ka kb r' (r'.1, r'.2.1, r'.2.2.1, pu_set r'.2.2.2 s (val (125 + (a + pt_sz ta + pt_sz tb)))) y3 rfl rfl (fun d _ _ => rfl) (fun s' u1 u2 => pu_set_ne _ _ (fun z => hsQ (z ▸ y5 s' u1 u2)))
          exact ⟨cg.2 (x5 p hp).1, cg.1.trans (x5 p hp).2⟩
        have ca := cg (ta, a) (by simp)
        have cb := cg (tb, a + pt_sz ta) (by simp)
        dsimp only at ca cb
        have es2 : pu_set r'.2.2.2 s (val (125 + (a + pt_sz ta + pt_sz tb))) s = val (125 + (a + pt_sz ta + pt_sz tb)) := pu_set_eq _ _ _
        refine ⟨(r'.1, r'.2.1, r'.2.2.1, pu_set r'.2.2.2 s (val (125 + (a + pt_sz ta + pt_sz tb)))), ⟨x1, x2, fun d z => x3 d (fun w => z (by unfold pv_iv at w; dsimp only at w ⊢; omega)), fun s' z => ?_⟩, ⟨ca.1, cb.1, ?_⟩, by rw [er]; exact es2⟩
        · dsimp only at z ⊢
          rw [pu_set_ne _ _ (fun w => z (by omega))]
          exact x4 s' (fun w => z (by unfold pv_iv at w; dsimp only at w; omega))
        · rw [ca.2, cb.2, w2', h5]
          dsimp only
          rw [es2]
