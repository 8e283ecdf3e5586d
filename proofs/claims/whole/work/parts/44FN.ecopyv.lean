/-! copying: o holds the program that is told -/
set_option maxHeartbeats 4000000 in
theorem pe_copyV {o oP nd si la li B : Nat} {M CL SV LV : Nat → Bool} {kp cd : Int} {gs : ps_G} {t : pt_T} {ins os : List Nat} {w : fa_W} (hs : pe_sep o oP) (hkM : pe_kp M kp) (hkC : pe_kp CL cd) (hBl : gs.length ≤ B) (hB6 : B ≤ 6) (hV : pn_VB B gs t la li si nd) (hG : pc_okG M CL SV LV gs 0) (hM : pc_ok M CL SV LV t true) (hSV : ∀ s, SV s = true → s < si) (hMb : pc_rk M 24 = pc_rk M (B + la)) (hMB : pc_rk M B = pc_rk M gs.length) (hli : ins.length = li) (hS : px_Sr oP gs t si nd ins os w) : ∃ w' os', fm_Program_copy o oP kp cd w = some w' ∧ (∀ x y, (x < o ∨ o + 26 < x) → w' x y = w x y) ∧ px_V o (pc_G M CL (pc_ρ M LV) (pc_rk SV) gs 0 0) (pc_t CL (pc_ρ M LV) (pc_rk SV) t (pc_N M CL gs 0 0)) (pc_rk M (B + la) - pc_rk M B) (pc_rk LV li) (pc_rk SV si) (pc_N M CL gs 0 0 + pc_sz CL t) (pc_gl LV ins 0) os' w' := by
  obtain ⟨w0, e0, S1⟩ := pe_begin hs hkM hkC hBl hB6 hV hG hM hSV hli hS
  subst hli
  have its := pe_its hBl hB6 hV hG hM
  obtain ⟨hV', hlen⟩ := pc_VB hB6 hV hG hM
  obtain ⟨v1, v2, v3, v4, v5, v6, v7, k1, v8, v9⟩ := hV
  have tw : ∀ g, pt_tw (pn_tr gs t g) := pn_tr_tw v6 gs _ _ _ v8
  have S1' := S1
  obtain ⟨f1, Sr, sz0, ⟨z17, z13, z14, z15⟩, nf1, nf2, z16, E, L1, ctot⟩ := S1'
  have nam := Sr.2.2.2.1
  have hn := Sr.2.2.2.2.1
  have mem := Sr.2.2.2.2.2.1
  have osn := Sr.2.2.2.2.2.2.1
  have L := Sr.2.2.2.2.2.2.2.1
  have inm := Sr.2.2.2.2.2.2.2.2.1
  have ind := Sr.2.2.2.2.2.2.2.2.2
  have hx := px_xi_lt inm
  have hge : ∀ i, i < ins.length → 24 ≤ ins.getD i 0 := fun i hi => by
    have q := px_xi_ge (v := 24 + i) (fun x hx => (inm x hx).1) (by omega) (by omega)
    unfold px_xi at q
    rw [if_neg (by omega), Nat.add_sub_cancel_left] at q
    exact q
  have tot := pe_tot (M := M) (CL := CL) (t := t) hn mem
  have le := hV'.2.2.1
  obtain ⟨w3, e3, S2⟩ := pe_end (kp := kp) hs hkC v1 hBl tw its (by omega) S1
  obtain ⟨fr, sz, ⟨a17, a13, a14, a15⟩, WF, hrt, hdead, h16⟩ := S2
  have gtr : ∀ g, g < gs.length → M g = true → ∃ n, pn_tr (pc_G M CL (pc_ρ M LV) (pc_rk SV) gs 0 0) (pc_t CL (pc_ρ M LV) (pc_rk SV) t (pc_N M CL gs 0 0)) (pc_rk M g) = if CL g = true then pc_t CL (pc_ρ M LV) (pc_rk SV) (pn_tr gs t g) n else pt_dead n := fun g h1 h2 => by
    have q := pc_G_tr (M := M) (CL := CL) (ρ := pc_ρ M LV) (σ := pc_rk SV) (t := t) (t' := pc_t CL (pc_ρ M LV) (pc_rk SV) t (pc_N M CL gs 0 0)) gs 0 0 g h1 (by rw [Nat.zero_add]; exact h2)
    rw [Nat.zero_add, show pc_rk M 0 = 0 from rfl, Nat.sub_zero] at q
    exact q
  obtain ⟨gs', hgs⟩ : ∃ x, x = pc_G M CL (pc_ρ M LV) (pc_rk SV) gs 0 0 := ⟨_, rfl⟩
  obtain ⟨t', ht⟩ : ∃ x, x = pc_t CL (pc_ρ M LV) (pc_rk SV) t (pc_N M CL gs 0 0) := ⟨_, rfl⟩
  have htr : ∀ g, g ≤ gs.length → pe_VI gs.length M CL g = true → ∃ n, pn_tr gs' t' (pc_rk M g) = pc_t CL (pc_ρ M LV) (pc_rk SV) (pn_tr gs t g) n := fun g h1 h2 => by
    by_cases e : g < gs.length
    · obtain ⟨k1, k2⟩ := pe_VM e h2
      obtain ⟨n, q⟩ := gtr g e k1
      rw [if_pos k2, ← hgs, ← ht] at q
      exact ⟨n, q⟩
    · have eg : g = gs.length := by omega
      refine ⟨pc_N M CL gs 0 0, ?_⟩
      rw [eg, ← hlen, ← hgs, pn_tr_len, pn_tr_len]
      exact ht
  have hVM : ∀ g, g < gs.length → pe_VI gs.length M CL g = true → M g = true := fun g hg q => (pe_VM hg q).1
  have hlen' : gs'.length = pc_rk M gs.length := by rw [hgs]; exact hlen
  have V1 := pe_visL (gs' := gs') (t' := t') (LV := LV) (by omega) hx hge v1 its hVM WF hlen' htr hrt os 0 (fun g hg => (mem g).mp hg) L L1 (by omega)
  have D1 := pe_deadL (ins := pc_gl LV ins 0) (gs := gs') (t := t') hlen' (fun g h1 h2 h3 => by
    obtain ⟨n, q⟩ := gtr g h1 h2
    rw [if_neg (by rw [h3]; decide), ← hgs, ← ht] at q
    exact ⟨n, q⟩) hdead gs.length (Nat.le_refl _)
  rw [← hgs, ← ht]
  obtain ⟨V1, V2⟩ := V1
  obtain ⟨D1, D2⟩ := D1
  have c0 : pe_c (pe_e oP CL w0 (w0 (o + 24))) 0 = 0 := rfl
  rw [c0] at V1
  rw [ctot] at D1 sz
  have nd' : pe_sm (pe_vs CL (pe_VI gs.length M CL) gs t) os + pe_dz M CL gs.length = pc_N M CL gs 0 0 + pc_sz CL t := tot
  refine ⟨w3, pe_ol (pe_VI gs.length M CL) M os ++ pe_dl M CL gs.length, ?_, fun x y h => (fr x y h).trans (f1 x y h), ?_, ?_, ?_, ?_, fun x => ?_, ?_, ?_, fun x hx' => inm x (pc_gl_sub LV ins 0 x hx'), pc_gl_nd ins 0 ind, ?_⟩
  · obtain ⟨FU, hFU⟩ : ∃ F, F = fa_FU := ⟨_, rfl⟩
    have hF2 : 1000 < FU := by rw [hFU]; unfold fa_FU; omega
    rw [e0 FU hFU]
    exact e3 FU hF2
  · obtain ⟨z1, z2, z3, z4, z5, z6, z7, z8, z9⟩ := sz
    rw [nd'] at z1 z2 z3 z4 z5
    exact ⟨z1, z2, z3, z4, z5, z6, z7, z8, by rw [hlen']; exact a17, z9⟩
  · refine ⟨by rw [hlen']; exact a13, ?_, a15.trans z15⟩
    have mo := pc_rk_mono M (show B ≤ B + la by omega)
    rw [a14, z14, hMb, hlen', hMB, show pc_rk M gs.length + (pc_rk M (B + la) - pc_rk M gs.length) = pc_rk M (B + la) by omega]
  · rw [hgs]
    have q := pe_gn (o := o) (M := M) (CL := CL) (ρ := pc_ρ M LV) (σ := pc_rk SV) (W := w3) gs 0 0 (fun j x v u a b => by
      rw [Nat.zero_add] at b ⊢
      obtain ⟨hj, _⟩ := List.getElem?_eq_some_iff.mp a
      obtain ⟨n1, n2⟩ := nam j x v u a
      exact ⟨(WF.2.2.2 j hj b).trans n1, (WF.2.1 j (by omega) b).trans n2, h16 j hj b⟩)
    exact q
  · rw [List.nodup_append]
    refine ⟨pe_ol_nd hVM os hn (fun g hg => (mem g).mp hg), pe_dl_nd _, fun x hx1 y hy e => ?_⟩
    obtain ⟨g, g1, g2, g3⟩ := (pe_ol_mem os).mp hx1
    obtain ⟨g', h1, h2, h3, h4⟩ := (pe_dl_mem gs.length).mp hy
    have gl := (mem g).mp g1
    by_cases z : g < gs.length
    · obtain ⟨k1, k2⟩ := pe_VM z g2
      have := pc_rk_inj k1 h2 (by omega)
      rw [this, h3] at k2
      cases k2
    · have := pc_rk_lt h2 (show g' < g by omega)
      omega
  · rw [List.mem_append, pe_ol_mem, pe_dl_mem, hlen']
    constructor
    · rintro (⟨g, g1, g2, g3⟩ | ⟨g, g1, g2, g3, g4⟩)
      · rw [g3]; exact pc_rk_mono M ((mem g).mp g1)
      · rw [g4]; exact pc_rk_mono M (by omega)
    · intro q
      by_cases e : x < pc_rk M gs.length
      · obtain ⟨g, g1, g2, g3⟩ := pe_rk_sur _ _ e
        by_cases c : CL g = true
        · refine Or.inl ⟨g, (mem g).mpr (by omega), ?_, g3.symm⟩
          unfold pe_VI
          rw [if_pos g1, g2, c]; rfl
        · exact Or.inr ⟨g, g1, g2, pc_bf c, g3.symm⟩
      · refine Or.inl ⟨gs.length, (mem _).mpr (Nat.le_refl _), if_neg (by omega), by omega⟩
  · rw [pn_os_app, V2, D2, nd']
  · refine px_L_app _ _ _ V1 ?_
    rw [V2, Nat.zero_add]; exact D1
  · have q := pc_gl_len LV ins 0
    rw [Nat.zero_add, show pc_rk LV 0 = 0 from rfl, Nat.zero_add] at q
    exact q
