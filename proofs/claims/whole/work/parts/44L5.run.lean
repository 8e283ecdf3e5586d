/-! BACK types -/
def pc_kp (M LV : Nat → Bool) (v : Nat) : Prop := (v < 24 ∧ M v = true) ∨ (24 ≤ v ∧ LV (v - 24) = true)
theorem pc_ρ_inj {M LV : Nat → Bool} {u v : Nat} (hu : pc_kp M LV u) (hv : pc_kp M LV v) (e : pc_ρ M LV u = pc_ρ M LV v) : u = v := by
  unfold pc_ρ at e
  rcases hu with ⟨a, b⟩ | ⟨a, b⟩
  · rw [if_pos a] at e
    have := pc_rk_le M u
    rcases hv with ⟨c, d⟩ | ⟨c, d⟩
    · rw [if_pos c] at e
      exact pc_rk_inj b d e
    · rw [if_neg (by omega)] at e
      omega
  · rw [if_neg (by omega)] at e
    rcases hv with ⟨c, d⟩ | ⟨c, d⟩
    · rw [if_pos c] at e
      have := pc_rk_le M v
      omega
    · rw [if_neg (by omega)] at e
      have := pc_rk_inj b d (by omega)
      omega
theorem pc_inv {P : Nat → Prop} {h : Nat → Nat} (inj : ∀ u v, P u → P v → h u = h v → u = v) : ∃ iv : Nat → Nat, ∀ v, P v → iv (h v) = v := by
  classical
  refine ⟨fun u => if q : ∃ v, P v ∧ h v = u then q.choose else 0, fun v hv => ?_⟩
  have q : ∃ v', P v' ∧ h v' = h v := ⟨v, hv, rfl⟩
  show (if q : ∃ v', P v' ∧ h v' = h v then q.choose else 0) = v
  rw [dif_pos q]
  exact inj _ _ q.choose_spec.1 hv q.choose_spec.2
theorem pc_ty {M CL SV LV : Nat → Bool} {B : Nat} {r : pv_R} {r1 r2 r4 : Nat → pv_T} (h1 : ∀ v, pc_kp M LV v → r1 (pc_ρ M LV v) = r.1 v) (h2 : ∀ f, f < 24 → M f = true → r2 (pc_ρ M LV f) = r.2.1 f) (h4 : ∀ s, SV s = true → r4 (pc_rk SV s) = r.2.2.2 s) (hB : B ≤ 6) (t : pt_T) (tt : pt_tw t) : ∀ (k k' : pk_K) (n : Nat) (gl : List Nat) (sc : List (Nat × Nat)) (D0 : Nat → pv_T), pn_can B t k k' → B + k'.1 ≤ 24 → gl.length ≤ 6 → pk_wfs t gl sc → pc_ok M CL SV LV t true → (∀ b ∈ sc, pc_kp M LV b.1) → pv_S r t → ∃ D : Nat → pv_T, (∀ d, ¬ (n ≤ d ∧ d < n + pc_sz CL t) → D d = D0 d) ∧ pv_t (r1, r2, D, r4) (pc_t CL (pc_ρ M LV) (pc_rk SV) t n) = pv_t r t ∧ pv_S (r1, r2, D, r4) (pc_t CL (pc_ρ M LV) (pc_rk SV) t n) := by
  have cong : ∀ (u : pt_T) (tu : pt_tw u) (k k' : pk_K) (n : Nat) (D D' : Nat → pv_T), pn_can B u k k' → B + k'.1 ≤ 24 → pc_ok M CL SV LV u true → (∀ d, n ≤ d → d < n + pc_sz CL u → D' d = D d) → pv_t (r1, r2, D', r4) (pc_t CL (pc_ρ M LV) (pc_rk SV) u n) = pv_t (r1, r2, D, r4) (pc_t CL (pc_ρ M LV) (pc_rk SV) u n) ∧ (pv_S (r1, r2, D, r4) (pc_t CL (pc_ρ M LV) (pc_rk SV) u n) → pv_S (r1, r2, D', r4) (pc_t CL (pc_ρ M LV) (pc_rk SV) u n)) := fun u tu k k' n D D' hc h24 ho hD => by
    have c := pc_can (M := M) (CL := CL) (SV := SV) (LV := LV) u tu k k' n h24 hc ho
    exact pv_cong _ (pc_t_tw u tu n).1 _ _ (r1, r2, D, r4) (r1, r2, D', r4) c rfl rfl (fun d a b => hD d a b) (fun s _ _ => rfl)
  induction t, tt using pt_indh with
  | num v => intro k k' n gl sc D0 _ _ _ _ _ _ _; exact ⟨D0, fun _ _ => rfl, rfl, trivial⟩
  | var v x =>
    intro k k' n gl sc D0 _ _ _ hw _ hs _
    exact ⟨D0, fun _ _ => rfl, h1 v (hs (v, x) (ps_lk_mem sc x v hw.1)), trivial⟩
  | glo g x =>
    intro k k' n gl sc D0 _ _ hgl hw ho _ _
    have := ps_gx_mem gl x 0 g hw.2.1
    exact ⟨D0, fun _ _ => rfl, h2 g (by omega) (ho rfl), trivial⟩
  | dead d =>
    intro k k' n gl sc D0 _ _ _ _ _ _ _
    refine ⟨fun e => if e = n then r.2.2.1 d else D0 e, fun e he => ?_, ?_, trivial⟩
    · show (if e = n then _ else D0 e) = D0 e
      have e1 : pc_sz CL (pt_dead d) = 1 := rfl
      rw [if_neg (by omega)]
    · show (if n = n then r.2.2.1 d else _) = r.2.2.1 d
      rw [if_pos rfl]
  | lam f x b tb ih =>
    intro k k' n gl sc D0 hc h24 hgl hw ho hs hS
    obtain ⟨ef, k1, cb, rfl⟩ := hc
    have m1 := (pn_mono b tb _ _ cb).1
    dsimp only at h24 m1
    have f24 : f < 24 := by omega
    have hM : M f = true := ho.1
    have e2 := h2 f f24 hM
    have e1 := h1 f (Or.inl ⟨f24, hM⟩)
    by_cases z : CL f = true
    · have ez : pc_t CL (pc_ρ M LV) (pc_rk SV) (pt_lam f x b) n = pt_lam (pc_ρ M LV f) x (pc_t CL (pc_ρ M LV) (pc_rk SV) b n) := by
        exact if_pos z
      have es : pc_sz CL (pt_lam f x b) = pc_sz CL b + 1 := by
        exact if_pos z
      have hob : pc_ok M CL SV LV b true := by have := ho.2.2; rw [z] at this; exact this
      obtain ⟨D, d1, d2, d3⟩ := ih _ _ n gl _ D0 cb (by omega) hgl hw.2 hob (fun b' hb => by
        rcases List.mem_cons.mp hb with q | q
        · rw [q]; exact Or.inl ⟨f24, hM⟩
        · exact hs b' q) hS.1
      rw [ez, es]
      refine ⟨D, fun d hd => d1 d (by omega), e2, d3, ?_⟩
      show r2 (pc_ρ M LV f) = pv_ar (r1 (pc_ρ M LV f)) (pv_t (r1, r2, D, r4) (pc_t CL (pc_ρ M LV) (pc_rk SV) b n))
      rw [e2, e1, d2]
      exact hS.2
    · have ez : pc_t CL (pc_ρ M LV) (pc_rk SV) (pt_lam f x b) n = pt_lam (pc_ρ M LV f) x (pt_dead n) := by
        exact if_neg z
      have es : pc_sz CL (pt_lam f x b) = 2 := by
        exact if_neg z
      rw [ez, es]
      refine ⟨fun e => if e = n then pv_t r b else D0 e, fun e he => ?_, e2, trivial, ?_⟩
      · show (if e = n then _ else D0 e) = D0 e
        rw [if_neg (by omega)]
      · show r2 (pc_ρ M LV f) = pv_ar (r1 (pc_ρ M LV f)) (if n = n then pv_t r b else _)
        rw [if_pos rfl, e2, e1]
        exact hS.2
  | ife a b c ta tb tc iha ihb ihc =>
    intro k k' n gl sc D0 hc h24 hgl hw ho hs hS
    obtain ⟨k1, k2, k3, c1, c2, c3, rfl⟩ := hc
    have m2 := (pn_mono b tb _ _ c2).1
    have m3 := (pn_mono c tc _ _ c3).1
    dsimp only at h24
    obtain ⟨D1, a1, a2, a3⟩ := iha _ _ n gl sc D0 c1 (by omega) hgl hw.1 ho.1 hs hS.1
    obtain ⟨D2, b1, b2, b3⟩ := ihb _ _ (n + pc_sz CL a) gl sc D1 c2 (by omega) hgl hw.2.1 ho.2.1 hs hS.2.1
    obtain ⟨D3, d1, d2, d3⟩ := ihc _ _ (n + pc_sz CL a + pc_sz CL b) gl sc D2 c3 (by omega) hgl hw.2.2 ho.2.2 hs hS.2.2.1
    have e3 : pc_sz CL (pt_ife a b c) = pc_sz CL a + pc_sz CL b + pc_sz CL c + 1 := rfl
    have ca := cong a ta _ _ n D1 D3 c1 (by omega) ho.1 (fun d p q => by rw [d1 d (by omega), b1 d (by omega)])
    have cb := cong b tb _ _ (n + pc_sz CL a) D2 D3 c2 (by omega) ho.2.1 (fun d p q => d1 d (by omega))
    rw [e3]
    refine ⟨D3, fun d hd => by rw [d1 d (by omega), b1 d (by omega), a1 d (by omega)], ?_, ca.2 a3, cb.2 b3, d3, (ca.1.trans a2).trans hS.2.2.2.1, (cb.1.trans b2).trans (hS.2.2.2.2.trans d2.symm)⟩
    exact cb.1.trans b2
  | lt v x a b ta tb iha ihb =>
    intro k k' n gl sc D0 hc h24 hgl hw ho hs hS
    obtain ⟨k1, k2, c1, ev, c2, rfl⟩ := hc
    have m2 := (pn_mono b tb _ _ c2).1
    dsimp only at h24 m2
    have hk : pc_kp M LV v := Or.inr ⟨by omega, ho.1⟩
    obtain ⟨D1, a1, a2, a3⟩ := iha _ _ n gl sc D0 c1 (by omega) hgl hw.2.1 ho.2.1 hs hS.1
    obtain ⟨D2, b1, b2, b3⟩ := ihb _ _ (n + pc_sz CL a) gl _ D1 c2 (by omega) hgl hw.2.2 ho.2.2 (fun b' hb => by
      rcases List.mem_cons.mp hb with q | q
      · rw [q]; exact hk
      · exact hs b' q) hS.2.1
    have e3 : pc_sz CL (pt_let v x a b) = pc_sz CL a + pc_sz CL b + 1 := rfl
    have ca := cong a ta _ _ n D1 D2 c1 (by omega) ho.2.1 (fun d p q => b1 d (by omega))
    rw [e3]
    exact ⟨D2, fun d hd => by rw [b1 d (by omega), a1 d (by omega)], b2, ca.2 a3, b3, by
      show r1 (pc_ρ M LV v) = pv_t (r1, r2, D2, r4) (pc_t CL (pc_ρ M LV) (pc_rk SV) a n)
      rw [h1 v hk, ca.1, a2]
      exact hS.2.2⟩
  | op s a b ta tb iha ihb =>
    intro k k' n gl sc D0 hc h24 hgl hw ho hs hS
    obtain ⟨k1, k2, c1, c2, rfl⟩ := hc
    have m2 := (pn_mono b tb _ _ c2).1
    dsimp only at h24
    obtain ⟨D1, a1, a2, a3⟩ := iha _ _ n gl sc D0 c1 (by omega) hgl hw.2.1 ho.1 hs hS.1
    obtain ⟨D2, b1, b2, b3⟩ := ihb _ _ (n + pc_sz CL a) gl sc D1 c2 (by omega) hgl hw.2.2 ho.2 hs hS.2.1
    have e3 : pc_sz CL (pt_op s a b) = pc_sz CL a + pc_sz CL b + 1 := rfl
    have ca := cong a ta _ _ n D1 D2 c1 (by omega) ho.1 (fun d p q => b1 d (by omega))
    rw [e3]
    exact ⟨D2, fun d hd => by rw [b1 d (by omega), a1 d (by omega)], rfl, ca.2 a3, b3, (ca.1.trans a2).trans hS.2.2.1, b2.trans hS.2.2.2⟩
  | site s a b ta tb iha ihb =>
    intro k k' n gl sc D0 hc h24 hgl hw ho hs hS
    obtain ⟨k1, k2, c1, _, c2, rfl⟩ := hc
    have m2 := (pn_mono b tb _ _ c2).1
    dsimp only at h24 m2
    obtain ⟨D1, a1, a2, a3⟩ := iha _ _ n gl sc D0 c1 (by omega) hgl hw.1 ho.2.1 hs hS.1
    obtain ⟨D2, b1, b2, b3⟩ := ihb _ _ (n + pc_sz CL a) gl sc D1 c2 (by omega) hgl hw.2 ho.2.2 hs hS.2.1
    have e3 : pc_sz CL (pt_site s a b) = pc_sz CL a + pc_sz CL b + 1 := rfl
    have ca := cong a ta _ _ n D1 D2 c1 (by omega) ho.2.1 (fun d p q => b1 d (by omega))
    rw [e3]
    refine ⟨D2, fun d hd => by rw [b1 d (by omega), a1 d (by omega)], h4 s ho.1, ca.2 a3, b3, ?_⟩
    show pv_t (r1, r2, D2, r4) (pc_t CL (pc_ρ M LV) (pc_rk SV) a n) = pv_ar (pv_t (r1, r2, D2, r4) (pc_t CL (pc_ρ M LV) (pc_rk SV) b (n + pc_sz CL a))) (r4 (pc_rk SV s))
    rw [ca.1, a2, b2, h4 s ho.1]
    exact hS.2.2
/-- GLOBALS of BACK type -/
theorem pc_ty_G {M CL SV LV : Nat → Bool} {B : Nat} {r : pv_R} {r1 r2 r4 : Nat → pv_T} (h1 : ∀ v, pc_kp M LV v → r1 (pc_ρ M LV v) = r.1 v) (h2 : ∀ f, f < 24 → M f = true → r2 (pc_ρ M LV f) = r.2.1 f) (h4 : ∀ s, SV s = true → r4 (pc_rk SV s) = r.2.2.2 s) (hB : B ≤ 6) : ∀ (gs : ps_G) (gl : List Nat) (k k' : pk_K) (n : Nat) (D0 : Nat → pv_T), gl.length + gs.length ≤ 6 → B + k'.1 ≤ 24 → pn_GW B gs gl k k' → pc_okG M CL SV LV gs gl.length → pv_G r gs gl.length → ∃ D : Nat → pv_T, (∀ d, ¬ (n ≤ d ∧ d < pc_N M CL gs gl.length n) → D d = D0 d) ∧ n ≤ pc_N M CL gs gl.length n ∧ ∀ D' : Nat → pv_T, (∀ d, n ≤ d → d < pc_N M CL gs gl.length n → D' d = D d) → pv_G (r1, r2, D', r4) (pc_G M CL (pc_ρ M LV) (pc_rk SV) gs gl.length n) (pc_rk M gl.length) := by
  intro gs
  induction gs with
  | nil => intro gl k k' n D0 _ _ _ _ _; exact ⟨D0, fun _ _ => rfl, Nat.le_refl _, fun _ _ => trivial⟩
  | cons e q ih =>
    intro gl k k' n D0 h6 h24 hg ho hr
    obtain ⟨x, v, u⟩ := e
    obtain ⟨nx, nxn, nv, tu, wu, ku, cu, hg2⟩ := hg
    obtain ⟨o1, o2, o3⟩ := ho
    obtain ⟨g1, g2, g3⟩ := hr
    rw [List.length_cons] at h6
    have mg := (pn_GWge _ _ _ _ hg2).1
    have mu := pn_mono u tu _ _ cu
    have el : (gl ++ [x]).length = gl.length + 1 := by rw [List.length_append]; rfl
    have gl24 : gl.length < 24 := by omega
    by_cases zM : M gl.length = true
    · have kp : pc_kp M LV gl.length := Or.inl ⟨gl24, zM⟩
      have e2 := h2 gl.length gl24 zM
      have e1 := h1 gl.length kp
      have eρ : pc_ρ M LV gl.length = pc_rk M gl.length := by unfold pc_ρ; rw [if_pos gl24]
      rw [eρ] at e1 e2
      by_cases zC : CL gl.length = true
      · have ou : pc_ok M CL SV LV u true := by rw [zC] at o2; exact o2
        obtain ⟨D1, a1, a2, a3⟩ := pc_ty h1 h2 h4 hB u tu k ku n (gl ++ [x]) [(gl.length, v)] D0 cu (by omega) (by rw [el]; omega) wu ou (fun b hb => by
          rw [List.mem_singleton.mp hb]; exact kp) g1
        obtain ⟨D2, b1, b2, b3⟩ := ih (gl ++ [x]) ku k' (n + pc_sz CL u) D1 (by rw [el]; omega) h24 hg2 (by rw [el]; exact o3) (by rw [el]; exact g3)
        rw [el] at b1 b2 b3
        have eN : pc_N M CL ((x, v, u) :: q) gl.length n = pc_N M CL q (gl.length + 1) (n + pc_sz CL u) := by
          show (if M gl.length = true then pc_N M CL q (gl.length + 1) (n + if CL gl.length = true then pc_sz CL u else 1) else _) = _
          rw [if_pos zM, if_pos zC]
        have eG : pc_G M CL (pc_ρ M LV) (pc_rk SV) ((x, v, u) :: q) gl.length n = (x, v, pc_t CL (pc_ρ M LV) (pc_rk SV) u n) :: pc_G M CL (pc_ρ M LV) (pc_rk SV) q (gl.length + 1) (n + pc_sz CL u) := by
          show (if M gl.length = true then (x, v, if CL gl.length = true then pc_t CL (pc_ρ M LV) (pc_rk SV) u n else pt_dead n) :: pc_G M CL (pc_ρ M LV) (pc_rk SV) q (gl.length + 1) (n + if CL gl.length = true then pc_sz CL u else 1) else _) = _
          rw [if_pos zM, if_pos zC, if_pos zC]
        rw [eN, eG]
        refine ⟨D2, fun d hd => by rw [b1 d (by omega), a1 d (by omega)], by omega, fun D' hD' => ?_⟩
        have cc := pc_can (M := M) (CL := CL) (SV := SV) (LV := LV) u tu k ku n (by omega) cu ou
        have c := pv_cong _ (pc_t_tw u tu n).1 _ _ (r1, r2, D1, r4) (r1, r2, D', r4) cc rfl rfl (fun d p1 p2 => by
          have p1' : n ≤ d := p1
          have p2' : d < n + pc_sz CL u := p2
          show D' d = D1 d
          rw [hD' d p1' (by omega), b1 d (by omega)]) (fun s _ _ => rfl)
        refine ⟨c.2 a3, ?_, ?_⟩
        · show r2 (pc_rk M gl.length) = pv_ar (r1 (pc_rk M gl.length)) (pv_t (r1, r2, D', r4) _)
          rw [c.1, a2, e1, e2]
          exact g2
        · have := b3 D' (fun d p1 p2 => hD' d (by omega) p2)
          rw [pc_rk_t zM] at this
          exact this
      · obtain ⟨D2, b1, b2, b3⟩ := ih (gl ++ [x]) ku k' (n + 1) (fun d => if d = n then pv_t r u else D0 d) (by rw [el]; omega) h24 hg2 (by rw [el]; exact o3) (by rw [el]; exact g3)
        rw [el] at b1 b2 b3
        have eN : pc_N M CL ((x, v, u) :: q) gl.length n = pc_N M CL q (gl.length + 1) (n + 1) := by
          show (if M gl.length = true then pc_N M CL q (gl.length + 1) (n + if CL gl.length = true then pc_sz CL u else 1) else _) = _
          rw [if_pos zM, if_neg zC]
        have eG : pc_G M CL (pc_ρ M LV) (pc_rk SV) ((x, v, u) :: q) gl.length n = (x, v, pt_dead n) :: pc_G M CL (pc_ρ M LV) (pc_rk SV) q (gl.length + 1) (n + 1) := by
          show (if M gl.length = true then (x, v, if CL gl.length = true then pc_t CL (pc_ρ M LV) (pc_rk SV) u n else pt_dead n) :: pc_G M CL (pc_ρ M LV) (pc_rk SV) q (gl.length + 1) (n + if CL gl.length = true then pc_sz CL u else 1) else _) = _
          rw [if_pos zM, if_neg zC, if_neg zC]
        rw [eN, eG]
        refine ⟨D2, fun d hd => by rw [b1 d (by omega)]; show (if d = n then _ else D0 d) = D0 d; rw [if_neg (by omega)], by omega, fun D' hD' => ⟨trivial, ?_, ?_⟩⟩
        · show r2 (pc_rk M gl.length) = pv_ar (r1 (pc_rk M gl.length)) (D' n)
          rw [hD' n (Nat.le_refl _) (by omega), b1 n (by omega), e1, e2]
          show _ = pv_ar _ (if n = n then pv_t r u else _)
          rw [if_pos rfl]
          exact g2
        · have := b3 D' (fun d p1 p2 => hD' d (by omega) p2)
          rw [pc_rk_t zM] at this
          exact this
    · have zf : M gl.length = false := pc_bf zM
      obtain ⟨D2, b1, b2, b3⟩ := ih (gl ++ [x]) ku k' n D0 (by rw [el]; omega) h24 hg2 (by rw [el]; exact o3) (by rw [el]; exact g3)
      rw [el] at b1 b2 b3
      have eN : pc_N M CL ((x, v, u) :: q) gl.length n = pc_N M CL q (gl.length + 1) n := if_neg zM
      have eG : pc_G M CL (pc_ρ M LV) (pc_rk SV) ((x, v, u) :: q) gl.length n = pc_G M CL (pc_ρ M LV) (pc_rk SV) q (gl.length + 1) n := if_neg zM
      rw [eN, eG]
      refine ⟨D2, b1, b2, fun D' hD' => ?_⟩
      have := b3 D' hD'
      rw [pc_rk_f zf] at this
      exact this
theorem pc_ty_P {M CL SV LV : Nat → Bool} {gs : ps_G} {t : pt_T} {la li si nd : Nat} {r : pv_R} (hV : pn_V gs t la li si nd) (hG : pc_okG M CL SV LV gs 0) (hM : pc_ok M CL SV LV t true) (hr : pv_P r gs t) : ∃ r', pv_P r' (pc_G M CL (pc_ρ M LV) (pc_rk SV) gs 0 0) (pc_t CL (pc_ρ M LV) (pc_rk SV) t (pc_N M CL gs 0 0)) := by
  obtain ⟨v1, v2, v3, v4, v5, v6, v7, k1, v8, v9⟩ := hV
  obtain ⟨iv, hiv⟩ := pc_inv (P := pc_kp M LV) (h := pc_ρ M LV) (fun u v a b e => pc_ρ_inj a b e)
  obtain ⟨is, his⟩ := pc_inv (P := fun s => SV s = true) (h := pc_rk SV) (fun u v a b e => pc_rk_inj a b e)
  have h1 : ∀ v, pc_kp M LV v → (fun u => r.1 (iv u)) (pc_ρ M LV v) = r.1 v := fun v hv => by dsimp only; rw [hiv v hv]
  have h2 : ∀ f, f < 24 → M f = true → (fun u => r.2.1 (iv u)) (pc_ρ M LV f) = r.2.1 f := fun f a b => by dsimp only; rw [hiv f (Or.inl ⟨a, b⟩)]
  have h4 : ∀ s, SV s = true → (fun u => r.2.2.2 (is u)) (pc_rk SV s) = r.2.2.2 s := fun s a => by dsimp only; rw [his s a]
  have m9 := (pn_mono t v6 _ _ v9).1
  dsimp only at m9
  obtain ⟨D1, a1, a2, a3⟩ := pc_ty_G (r1 := fun u => r.1 (iv u)) (r2 := fun u => r.2.1 (iv u)) (r4 := fun u => r.2.2.2 (is u)) h1 h2 h4 v1 gs [] (0, 0, 0, 0) k1 0 (fun _ => pv_int) (by rw [List.length_nil]; omega) (by omega) v8 hG hr.1
  rw [List.length_nil] at a1 a2 a3
  obtain ⟨D2, b1, b2, b3⟩ := pc_ty (r1 := fun u => r.1 (iv u)) (r2 := fun u => r.2.1 (iv u)) (r4 := fun u => r.2.2.2 (is u)) h1 h2 h4 v1 t v6 k1 _ (pc_N M CL gs 0 0) (pk_gn gs) [] D1 v9 (by dsimp only; omega) (by rw [pk_gn_len]; exact v1) v7 hM (fun b hb => by cases hb) hr.2
  refine ⟨(fun u => r.1 (iv u), fun u => r.2.1 (iv u), D2, fun u => r.2.2.2 (is u)), ?_, b3⟩
  exact a3 D2 (fun d p q => b1 d (by omega))
