/-! runs are well made: homes, TYPES, what is free -/
theorem rv_fv_sc (t : pt_T) (tt : pt_tw t) : ∀ (gl : List Nat) (sc : List (Nat × Nat)), pk_wfs t gl sc → ∀ v, rv_fv t v → ∃ b ∈ sc, b.1 = v := by
  induction t, tt using pt_indh with
  | num v => intro gl sc _ v h; exact h.elim
  | var v x =>
    intro gl sc h u q
    have e : u = v := q
    rw [e]
    exact ⟨(v, x), ps_lk_mem sc x v h.1, rfl⟩
  | glo g x => intro gl sc _ v h; exact h.elim
  | dead d => intro gl sc _ v h; exact h.elim
  | lam f x b tb ih =>
    intro gl sc h u q
    obtain ⟨b', b1, b2⟩ := ih gl _ h.2 u q.1
    rcases List.mem_cons.mp b1 with z | z
    · rw [z] at b2; exact (q.2 b2.symm).elim
    · exact ⟨b', z, b2⟩
  | ife a b c ta tb tc iha ihb ihc =>
    intro gl sc h u q
    rcases q with q | q | q
    · exact iha gl sc h.1 u q
    · exact ihb gl sc h.2.1 u q
    · exact ihc gl sc h.2.2 u q
  | lt v x a b ta tb iha ihb =>
    intro gl sc h u q
    rcases q with q | q
    · exact iha gl sc h.2.1 u q
    · obtain ⟨b', b1, b2⟩ := ihb gl _ h.2.2 u q.1
      rcases List.mem_cons.mp b1 with z | z
      · rw [z] at b2; exact (q.2 b2.symm).elim
      · exact ⟨b', z, b2⟩
  | op s a b ta tb iha ihb =>
    intro gl sc h u q
    rcases q with q | q
    · exact iha gl sc h.2.1 u q
    · exact ihb gl sc h.2.2 u q
  | site s a b ta tb iha ihb =>
    intro gl sc h u q
    rcases q with q | q
    · exact iha gl sc h.1 u q
    · exact ihb gl sc h.2 u q
theorem rv_sub {G : Nat} {fb : Nat → pt_T} {r : pv_R} {hb ho : Nat → Int} {w : fa_W} (e1 : ∀ v, hb v = w 193 v) (e2 : ∀ f, ho f = w 191 f) (t : pt_T) (tt : pt_tw t) : ∀ (h : Int) (a : Nat) (k k' : pk_K) (gl : List Nat) (sc : List (Nat × Nat)), pn_can G t k k' → pf_T fb t → pv_S r t → pm_H t h a w → pk_wfs t gl sc → gl.length ≤ G → h < ((G + k.1 : Nat) : Int) → rv_hm G hb ho t h ∧ ∀ f, G + k.1 ≤ f → f < G + k'.1 → pv_S r (fb f) ∧ r.2.1 f = pv_ar (r.1 f) (pv_t r (fb f)) ∧ rv_hm G hb ho (fb f) (f : Int) := by
  induction t, tt using pt_indh with
  | num v => intro h a k k' gl sc c _ _ _ _ _ _; cases c; exact ⟨trivial, fun f p q => by dsimp only at q; omega⟩
  | var v x => intro h a k k' gl sc c _ _ _ _ _ _; cases c; exact ⟨trivial, fun f p q => by dsimp only at q; omega⟩
  | glo g x =>
    intro h a k k' gl sc c _ _ _ hw hl _
    cases c
    have := ps_gx_mem gl x 0 g hw.2.1
    exact ⟨show g < G by omega, fun f p q => by dsimp only at q; omega⟩
  | dead d => intro h a k k' gl sc c _ _ _ _ _ _; cases c.2; exact ⟨trivial, fun f p q => by dsimp only at q; omega⟩
  | lam f x b tb ih =>
    intro h a k k' gl sc c hT hS hH hw hl hh
    obtain ⟨ef, k1, c1, rfl⟩ := c
    obtain ⟨i1, i2⟩ := ih (f : Int) a _ k1 gl _ c1 hT.1 hS.1 hH.1 hw.2 hl (by dsimp only; omega)
    refine ⟨⟨by rw [e2]; exact hH.2.2.2.2.1, by omega, by omega⟩, fun g p q => ?_⟩
    dsimp only at q
    by_cases z : g = f
    · subst z
      rw [hT.2]
      exact ⟨hS.1, hS.2, i1⟩
    · exact i2 g (by dsimp only; omega) q
  | ife ta tb tc wa wb wc iha ihb ihc =>
    intro h a k k' gl sc c hT hS hH hw hl hh
    obtain ⟨k1, k2, k3, c1, c2, c3, rfl⟩ := c
    have m1 := (pn_mono ta wa _ _ c1).1
    have m2 := (pn_mono tb wb _ _ c2).1
    obtain ⟨a1, a2⟩ := iha h _ k k1 gl sc c1 hT.1 hS.1 hH.1 hw.1 hl hh
    obtain ⟨b1, b2⟩ := ihb h _ k1 k2 gl sc c2 hT.2.1 hS.2.1 hH.2.1 hw.2.1 hl (by omega)
    obtain ⟨d1, d2⟩ := ihc h _ k2 k3 gl sc c3 hT.2.2 hS.2.2.1 hH.2.2.1 hw.2.2 hl (by omega)
    refine ⟨⟨a1, b1, d1⟩, fun f p q => ?_⟩
    dsimp only at q
    by_cases z : f < G + k1.1
    · exact a2 f p z
    · by_cases z2 : f < G + k2.1
      · exact b2 f (by omega) z2
      · exact d2 f (by omega) q
  | lt v x ta tb wa wb iha ihb =>
    intro h a k k' gl sc c hT hS hH hw hl hh
    obtain ⟨k1, k2, c1, _, c2, rfl⟩ := c
    have m1 := (pn_mono ta wa _ _ c1).1
    obtain ⟨a1, a2⟩ := iha h _ k k1 gl sc c1 hT.1 hS.1 hH.1 hw.2.1 hl hh
    obtain ⟨b1, b2⟩ := ihb h _ _ k2 gl _ c2 hT.2 hS.2.1 hH.2.1 hw.2.2 hl (by dsimp only; omega)
    refine ⟨⟨by rw [e1]; exact hH.2.2.2.2.2.2.2, a1, b1⟩, fun f p q => ?_⟩
    dsimp only at q
    by_cases z : f < G + k1.1
    · exact a2 f p z
    · exact b2 f (by dsimp only; omega) q
  | op s ta tb wa wb iha ihb =>
    intro h a k k' gl sc c hT hS hH hw hl hh
    obtain ⟨k1, k2, c1, c2, rfl⟩ := c
    have m1 := (pn_mono ta wa _ _ c1).1
    obtain ⟨a1, a2⟩ := iha h _ k k1 gl sc c1 hT.1 hS.1 hH.1 hw.2.1 hl hh
    obtain ⟨b1, b2⟩ := ihb h _ _ k2 gl _ c2 hT.2 hS.2.1 hH.2.1 hw.2.2 hl (by omega)
    refine ⟨⟨hw.1, a1, b1⟩, fun f p q => ?_⟩
    dsimp only at q
    by_cases z : f < G + k1.1
    · exact a2 f p z
    · exact b2 f (by omega) q
  | site s ta tb wa wb iha ihb =>
    intro h a k k' gl sc c hT hS hH hw hl hh
    obtain ⟨k1, k2, c1, _, c2, rfl⟩ := c
    have m1 := (pn_mono ta wa _ _ c1).1
    obtain ⟨a1, a2⟩ := iha h _ k k1 gl sc c1 hT.1 hS.1 hH.1 hw.1 hl hh
    obtain ⟨b1, b2⟩ := ihb h _ _ k2 gl _ c2 hT.2 hS.2.1 hH.2.1 hw.2 hl (by dsimp only; omega)
    refine ⟨⟨a1, b1⟩, fun f p q => ?_⟩
    dsimp only at q
    by_cases z : f < G + k1.1
    · exact a2 f p z
    · exact b2 f (by dsimp only; omega) q
theorem rv_PM_of {gs : ps_G} {t : pt_T} {la li si nd : Nat} {fb : Nat → pt_T} {sb : pf_sT} {r : pv_R} {w : fa_W} (hV : pn_V gs t la li si nd) (hG : pf_G gs t la li si fb sb) (hW : pm_Pw gs t la li si nd w) (hr : pv_P r gs t) : rv_PM gs.length (gs.length + la) (24 + li) si fb t r (fun v => w 193 v) (fun f => w 191 f) := by
  obtain ⟨v1, v2, v3, v4, v5, v6, v7, k1, v8, v9⟩ := id hV
  obtain ⟨K, K', it, ord⟩ := pn_items gs [] _ _ _ v8 v6 v7 v9
  obtain ⟨P1, P2⟩ := (pv_P_iff r gs t).mp hr
  have hho := pm_ho_of hV hW
  have el : ([] : List Nat).length = 0 := rfl
  have sub : ∀ g, g ≤ gs.length → ∃ k k', pn_can gs.length (pn_tr gs t g) k k' ∧ rv_hm gs.length (fun v => w 193 v) (fun f => w 191 f) (pn_tr gs t g) (pn_ow gs.length g) ∧ ∀ f, gs.length + k.1 ≤ f → f < gs.length + k'.1 → pv_S r (fb f) ∧ r.2.1 f = pv_ar (r.1 f) (pv_t r (fb f)) ∧ rv_hm gs.length (fun v => w 193 v) (fun f => w 191 f) (fb f) (f : Int) := fun g hg => by
    obtain ⟨a1, a2, a3, a4, gl', sc', a5, a6, a7, a8⟩ := it g hg
    obtain ⟨a, ha⟩ := pm_items hW hg
    have ow : pn_ow gs.length g < ((gs.length + (K g).1 : Nat) : Int) := by
      unfold pn_ow
      by_cases z : g < gs.length
      · rw [if_pos z]; omega
      · rw [if_neg z]; omega
    obtain ⟨s1, s2⟩ := rv_sub (fun _ => rfl) (fun _ => rfl) (pn_tr gs t g) a1 (pn_ow gs.length g) a _ _ gl' sc' a2 (pf_GT hG g hg) (P1 g hg) ha a5 (by rw [el] at a6; omega) ow
    exact ⟨K g, K' g, a2, s1, s2⟩
  have fvs : ∀ g, g ≤ gs.length → ∀ v, rv_fv (pn_tr gs t g) v → v = g ∧ g < gs.length := fun g hg v hv => by
    obtain ⟨a1, a2, a3, a4, gl', sc', a5, a6, a7, a8⟩ := it g hg
    obtain ⟨b, b1, b2⟩ := rv_fv_sc _ a1 gl' sc' a5 v hv
    have := a8 b b1
    rw [el] at this
    exact ⟨by omega, this.2⟩
  refine ⟨fun f hf => ?_, ⟨v6, hG.2.2.2.1.2.1, hG.2.2.2.1.2.2.1, ?_, ?_, k1, _, v9⟩, fun v hv => ?_⟩
  · obtain ⟨g1, g2, g3⟩ := hG.2.2.1 f hf
    have both : pv_S r (fb f) ∧ r.2.1 f = pv_ar (r.1 f) (pv_t r (fb f)) ∧ rv_hm gs.length (fun v => w 193 v) (fun f => w 191 f) (fb f) (f : Int) ∧ ∃ k k', pn_can gs.length (fb f) k k' := by
      by_cases c : f < gs.length
      · have e : fb f = pn_tr gs t f := hG.1 f c
        obtain ⟨k, k', s1, s2, s3⟩ := sub f (by omega)
        rw [e]
        refine ⟨P1 f (by omega), P2 f c, ?_, k, k', s1⟩
        unfold pn_ow at s2
        rw [if_pos c] at s2
        exact s2
      · obtain ⟨g, h1, ka, kb, h2, h3, h4⟩ := pn_lam_item gs [] _ _ _ v8 v9 f (by dsimp only; omega) (by dsimp only; exact hf)
        obtain ⟨a1, a2, a3, a4, gl', sc', a5, a6, a7, a8⟩ := it g h1
        obtain ⟨a, ha⟩ := pm_items hW h1
        have ow : pn_ow gs.length g < ((gs.length + ka.1 : Nat) : Int) := by
          unfold pn_ow
          by_cases z : g < gs.length
          · rw [if_pos z]; omega
          · rw [if_neg z]; omega
        obtain ⟨s1, s2⟩ := rv_sub (G := gs.length) (hb := fun v => w 193 v) (ho := fun f => w 191 f) (fun _ => rfl) (fun _ => rfl) (pn_tr gs t g) a1 (pn_ow gs.length g) a ka kb gl' sc' h2 (pf_GT hG g h1) (P1 g h1) ha a5 (by rw [el] at a6; omega) ow
        obtain ⟨x1, x2, x3⟩ := s2 f h3 h4
        obtain ⟨_, kx, ky, y1, _⟩ := pf_RB_of (pn_tr gs t g) a1 ka kb h2 (pf_GT hG g h1) f h3 h4
        exact ⟨x1, x2, x3, kx, ky, y1⟩
    obtain ⟨b1, b2, b3, b4⟩ := both
    refine ⟨hG.2.1 f, g1, g2, b1, b2, b3, (hho f hf).2.2, b4, fun c v hv => ?_, by omega, by omega⟩
    rw [hG.1 f c] at hv
    exact (fvs f (by omega) v hv).1
  · have := P1 gs.length (Nat.le_refl _)
    rw [pn_tr_len] at this
    exact this
  · obtain ⟨k, k', s1, s2, s3⟩ := sub gs.length (Nat.le_refl _)
    rw [pn_tr_len] at s2
    unfold pn_ow at s2
    rw [if_neg (by omega)] at s2
    exact s2
  · have := fvs gs.length (Nat.le_refl _) v (by rw [pn_tr_len]; exact hv)
    omega
