/-! what comes at a SITE is of one TYPE; GROUPS of what comes at a SITE; names of VARS -/
theorem pf_tk {nf nv ns : Nat} {fb : Nat → pt_T} {r : pv_R} (hA : ∀ f, f < nf → r.2.1 f = pv_ar (r.1 f) (pv_t r (fb f))) (t : pt_T) (tt : pt_tw t) : pf_W nf nv ns t → pv_S r t → (∀ f, pf_k (fun v f => f < nf ∧ r.1 v = r.2.1 f) (fun g f => f < nf ∧ pv_t r (fb g) = r.2.1 f) t f → f < nf ∧ pv_t r t = r.2.1 f) ∧ pf_c (fun v f => f < nf ∧ r.1 v = r.2.1 f) (fun g f => f < nf ∧ pv_t r (fb g) = r.2.1 f) (fun f => f < nf) t := by
  induction t, tt using pt_indh with
  | num v => intro _ _; exact ⟨fun f h => h.elim, trivial⟩
  | var v x => intro _ _; exact ⟨fun f h => h, trivial⟩
  | glo g x =>
    intro hW _
    refine ⟨fun f h => ?_, trivial⟩
    have e : f = g := h
    rw [e]
    exact ⟨hW, rfl⟩
  | dead d => intro _ _; exact ⟨fun f h => h.elim, trivial⟩
  | lam g x b tb ih =>
    intro hW _
    refine ⟨fun f h => ?_, trivial⟩
    have e : f = g := h
    rw [e]
    exact ⟨hW.1, rfl⟩
  | ife a b c ta tb tc iha ihb ihc =>
    intro hW hS
    have ia := iha hW.1 hS.1
    have ib := ihb hW.2.1 hS.2.1
    have ic := ihc hW.2.2 hS.2.2.1
    refine ⟨fun f h => ?_, ia.2, ib.2, ic.2⟩
    rcases h with h | h
    · exact ib.1 f h
    · have := ic.1 f h
      exact ⟨this.1, hS.2.2.2.2.trans this.2⟩
  | lt v x a b ta tb iha ihb =>
    intro hW hS
    have ia := iha hW.2.1 hS.1
    have ib := ihb hW.2.2 hS.2.1
    exact ⟨ib.1, ia.2, ib.2, fun f h => ⟨(ia.1 f h).1, hS.2.2.trans (ia.1 f h).2⟩⟩
  | op s a b ta tb iha ihb =>
    intro hW hS
    have ia := iha hW.1 hS.1
    have ib := ihb hW.2 hS.2.1
    exact ⟨fun f h => h.elim, ia.2, ib.2⟩
  | site s a b ta tb iha ihb =>
    intro hW hS
    have ia := iha hW.2.1 hS.1
    have ib := ihb hW.2.2 hS.2.1
    have ar : ∀ g, g < nf → pv_t r a = r.2.1 g → r.1 g = pv_t r b ∧ pv_t r (fb g) = pv_t r (pt_site s a b) := fun g hg e => by
      have := pv_ar_inj ((hA g hg).symm.trans (e.symm.trans hS.2.2))
      exact this
    refine ⟨fun f h => ?_, ia.2, ib.2, fun g h => ?_⟩
    · obtain ⟨g, h1, h2⟩ := h
      have g1 := ia.1 g h1
      exact ⟨h2.1, (ar g g1.1 g1.2).2.symm.trans h2.2⟩
    · have g1 := ia.1 g h
      refine ⟨g1.1, fun f h2 => ?_⟩
      have f1 := ib.1 f h2
      exact ⟨f1.1, (ar g g1.1 g1.2).1.trans f1.2⟩
theorem pf_typed {G nf nv ns : Nat} {fb : Nat → pt_T} {t : pt_T} {r : pv_R} {hb ho : Nat → Int} (hP : rv_PM G nf nv ns fb t r hb ho) (u : pt_T) (tu : pt_tw u) (hW : pf_W nf nv ns u) (hS : pv_S r u) : ∀ f, pf_k (pf_lH fb t) (pf_lR fb t) u f → f < nf ∧ pv_t r u = r.2.1 f := fun f h => by
  have hA : ∀ f, f < nf → r.2.1 f = pv_ar (r.1 f) (pv_t r (fb f)) := fun f hf => (hP.1 f hf).2.2.2.2.1
  have hC : pf_C fb t (fun v f => f < nf ∧ r.1 v = r.2.1 f) (fun g f => f < nf ∧ pv_t r (fb g) = r.2.1 f) (fun f => f < nf) := by
    refine ⟨(pf_tk hA t hP.2.1.1 hP.2.1.2.2.1 hP.2.1.2.2.2.1).2, fun f hf => ?_⟩
    obtain ⟨p1, p2, p3, p4, p5, _⟩ := hP.1 f hf
    have := pf_tk hA (fb f) p1 p3 p4
    exact ⟨this.2, fun g hg => this.1 g hg⟩
  exact (pf_tk hA u tu hW hS).1 f (pf_k_mono (fun v f q => q _ _ _ hC) (fun v f q => q _ _ _ hC) u tu f h)
theorem pf_ss_WS {nf nv ns : Nat} {sb : pf_sT} {r : pv_R} (t : pt_T) (tt : pt_tw t) : ∀ (h : Int), pf_S sb h t → pf_W nf nv ns t → pv_S r t → ∀ s, pf_ss t s → pt_tw (sb s).2.1 ∧ pf_W nf nv ns (sb s).2.1 ∧ pv_S r (sb s).2.1 := by
  induction t, tt using pt_indh with
  | num v => intro h _ _ _ s q; exact q.elim
  | var v x => intro h _ _ _ s q; exact q.elim
  | glo g x => intro h _ _ _ s q; exact q.elim
  | dead d => intro h _ _ _ s q; exact q.elim
  | lam f x b tb ih => intro h _ _ _ s q; exact q.elim
  | ife a b c ta tb tc iha ihb ihc =>
    intro h hs hW hS s q
    rcases q with q | q | q
    · exact iha h hs.1 hW.1 hS.1 s q
    · exact ihb h hs.2.1 hW.2.1 hS.2.1 s q
    · exact ihc h hs.2.2 hW.2.2 hS.2.2.1 s q
  | lt v x a b ta tb iha ihb =>
    intro h hs hW hS s q
    rcases q with q | q
    · exact iha h hs.1 hW.2.1 hS.1 s q
    · exact ihb h hs.2 hW.2.2 hS.2.1 s q
  | op s0 a b ta tb iha ihb =>
    intro h hs hW hS s q
    rcases q with q | q
    · exact iha h hs.1 hW.1 hS.1 s q
    · exact ihb h hs.2 hW.2 hS.2.1 s q
  | site s0 a b ta tb iha ihb =>
    intro h hs hW hS s q
    rcases q with q | q | q
    · rw [q, hs.2.2]
      exact ⟨ta, hW.2.1, hS.1⟩
    · exact iha h hs.1 hW.2.1 hS.1 s q
    · exact ihb h hs.2.1 hW.2.2 hS.2.1 s q
theorem pg_one {gs : ps_G} {t : pt_T} {A : Nat → Nat} {si nf mk sp f g : Nat} (hmk : mk < 2 ^ nf) (hf : mk.testBit f = true) (hg : mk.testBit g = true) (h : pg_r gs t A si sp f g) : pf_fi f (pg_g gs t A si nf mk sp) 0 = pf_fi g (pg_g gs t A si nf mk sp) 0 ∧ ∃ k : Nat, k < (pg_g gs t A si nf mk sp).length ∧ pf_fi f (pg_g gs t A si nf mk sp) 0 = (k : Int) := by
  have lt : ∀ x, mk.testBit x = true → x < nf := fun x hx => by
    by_cases z : x < nf
    · exact z
    · rw [Nat.testBit_lt_two_pow (Nat.lt_of_lt_of_le hmk (Nat.pow_le_pow_right (by omega) (by omega)))] at hx
      cases hx
  have hE := pg_g_E gs t A si nf mk sp
  have hI := pg_I_of hE nf (Nat.le_refl _)
  have hD := pg_D_of hE nf (Nat.le_refl _)
  have hgl : pg_g gs t A si nf mk sp = pg_l mk (pg_mt (fun g => mk.testBit g = true) (pg_r gs t A si sp) nf) nf := rfl
  rw [hgl]
  rcases pf_fi_cases f (pg_l mk (pg_mt (fun g => mk.testBit g = true) (pg_r gs t A si sp) nf) nf) 0 with ⟨a, _⟩ | ⟨i, i1, i2, i3⟩
  · exact (hI.2 f (lt f hf) hf a).elim
  · have e1 := (pg_fi_iff hD i1).mp i3
    have mem : (pg_l mk (pg_mt (fun g => mk.testBit g = true) (pg_r gs t A si sp) nf) nf).getD i 0 ∈ pg_l mk (pg_mt (fun g => mk.testBit g = true) (pg_r gs t A si sp) nf) nf := by
      rw [List.getD_eq_getElem?_getD, List.getElem?_eq_getElem i1]
      exact List.getElem_mem i1
    obtain ⟨g', g1, g2, g3⟩ := hI.1 _ mem
    have b1 : pg_r gs t A si sp g' f := by
      rw [g3] at i3
      exact ((pf_num_bit _ _ _).mp i3).2.2
    have b2 : ((pg_l mk (pg_mt (fun g => mk.testBit g = true) (pg_r gs t A si sp) nf) nf).getD i 0).testBit g = true := by
      rw [g3]
      exact (pf_num_bit _ _ _).mpr ⟨lt g hg, hg, (pg_r_eq gs t A si sp).2.2 _ _ _ b1 h⟩
    have e2 := (pg_fi_iff hD i1).mp b2
    exact ⟨e1.trans e2.symm, i, i1, e1⟩
/-- all that comes at a SITE is in one GROUP, by each split -/
theorem pg_site {gs : ps_G} {t : pt_T} {la li si nd mk sp s f g : Nat} {fb : Nat → pt_T} {sb : pf_sT} {hb ho : Nat → Int} {w : fa_W} (hV : pn_V gs t la li si nd) (hG : pf_G gs t la li si fb sb) (hW : pm_Pw gs t la li si nd w) (hmk : mk < 2 ^ (gs.length + la)) (hM : ∀ f, mk.testBit f = true ↔ pf_M fb t f) (hs : s < si) (hsp : sp < 3) (hf : (pf_A fb t sb (gs.length + la) s).testBit f = true) (hg : (pf_A fb t sb (gs.length + la) s).testBit g = true) : pf_fi f (pg_g gs t (pf_A fb t sb (gs.length + la)) si (gs.length + la) mk sp) 0 = pf_fi g (pg_g gs t (pf_A fb t sb (gs.length + la)) si (gs.length + la) mk sp) 0 ∧ ∃ k : Nat, k < (pg_g gs t (pf_A fb t sb (gs.length + la)) si (gs.length + la) mk sp).length ∧ pf_fi f (pg_g gs t (pf_A fb t sb (gs.length + la)) si (gs.length + la) mk sp) 0 = (k : Int) := by
  have mf := (hM f).mpr (pf_A_M hG hs hf).2
  have mg := (hM g).mpr (pf_A_M hG hs hg).2
  refine pg_one hmk mf mg ?_
  have h3 : sp = 0 ∨ sp = 1 ∨ sp = 2 := by omega
  rcases h3 with h | h | h
  · subst h; trivial
  · subst h
    show pv_al gs t f g
    intro r hr
    have hP := rv_PM_of hV hG hW hr
    have k1 := (pf_num_bit _ _ _).mp hf
    have k2 := (pf_num_bit _ _ _).mp hg
    obtain ⟨u, tu, hWu, hSu, hu⟩ : ∃ u, pt_tw u ∧ pf_W (gs.length + la) (24 + li) si u ∧ pv_S r u ∧ (sb s).2.1 = u := by
      rcases hG.2.2.2.2 s hs with ⟨a, b⟩ | ⟨g', g1, a, b⟩
      · have := pf_ss_WS t hP.2.1.1 (-1) hG.2.2.2.1.2.2.2 hP.2.1.2.2.1 hP.2.1.2.2.2.1 s b
        exact ⟨_, this.1, this.2.1, this.2.2, rfl⟩
      · have := pf_ss_WS (fb g') (hG.2.1 g') (g' : Int) (hG.2.2.1 g' g1).2.2 (hP.1 g' g1).2.2.1 (hP.1 g' g1).2.2.2.1 s b
        exact ⟨_, this.1, this.2.1, this.2.2, rfl⟩
    rw [hu] at k1 k2
    have t1 := pf_typed hP u tu hWu hSu f k1.2.2
    have t2 := pf_typed hP u tu hWu hSu g k2.2.2
    exact t1.2.symm.trans t2.2
  · subst h
    exact fun P _ hs' => hs' s hs f g hf hg
/-! names of VARS -/
def pd_yq (gs : ps_G) (t : pt_T) (v y : Nat) : Prop := (∃ g, g ≤ gs.length ∧ pd_bn (pn_tr gs t g) v y) ∨ ∃ x e, gs[v]? = some (x, y, e)
theorem pd_yv_ex {gs : ps_G} {t : pt_T} {la li si nd : Nat} {fb : Nat → pt_T} {sb : pf_sT} (hV : pn_V gs t la li si nd) (hG : pf_G gs t la li si fb sb) : ∃ yv : Nat → Nat, ∀ f, f < gs.length + la → (∀ v ∈ pd_fl f (fb f), pd_yq gs t v (yv v)) ∧ pd_yq gs t f (yv f) := by
  classical
  refine ⟨fun v => if h : ∃ y, pd_yq gs t v y then h.choose else 0, fun f hf => ?_⟩
  have key : ∀ v, (∃ y, pd_yq gs t v y) → pd_yq gs t v (if h : ∃ y, pd_yq gs t v y then h.choose else 0) := fun v h => by
    rw [dif_pos h]
    exact h.choose_spec
  obtain ⟨g, hg, w1, w2, w3⟩ := pd_where hV hG hf
  have tw := pn_tr_tw hV.2.2.2.2.2.1 gs [] _ _ hV.2.2.2.2.2.2.2.choose_spec.1 g
  have glo : ∀ v, v < gs.length → ∃ y, pd_yq gs t v y := fun v hv => by
    obtain ⟨e, he⟩ : ∃ e, gs[v]? = some e := ⟨gs[v], List.getElem?_eq_getElem hv⟩
    exact ⟨e.2.1, Or.inr ⟨e.1, e.2.2, he⟩⟩
  refine ⟨fun v hv => key v ?_, key f ?_⟩
  · rcases (w1 v (pd_fl_oc hv)).2 with q | ⟨q1, q2⟩
    · obtain ⟨y, hy⟩ := pd_bl_bn _ tw v q
      exact ⟨y, Or.inl ⟨g, hg, hy⟩⟩
    · exact glo v (by omega)
  · rcases w3 with ⟨_, q⟩ | ⟨_, y, hy⟩
    · exact glo f q
    · exact ⟨y, Or.inl ⟨g, hg, hy⟩⟩
theorem pd_bn_nm (t : pt_T) (tt : pt_tw t) : ∀ (gl : List Nat) (sc : List (Nat × Nat)), pk_wfs t gl sc → ∀ v y, pd_bn t v y → pk_nm y := by
  induction t, tt using pt_indh with
  | num v => intro gl sc _ u y q; exact q.elim
  | var v x => intro gl sc _ u y q; exact q.elim
  | glo g x => intro gl sc _ u y q; exact q.elim
  | dead d => intro gl sc _ u y q; exact q.elim
  | lam f x b tb ih =>
    intro gl sc h u y q
    rcases q with ⟨_, q⟩ | q
    · rw [q]; exact h.1
    · exact ih gl _ h.2 u y q
  | ife a b c ta tb tc iha ihb ihc =>
    intro gl sc h u y q
    rcases q with q | q | q
    · exact iha gl sc h.1 u y q
    · exact ihb gl sc h.2.1 u y q
    · exact ihc gl sc h.2.2 u y q
  | lt v x a b ta tb iha ihb =>
    intro gl sc h u y q
    rcases q with ⟨_, q⟩ | q | q
    · rw [q]; exact h.1
    · exact iha gl sc h.2.1 u y q
    · exact ihb gl _ h.2.2 u y q
  | op s a b ta tb iha ihb =>
    intro gl sc h u y q
    rcases q with q | q
    · exact iha gl sc h.2.1 u y q
    · exact ihb gl sc h.2.2 u y q
  | site s a b ta tb iha ihb =>
    intro gl sc h u y q
    rcases q with q | q
    · exact iha gl sc h.1 u y q
    · exact ihb gl sc h.2 u y q
theorem px_bn_at {o nf nv ns : Nat} {ins : List Nat} {w : fa_W} (h24 : nf ≤ 24) (t : pt_T) (tt : pt_tw t) : ∀ (h : Int) (a : Nat), px_P o ins t h a w → pf_W nf nv ns t → ∀ v y, pd_bn t v y → w (o + 14) (px_xi ins v) = (y : Int) := by
  induction t, tt using pt_indh with
  | num v => intro h a _ _ u y q; exact q.elim
  | var v x => intro h a _ _ u y q; exact q.elim
  | glo g x => intro h a _ _ u y q; exact q.elim
  | dead d => intro h a _ _ u y q; exact q.elim
  | lam f x b tb ih =>
    intro h a H hW u y q
    rcases q with ⟨q1, q2⟩ | q
    · have : px_xi ins u = f := by rw [q1]; unfold px_xi; have := hW.1; rw [if_pos (by omega)]
      rw [this, q2]
      exact H.2.2.1
    · exact ih _ _ H.1 hW.2 u y q
  | ife a b c ta tb tc iha ihb ihc =>
    intro h p H hW u y q
    rcases q with q | q | q
    · exact iha _ _ H.1 hW.1 u y q
    · exact ihb _ _ H.2.1 hW.2.1 u y q
    · exact ihc _ _ H.2.2.1 hW.2.2 u y q
  | lt v x a b ta tb iha ihb =>
    intro h p H hW u y q
    rcases q with ⟨q1, q2⟩ | q | q
    · rw [q1, q2]; exact H.2.2.2.1
    · exact iha _ _ H.1 hW.2.1 u y q
    · exact ihb _ _ H.2.1 hW.2.2 u y q
  | op s a b ta tb iha ihb =>
    intro h p H hW u y q
    rcases q with q | q
    · exact iha _ _ H.1 hW.1 u y q
    · exact ihb _ _ H.2.1 hW.2 u y q
  | site s a b ta tb iha ihb =>
    intro h p H hW u y q
    rcases q with q | q
    · exact iha _ _ H.1 hW.2.1 u y q
    · exact ihb _ _ H.2.1 hW.2.2 u y q
theorem px_yq {o nd : Nat} {gs : ps_G} {t : pt_T} {la li si : Nat} {ins os : List Nat} {fb : Nat → pt_T} {sb : pf_sT} {w : fa_W} (hV : pn_V gs t la li si nd) (hG : pf_G gs t la li si fb sb) (hX : px_V o gs t la li si nd ins os w) {v y : Nat} (h : pd_yq gs t v y) : w (o + 14) (px_xi ins v) = (y : Int) ∧ pk_nm y := by
  obtain ⟨_, _, h3, h4, h5, h6, h7, h8, h9, h10⟩ := hX
  have v1 := hV.1
  have v2 := hV.2.1
  obtain ⟨_, _, _, _, _, v6, v7, kk1, v8, v9⟩ := id hV
  obtain ⟨K, K', it, _⟩ := pn_items gs [] _ _ _ v8 v6 v7 v9
  rcases h with ⟨g, hg, hb⟩ | ⟨x, e, he⟩
  · obtain ⟨b1, _, _, _, gl', sc', b5, b6, _, _⟩ := it g hg
    obtain ⟨c, c1, c2, c3⟩ := px_L_in os 0 h7 g ((h5 g).mpr hg)
    have hW : pf_W (gs.length + la) (24 + li) si (pn_tr gs t g) := by
      by_cases q : g < gs.length
      · rw [← hG.1 g q]; exact (hG.2.2.1 g (by omega)).2.1
      · have : g = gs.length := by omega
        rw [this, pn_tr_len]; exact hG.2.2.2.1.2.2.1
    exact ⟨px_bn_at (by omega) _ b1 _ c c2 hW v y hb, pd_bn_nm _ b1 gl' sc' b5 v y hb⟩
  · have hlt : v < gs.length := by
      by_cases z : v < gs.length
      · exact z
      · rw [List.getElem?_eq_none (by omega)] at he; cases he
    obtain ⟨_, g2⟩ := px_gn_nam gs 0 h3 v x y e he
    rw [Nat.zero_add] at g2
    have : px_xi ins v = v := by unfold px_xi; rw [if_pos (by omega)]
    rw [this]
    exact ⟨g2, (px_names hV v x y e he).2.1⟩
theorem pm_bn_at {nf nv ns : Nat} {w : fa_W} (t : pt_T) (tt : pt_tw t) : ∀ (h : Int) (a : Nat), pm_H t h a w → ∀ v y, pd_bn t v y → w 192 v = ((pm_cv y : Nat) : Int) := by
  induction t, tt using pt_indh with
  | num v => intro h a _ u y q; exact q.elim
  | var v x => intro h a _ u y q; exact q.elim
  | glo g x => intro h a _ u y q; exact q.elim
  | dead d => intro h a _ u y q; exact q.elim
  | lam f x b tb ih =>
    intro h a H u y q
    rcases q with ⟨q1, q2⟩ | q
    · rw [q1, q2]; exact H.2.2.2.2.2.1
    · exact ih _ _ H.1 u y q
  | ife a b c ta tb tc iha ihb ihc =>
    intro h p H u y q
    rcases q with q | q | q
    · exact iha _ _ H.1 u y q
    · exact ihb _ _ H.2.1 u y q
    · exact ihc _ _ H.2.2.1 u y q
  | lt v x a b ta tb iha ihb =>
    intro h p H u y q
    rcases q with ⟨q1, q2⟩ | q | q
    · rw [q1, q2]; exact H.2.2.2.2.2.2.1
    · exact iha _ _ H.1 u y q
    · exact ihb _ _ H.2.1 u y q
  | op s a b ta tb iha ihb =>
    intro h p H u y q
    rcases q with q | q
    · exact iha _ _ H.1 u y q
    · exact ihb _ _ H.2.1 u y q
  | site s a b ta tb iha ihb =>
    intro h p H u y q
    rcases q with q | q
    · exact iha _ _ H.1 u y q
    · exact ihb _ _ H.2.1 u y q
theorem pm_yq {gs : ps_G} {t : pt_T} {la li si nd : Nat} {w : fa_W} (hV : pn_V gs t la li si nd) (hW : pm_Pw gs t la li si nd w) {v y : Nat} (h : pd_yq gs t v y) : w 192 v = ((pm_cv y : Nat) : Int) := by
  rcases h with ⟨g, hg, hb⟩ | ⟨x, e, he⟩
  · obtain ⟨a, ha⟩ := pm_items hW hg
    have tw := pn_tr_tw hV.2.2.2.2.2.1 gs [] _ _ hV.2.2.2.2.2.2.2.choose_spec.1 g
    exact pm_bn_at (nf := 0) (nv := 0) (ns := 0) _ tw _ a ha v y hb
  · obtain ⟨_, _, g2, _⟩ := pm_GH_at gs 0 0 hW.2.2.2.2.2.2.2.1 v x y e he
    rw [Nat.zero_add] at g2
    exact g2
