theorem pe_nz {x : Int} (h : x = 0) : x ≠ -1 := by omega
/-- what is written again of an EXPR, THING by THING, and how many come -/
def pe_Q (oP : Nat) (M CL SV : Nat → Bool) (w0 : fa_W) (mk : Nat → Int) (a n m : Nat) : Prop := pe_c (pe_e oP CL w0 mk) (a + n) = pe_c (pe_e oP CL w0 mk) a + m ∧ ∀ i, a ≤ i → i < a + n → mk i ≠ -1 → pe_X oP M CL SV w0 mk i
theorem pe_Q_two {oP : Nat} {M CL SV : Nat → Bool} {w0 : fa_W} {mk : Nat → Int} {a n m n2 m2 : Nat} (h1 : pe_Q oP M CL SV w0 mk a n m) (h2 : pe_Q oP M CL SV w0 mk (a + n) n2 m2) : pe_Q oP M CL SV w0 mk a (n + n2) (m + m2) := by
  refine ⟨?_, fun i p q z => ?_⟩
  · rw [← Nat.add_assoc, h2.1, h1.1, Nat.add_assoc]
  · by_cases l : i < a + n
    · exact h1.2 i p l z
    · exact h2.2 i (by omega) (by omega) z
theorem pe_Q_root {oP : Nat} {M CL SV : Nat → Bool} {w0 : fa_W} {mk : Nat → Int} {a n m : Nat} (h1 : pe_Q oP M CL SV w0 mk a n m) (hm : mk (a + n) = 0) (nl : pe_lose oP CL w0 (a + n) = false) (hX : pe_X oP M CL SV w0 mk (a + n)) : pe_Q oP M CL SV w0 mk a (n + 1) (m + 1) := by
  refine ⟨?_, fun i p q z => ?_⟩
  · show pe_c _ (a + n) + pe_e oP CL w0 mk (a + n) = _
    rw [h1.1, pe_e_1 (by omega) nl, Nat.add_assoc]
  · by_cases l : i < a + n
    · exact h1.2 i p l z
    · rw [show i = a + n by omega]; exact hX
theorem pe_tree {oP B nf nv : Nat} {M CL SV LV : Nat → Bool} {ins : List Nat} {w0 : fa_W} {mk : Nat → Int} (h24 : nf ≤ 24) (hx : ∀ v, px_xi ins v < 74) (hge : ∀ i, i < ins.length → 24 ≤ ins.getD i 0) (t : pt_T) (tt : pt_tw t) : ∀ (gl : List Nat) (sc : List (Nat × Nat)) (h : Int) (a : Nat) (k k' : pk_K), px_P oP ins t h a w0 → pn_can B t k k' → k'.2.1 ≤ ins.length → pf_W nf nv 100 t → pk_wfs t gl sc → (∀ b ∈ sc, (b.1 < 24 → M b.1 = true) ∧ b.1 < 24 + ins.length) → pc_ok M CL SV LV t true → pe_mk CL t a mk → (h = -1 ∨ ∃ f : Nat, h = (f : Int) ∧ f < 24 ∧ M f = true) → pe_Q oP M CL SV w0 mk a (pt_sz t) (pc_sz CL t) := by
  induction t, tt using pt_indh with
  | num v =>
    intro gl sc h a k k' H hc hi W wf hs ok m hh
    have w1 : v ≤ 9999 := wf
    exact pe_leaf H m (by decide) (by omega) (fun z => by omega) (fun z => by omega) hh
  | var v x =>
    intro gl sc h a k k' H hc hi W wf hs ok m hh
    have l := hx v
    refine pe_leaf H.1 m (by decide) (by omega) (fun _ => ⟨l, fun z => ?_⟩) (fun z => by omega) hh
    have v24 : v < 24 ∨ 24 ≤ v := by omega
    rcases v24 with v24 | v24
    · have e : px_xi ins v = v := by unfold px_xi; exact if_pos v24
      rw [e]
      obtain ⟨b, b1, b2⟩ := pd_lk_mem sc x v wf.1
      rw [← b2]
      exact (hs b b1).1 (by omega)
    · have e : px_xi ins v = ins.getD (v - 24) 0 := by unfold px_xi; exact if_neg (by omega)
      obtain ⟨b, b1, b2⟩ := pd_lk_mem sc x v wf.1
      have lb := (hs b b1).2
      have := hge (v - 24) (by omega)
      rw [e] at z
      omega
  | glo g x =>
    intro gl sc h a k k' H hc hi W wf hs ok m hh
    have l : g < nf := W
    exact pe_leaf H.1 m (by decide) (by omega) (fun z => by omega) (fun _ => ⟨by omega, ok rfl⟩) hh
  | dead d =>
    intro gl sc h a k k' H hc hi W wf hs ok m hh
    exact pe_leaf H m (by decide) (by decide) (fun z => by omega) (fun z => by omega) hh
  | lam f x b tb ih =>
    intro gl sc h a k k' H hc hi W wf hs ok m hh
    obtain ⟨ef, k1, h1, rfl⟩ := hc
    obtain ⟨H1, H2, H3, H4, H5⟩ := H
    obtain ⟨o1, o2, o3⟩ := ok
    obtain ⟨m1, m2⟩ := m
    have fl : f < 24 := by have := W.1; omega
    have pp := pt_sz_pos b
    have e2 : pc_sz CL (pt_lam f x b) = if CL f = true then pc_sz CL b + 1 else 2 := rfl
    have rs := px_P_root b tb _ _ H1
    rw [e2, show pt_sz (pt_lam f x b) = pt_sz b + 1 from rfl]
    have lo : pe_lose oP CL w0 (a + pt_sz b) = !CL f := by
      unfold pe_lose
      rw [H2.1, H2.2.1, Int.toNat_natCast, decide_eq_true (by rfl)]; rfl
    by_cases c : CL f = true
    · rw [if_pos c] at m2 ⊢
      rw [c] at o3 lo
      have i := ih gl ((f, x) :: sc) (f : Int) a _ _ H1 h1 hi W.2 wf.2 (fun b hb => by
        rcases List.mem_cons.mp hb with rfl | hb
        · exact ⟨fun _ => o1, by dsimp only; omega⟩
        · exact hs b hb) o3 m2 (Or.inr ⟨f, rfl, fl, o1⟩)
      refine pe_Q_root i m1 lo ⟨5, f, a, h, _, _, _, H2, ⟨by omega, by omega, by omega, by omega⟩, Or.inr ⟨a + pt_sz b - 1, rfl, by omega, rs, fun _ => ?_⟩, Or.inl rfl, Or.inl rfl, fun z => by omega, fun z => by omega, fun _ => ⟨fl, o1, H4, rfl, rfl, fun z => by rw [c] at z; cases z⟩, fun z => by omega, fun z => by omega, hh⟩
      rw [pe_mk_root b tb a m2]
      decide
    · rw [if_neg c] at m2 ⊢
      rw [pc_bf c] at lo
      have cz : pe_c (pe_e oP CL w0 mk) (a + pt_sz b) = pe_c (pe_e oP CL w0 mk) a := pe_c_z _ (fun i p q => pe_e_0 (m2 i p q))
      refine ⟨?_, fun i p q z => ?_⟩
      · show pe_c _ (a + pt_sz b) + pe_e oP CL w0 mk (a + pt_sz b) = _
        rw [cz, pe_e_2 (by omega) lo]
      · have ei : i = a + pt_sz b := by
          by_cases l : i < a + pt_sz b
          · exact absurd (m2 i p l) z
          · omega
        rw [ei]
        exact ⟨5, f, a, h, _, _, _, H2, ⟨by omega, by omega, by omega, by omega⟩, Or.inr ⟨a + pt_sz b - 1, rfl, by omega, rs, fun z => by rw [lo] at z; cases z⟩, Or.inl rfl, Or.inl rfl, fun z => by omega, fun z => by omega, fun _ => ⟨fl, o1, H4, rfl, rfl, fun _ => cz.symm⟩, fun z => by omega, fun z => by omega, hh⟩
  | ife ta t2 tc wa wb wc iha ihb ihc =>
    intro gl sc h a k k' H hc hi W wf hs ok m hh
    obtain ⟨k1, k2, k3, h1, h2, h3, rfl⟩ := hc
    obtain ⟨H1, H2, H3, H4⟩ := H
    obtain ⟨m1, m2, m3, m4⟩ := m
    have n2 := pn_mono t2 wb _ _ h2
    have n3 := pn_mono tc wc _ _ h3
    have p1 := pt_sz_pos ta
    have p2 := pt_sz_pos t2
    have p3 := pt_sz_pos tc
    have i1 := iha gl sc h a _ _ H1 h1 (by dsimp only at hi; omega) W.1 wf.1 hs ok.1 m1 hh
    have i2 := ihb gl sc h _ _ _ H2 h2 (by dsimp only at hi; omega) W.2.1 wf.2.1 hs ok.2.1 m2 hh
    have i3 := ihc gl sc h _ _ _ H3 h3 hi W.2.2 wf.2.2 hs ok.2.2 m3 hh
    have r1 := pe_mk_root ta wa _ m1
    have r2 := pe_mk_root t2 wb _ m2
    have r3 := pe_mk_root tc wc _ m3
    have s1 := px_P_root ta wa _ _ H1
    have i12 := pe_Q_two i1 i2
    rw [show a + pt_sz ta + pt_sz t2 = a + (pt_sz ta + pt_sz t2) by omega] at i3 H4 m4 r3 r2
    have i123 := pe_Q_two i12 i3
    rw [show a + (pt_sz ta + pt_sz t2) + pt_sz tc = a + (pt_sz ta + pt_sz t2 + pt_sz tc) by omega] at H4 m4 r3
    have nl : pe_lose oP CL w0 (a + (pt_sz ta + pt_sz t2 + pt_sz tc)) = false := by
      unfold pe_lose
      rw [H4.1]; rfl
    show pe_Q oP M CL SV w0 mk a (pt_sz ta + pt_sz t2 + pt_sz tc + 1) (pc_sz CL ta + pc_sz CL t2 + pc_sz CL tc + 1)
    exact pe_Q_root i123 m4 nl ⟨6, 0, a, h, _, _, _, H4, ⟨by omega, by omega, by omega, by omega⟩, Or.inr ⟨a + pt_sz ta - 1, rfl, by omega, s1, fun _ => pe_nz r1⟩, Or.inr ⟨a + (pt_sz ta + pt_sz t2) - 1, rfl, by omega, pe_nz r2⟩, Or.inr ⟨a + (pt_sz ta + pt_sz t2 + pt_sz tc) - 1, rfl, by omega, pe_nz r3⟩, fun z => by omega, fun z => by omega, fun z => by omega, fun z => by omega, fun z => by omega, hh⟩
  | lt v x ta t2 wa wb iha ihb =>
    intro gl sc h a k k' H hc hi W wf hs ok m hh
    obtain ⟨k1, k2, h1, ev, h2, rfl⟩ := hc
    obtain ⟨H1, H2, H3, H4, H5⟩ := H
    obtain ⟨m1, m2, m3⟩ := m
    have n2 := pn_mono t2 wb _ _ h2
    dsimp only at hi n2
    have p1 := pt_sz_pos ta
    have p2 := pt_sz_pos t2
    have i1 := iha gl sc h a _ _ H1 h1 (by omega) W.2.1 wf.2.1 hs ok.2.1 m1 hh
    have i2 := ihb gl ((v, x) :: sc) h _ _ _ H2 h2 hi W.2.2 wf.2.2 (fun b hb => by
      rcases List.mem_cons.mp hb with rfl | hb
      · exact ⟨fun l => by dsimp only at l; omega, by dsimp only; omega⟩
      · exact hs b hb) ok.2.2 m2 hh
    have r1 := pe_mk_root ta wa _ m1
    have r2 := pe_mk_root t2 wb _ m2
    have s1 := px_P_root ta wa _ _ H1
    have i12 := pe_Q_two i1 i2
    have xv : px_xi ins v < 74 := hx v
    have xg : 24 ≤ px_xi ins v := by
      have e : px_xi ins v = ins.getD (v - 24) 0 := by unfold px_xi; exact if_neg (by omega)
      rw [e]; exact hge _ (by omega)
    rw [show a + pt_sz ta + pt_sz t2 = a + (pt_sz ta + pt_sz t2) by omega] at H3 H5 m3 r2
    have nl : pe_lose oP CL w0 (a + (pt_sz ta + pt_sz t2)) = false := by
      unfold pe_lose
      rw [H3.1]; rfl
    show pe_Q oP M CL SV w0 mk a (pt_sz ta + pt_sz t2 + 1) (pc_sz CL ta + pc_sz CL t2 + 1)
    exact pe_Q_root i12 m3 nl ⟨7, px_xi ins v, a, h, _, _, _, H3, ⟨by omega, by omega, by omega, by omega⟩, Or.inr ⟨a + pt_sz ta - 1, rfl, by omega, s1, fun _ => pe_nz r1⟩, Or.inr ⟨a + (pt_sz ta + pt_sz t2) - 1, rfl, by omega, pe_nz r2⟩, Or.inl rfl, fun z => by omega, fun _ => ⟨xg, xv, H5⟩, fun z => by omega, fun z => by omega, fun z => by omega, hh⟩
  | op s ta t2 wa wb iha ihb =>
    intro gl sc h a k k' H hc hi W wf hs ok m hh
    obtain ⟨k1, k2, h1, h2, rfl⟩ := hc
    obtain ⟨H1, H2, H3⟩ := H
    obtain ⟨m1, m2, m3⟩ := m
    have n2 := pn_mono t2 wb _ _ h2
    dsimp only at hi n2
    have p1 := pt_sz_pos ta
    have p2 := pt_sz_pos t2
    have i1 := iha gl sc h a _ _ H1 h1 (by omega) W.1 wf.2.1 hs ok.1 m1 hh
    have i2 := ihb gl sc h _ _ _ H2 h2 hi W.2 wf.2.2 hs ok.2 m2 hh
    have r1 := pe_mk_root ta wa _ m1
    have r2 := pe_mk_root t2 wb _ m2
    have s1 := px_P_root ta wa _ _ H1
    have i12 := pe_Q_two i1 i2
    have sl := wf.1
    rw [show a + pt_sz ta + pt_sz t2 = a + (pt_sz ta + pt_sz t2) by omega] at H3 m3 r2
    have nl : pe_lose oP CL w0 (a + (pt_sz ta + pt_sz t2)) = false := by
      unfold pe_lose
      rw [H3.1]; rfl
    show pe_Q oP M CL SV w0 mk a (pt_sz ta + pt_sz t2 + 1) (pc_sz CL ta + pc_sz CL t2 + 1)
    exact pe_Q_root i12 m3 nl ⟨8, s, a, h, _, _, _, H3, ⟨by omega, by omega, by omega, by omega⟩, Or.inr ⟨a + pt_sz ta - 1, rfl, by omega, s1, fun _ => pe_nz r1⟩, Or.inr ⟨a + (pt_sz ta + pt_sz t2) - 1, rfl, by omega, pe_nz r2⟩, Or.inl rfl, fun z => by omega, fun z => by omega, fun z => by omega, fun z => by omega, fun z => by omega, hh⟩
  | site s ta t2 wa wb iha ihb =>
    intro gl sc h a k k' H hc hi W wf hs ok m hh
    obtain ⟨k1, k2, h1, es, h2, rfl⟩ := hc
    obtain ⟨H1, H2, H3, H4⟩ := H
    obtain ⟨m1, m2, m3⟩ := m
    have n2 := pn_mono t2 wb _ _ h2
    dsimp only at hi n2
    have p1 := pt_sz_pos ta
    have p2 := pt_sz_pos t2
    have i1 := iha gl sc h a _ _ H1 h1 (by omega) W.2.1 wf.1 hs ok.2.1 m1 hh
    have i2 := ihb gl sc h _ _ _ H2 h2 hi W.2.2 wf.2 hs ok.2.2 m2 hh
    have r1 := pe_mk_root ta wa _ m1
    have r2 := pe_mk_root t2 wb _ m2
    have s1 := px_P_root ta wa _ _ H1
    have i12 := pe_Q_two i1 i2
    have sl : s < 100 := W.1
    rw [show a + pt_sz ta + pt_sz t2 = a + (pt_sz ta + pt_sz t2) by omega] at H3 H4 m3 r2
    have nl : pe_lose oP CL w0 (a + (pt_sz ta + pt_sz t2)) = false := by
      unfold pe_lose
      rw [H3.1]; rfl
    show pe_Q oP M CL SV w0 mk a (pt_sz ta + pt_sz t2 + 1) (pc_sz CL ta + pc_sz CL t2 + 1)
    exact pe_Q_root i12 m3 nl ⟨9, s, a, h, _, _, _, H3, ⟨by omega, by omega, by omega, by omega⟩, Or.inr ⟨a + pt_sz ta - 1, rfl, by omega, s1, fun _ => pe_nz r1⟩, Or.inr ⟨a + (pt_sz ta + pt_sz t2) - 1, rfl, by omega, pe_nz r2⟩, Or.inl rfl, fun _ => ⟨sl, ok.1, H4⟩, fun z => by omega, fun z => by omega, fun z => by omega, fun z => by omega, hh⟩
