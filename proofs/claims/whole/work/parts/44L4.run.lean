/-! BACK: what is kept, told by homes -/
def pc_lk (CL : Nat → Bool) (h : Int) : Bool := if h = -1 then true else CL h.toNat
def pc_SV (CL : Nat → Bool) (sb : pf_sT) (si s : Nat) : Bool := decide (s < si) && pc_lk CL (sb s).1
def pc_LV (CL : Nat → Bool) (hb : Nat → Int) (i : Nat) : Bool := pc_lk CL (hb (24 + i))
theorem rv_o_ho {G : Nat} {hb ho : Nat → Int} (t : pt_T) (tt : pt_tw t) : ∀ (h : Int), rv_hm G hb ho t h → ∀ f, G ≤ f → pf_o t f → ho f = h := by
  induction t, tt using pt_indh with
  | num v => intro h _ f _ q; exact q.elim
  | var v x => intro h _ f _ q; exact q.elim
  | glo g x =>
    intro h m f hf q
    have e : f = g := q
    have m' : g < G := m
    omega
  | dead d => intro h _ f _ q; exact q.elim
  | lam g x b tb ih =>
    intro h m f hf q
    have e : f = g := q
    rw [e]
    exact m.1
  | ife a b c ta tb tc iha ihb ihc =>
    intro h m f hf q
    rcases q with q | q | q
    · exact iha h m.1 f hf q
    · exact ihb h m.2.1 f hf q
    · exact ihc h m.2.2 f hf q
  | lt v x a b ta tb iha ihb =>
    intro h m f hf q
    rcases q with q | q
    · exact iha h m.2.1 f hf q
    · exact ihb h m.2.2 f hf q
  | op s a b ta tb iha ihb =>
    intro h m f hf q
    rcases q with q | q
    · exact iha h m.2.1 f hf q
    · exact ihb h m.2.2 f hf q
  | site s a b ta tb iha ihb =>
    intro h m f hf q
    rcases q with q | q
    · exact iha h m.1 f hf q
    · exact ihb h m.2 f hf q
theorem pc_ok_of {G nf nv si : Nat} {fb : Nat → pt_T} {t0 : pt_T} {r : pv_R} {hb ho : Nat → Int} {sb : pf_sT} {M CL : Nat → Bool} (hP : rv_PM G nf nv si fb t0 r hb ho) (hS : ∀ f, f < nf → pf_S sb (f : Int) (fb f)) (hM : ∀ f, M f = true ↔ pf_M fb t0 f) (hCL : ∀ f, CL f = true ↔ pf_lL fb t0 f) (hCn : ∀ f, CL f = true → f < nf) (tf : ∀ f, pt_tw (fb f)) (u : pt_T) (tu : pt_tw u) : ∀ (h : Int), rv_hm G hb ho u h → pf_T fb u → pf_W nf nv si u → pf_S sb h u → (∀ k k', pn_can G u k k' → True) → (∃ k k', pn_can G u k k') → (∀ g, pf_o u g → pf_o (pf_rt fb t0 h) g) → (h = -1 ∨ ∃ f : Nat, f < nf ∧ h = (f : Int)) → pc_ok M CL (pc_SV CL sb si) (pc_LV CL hb) u (pc_lk CL h) := by
  have lkM : ∀ (h : Int) (g : Nat), (h = -1 ∨ ∃ f : Nat, f < nf ∧ h = (f : Int)) → pf_o (pf_rt fb t0 h) g → pc_lk CL h = true → M g = true := fun h g hh ho' hl => by
    rw [hM]
    rcases hh with z | ⟨f, hf, z⟩
    · subst z; exact Or.inl ho'
    · subst z
      rw [pf_rt_f] at ho'
      unfold pc_lk at hl
      rw [if_neg (by omega)] at hl
      exact Or.inr ⟨f, (hCL f).mp hl, ho'⟩
  induction u, tu using pt_indh with
  | num v => intro h _ _ _ _ _ _ _ _; trivial
  | var v x => intro h _ _ _ _ _ _ _ _; trivial
  | glo g x => intro h _ _ _ _ _ _ ho' hh hl; exact lkM h g hh (ho' g rfl) hl
  | dead d => intro h _ _ _ _ _ _ _ _; trivial
  | lam f x b tb ih =>
    intro h m hT hW _ _ hk ho' hh
    have ff : f < nf := hW.1
    obtain ⟨p1, p2, p3, p4, p5, p6, p7, p8, p9⟩ := hP.1 f ff
    have eb : fb f = b := hT.2
    have m' : ho f = h ∧ h < (f : Int) ∧ G ≤ f := m
    refine ⟨?_, ?_, ?_⟩
    · by_cases z : pc_lk CL h = true
      · rw [z]; exact lkM h f hh (ho' f rfl) z
      · have zf : pc_lk CL h = false := by cases q : pc_lk CL h with | true => exact (z q).elim | false => rfl
        rw [zf]
        cases q : M f with
        | false => rfl
        | true =>
          have q' := (hM f).mp q
          rcases q' with q' | ⟨g, g1, g2⟩
          · have := rv_o_ho t0 hP.2.1.1 (-1) hP.2.1.2.2.2.2.1 f m'.2.2 q'
            exact (z (by unfold pc_lk; rw [if_pos (by omega)])).elim
          · have hg := hCn g ((hCL g).mpr g1)
            have := rv_o_ho (fb g) (tf g) (g : Int) (hP.1 g hg).2.2.2.2.2.1 f m'.2.2 g2
            refine (z ?_).elim
            unfold pc_lk
            rw [if_neg (by omega), show h.toNat = g by omega]
            exact (hCL g).mpr g1
    · intro q
      exact (hM f).mpr ((pf_lM hP.2.1.1 tf).2.2 f ((hCL f).mp q))
    · have e : pc_lk CL (f : Int) = CL f := by unfold pc_lk; rw [if_neg (by omega)]; rfl
      have i := ih (f : Int) (by rw [← eb]; exact p6) hT.1 hW.2 (by rw [← eb]; exact hS f ff) (fun _ _ _ => trivial) (by rw [← eb]; exact p8) (fun g q => by rw [pf_rt_f, eb]; exact q) (Or.inr ⟨f, ff, rfl⟩)
      rw [e] at i
      exact i
  | ife a b c ta tb tc iha ihb ihc =>
    intro h m hT hW hs _ hk ho' hh
    obtain ⟨k, k', k1, k2, k3, c1, c2, c3, _⟩ := hk
    exact ⟨iha h m.1 hT.1 hW.1 hs.1 (fun _ _ _ => trivial) ⟨_, _, c1⟩ (fun g q => ho' g (Or.inl q)) hh, ihb h m.2.1 hT.2.1 hW.2.1 hs.2.1 (fun _ _ _ => trivial) ⟨_, _, c2⟩ (fun g q => ho' g (Or.inr (Or.inl q))) hh, ihc h m.2.2 hT.2.2 hW.2.2 hs.2.2 (fun _ _ _ => trivial) ⟨_, _, c3⟩ (fun g q => ho' g (Or.inr (Or.inr q))) hh⟩
  | lt v x a b ta tb iha ihb =>
    intro h m hT hW hs _ hk ho' hh
    obtain ⟨k, k', k1, k2, c1, ev, c2, _⟩ := hk
    refine ⟨?_, iha h m.2.1 hT.1 hW.2.1 hs.1 (fun _ _ _ => trivial) ⟨_, _, c1⟩ (fun g q => ho' g (Or.inl q)) hh, ihb h m.2.2 hT.2 hW.2.2 hs.2 (fun _ _ _ => trivial) ⟨_, _, c2⟩ (fun g q => ho' g (Or.inr q)) hh⟩
    unfold pc_LV
    rw [show 24 + (v - 24) = v by omega, m.1]
  | op s a b ta tb iha ihb =>
    intro h m hT hW hs _ hk ho' hh
    obtain ⟨k, k', k1, k2, c1, c2, _⟩ := hk
    exact ⟨iha h m.2.1 hT.1 hW.1 hs.1 (fun _ _ _ => trivial) ⟨_, _, c1⟩ (fun g q => ho' g (Or.inl q)) hh, ihb h m.2.2 hT.2 hW.2 hs.2 (fun _ _ _ => trivial) ⟨_, _, c2⟩ (fun g q => ho' g (Or.inr q)) hh⟩
  | site s a b ta tb iha ihb =>
    intro h m hT hW hs _ hk ho' hh
    obtain ⟨k, k', k1, k2, c1, _, c2, _⟩ := hk
    refine ⟨?_, iha h m.1 hT.1 hW.2.1 hs.1 (fun _ _ _ => trivial) ⟨_, _, c1⟩ (fun g q => ho' g (Or.inl q)) hh, ihb h m.2 hT.2 hW.2.2 hs.2.1 (fun _ _ _ => trivial) ⟨_, _, c2⟩ (fun g q => ho' g (Or.inr q)) hh⟩
    unfold pc_SV
    rw [hs.2.2, decide_eq_true hW.1]
    rfl
/-- BACK of a program: what a copy wants -/
theorem pc_back_ok {gs : ps_G} {t : pt_T} {la li si nd : Nat} {fb : Nat → pt_T} {sb : pf_sT} {r : pv_R} {hb ho : Nat → Int} {M CL : Nat → Bool} (hV : pn_V gs t la li si nd) (hG : pf_G gs t la li si fb sb) (hP : rv_PM gs.length (gs.length + la) (24 + li) si fb t r hb ho) (hM : ∀ f, M f = true ↔ pf_M fb t f) (hCL : ∀ f, CL f = true ↔ pf_lL fb t f) (hCn : ∀ f, CL f = true → f < gs.length + la) : pc_okG M CL (pc_SV CL sb si) (pc_LV CL hb) gs 0 ∧ pc_ok M CL (pc_SV CL sb si) (pc_LV CL hb) t true ∧ ∀ s, pc_SV CL sb si s = true → s < si := by
  have one := fun (u : pt_T) (tu : pt_tw u) => pc_ok_of hP (fun f hf => (hG.2.2.1 f hf).2.2) hM hCL hCn hG.2.1 u tu
  refine ⟨?_, ?_, fun s h => ?_⟩
  · have key : ∀ (r' : ps_G) (g : Nat), g + r'.length = gs.length → (∀ j, j < r'.length → pn_tr gs t (g + j) = pn_tr r' t j) → pc_okG M CL (pc_SV CL sb si) (pc_LV CL hb) r' g := by
      intro r'
      induction r' with
      | nil => intro g _ _; trivial
      | cons e q ih =>
        intro g hg hj
        obtain ⟨x, v, u⟩ := e
        rw [List.length_cons] at hg
        have hlt : g < gs.length := by omega
        have eu : fb g = u := by rw [hG.1 g hlt]; exact hj 0 (Nat.zero_lt_succ _)
        obtain ⟨p1, p2, p3, p4, p5, p6, p7, p8, p9⟩ := hP.1 g (by omega)
        refine ⟨fun z => (hM g).mpr ((pf_lM hP.2.1.1 hG.2.1).2.2 g ((hCL g).mp z)), ?_, ih (g + 1) (by omega) (fun j hj2 => by
          have := hj (j + 1) (Nat.succ_lt_succ hj2)
          rw [show g + 1 + j = g + (j + 1) by omega]
          exact this)⟩
        have e : pc_lk CL (g : Int) = CL g := by unfold pc_lk; rw [if_neg (by omega)]; rfl
        rw [← e]
        rw [eu] at p1 p2 p3 p6 p8
        exact one u p1 (g : Int) p6 p2 p3 (by rw [← eu]; exact (hG.2.2.1 g (by omega)).2.2) (fun _ _ _ => trivial) p8 (fun k q => by rw [pf_rt_f, eu]; exact q) (Or.inr ⟨g, by omega, rfl⟩)
    exact key gs 0 (by omega) (fun j _ => by rw [Nat.zero_add])
  · obtain ⟨q1, q2, q3, q4, q5, q6⟩ := hP.2.1
    exact one t q1 (-1) q5 q2 q3 hG.2.2.2.1.2.2.2 (fun _ _ _ => trivial) q6 (fun g q => q) (Or.inl rfl)
  · unfold pc_SV at h
    rw [Bool.and_eq_true] at h
    exact of_decide_eq_true h.1
