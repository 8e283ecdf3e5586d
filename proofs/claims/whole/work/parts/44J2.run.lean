/-! all code is laid -/
def pm_cuq (nf : Nat) (fb : Nat → pt_T) (t : pt_T) (f : Nat) : pt_T := if f < nf then fb f else t
theorem pm_cuq_tw {nf : Nat} {fb : Nat → pt_T} {t : pt_T} (tt : pt_tw t) (tf : ∀ f, pt_tw (fb f)) (f : Nat) : pt_tw (pm_cuq nf fb t f) := by
  unfold pm_cuq
  by_cases q : f < nf
  · rw [if_pos q]; exact tf f
  · rw [if_neg q]; exact tt
def pm_CD (nf : Nat) (fb : Nat → pt_T) (t : pt_T) (w : fa_W) : Prop := ∀ f, f ≤ nf → ∃ c : Nat, c + pm_cz (pm_cuq nf fb t f) < 500 ∧ w 223 f = (c : Int) ∧ pm_cd (pm_cuq nf fb t f) c w ∧ w 221 (c + pm_cz (pm_cuq nf fb t f)) = 11
theorem pm_cu_snoc (g : Nat → Nat) (d : Nat) : pm_cu g 0 (d + 1) = pm_cu g 0 d + g d := by
  rw [pm_cu_app, Nat.zero_add]
  rfl
theorem pm_compilesAll_l {nf : Nat} {fb : Nat → pt_T} {t : pt_T} {w0 : fa_W} (h24 : nf ≤ 24) (tt : pt_tw t) (tf : ∀ f, pt_tw (fb f)) (hPB : pf_PB nf fb t w0) (hs : pm_cu (fun f => pm_cz (fb f)) 0 nf + pm_cz t ≤ 200) : ∀ (d f F : Nat) (w : fa_W), f + d = nf + 1 → d < F → (∀ i j, ¬ (221 ≤ i ∧ i ≤ 223) → ¬ (i = 181 ∧ j = 68) → w i j = w0 i j) → w 181 68 = ((pm_cu (fun f => pm_cz (fb f)) 0 f + f : Nat) : Int) ∨ f = nf + 1 → (∀ g, g < f → ∃ c : Nat, (c + pm_cz (pm_cuq nf fb t g) < pm_cu (fun f => pm_cz (fb f)) 0 f + f ∨ f = nf + 1) ∧ c + pm_cz (pm_cuq nf fb t g) < 500 ∧ w 223 g = (c : Int) ∧ pm_cd (pm_cuq nf fb t g) c w ∧ w 221 (c + pm_cz (pm_cuq nf fb t g)) = 11) → ∃ w', fm_Mod_compilesAll_l7 F (f : Int) w = some w' ∧ pm_CD nf fb t w' ∧ ∀ i j, ¬ (221 ≤ i ∧ i ≤ 223) → ¬ (i = 181 ∧ j = 68) → w' i j = w0 i j := by
  obtain ⟨hf0, ⟨b, hb1, hb2, hb3⟩, hB⟩ := hPB
  intro d
  induction d with
  | zero =>
    intro f F w hf hF o hc hg
    obtain ⟨F, rfl⟩ : ∃ G, F = G + 1 := ⟨F - 1, by omega⟩
    refine ⟨w, ?_, fun g hgn => ?_, o⟩
    · unfold fm_Mod_compilesAll_l7 fm_Mod_functions
      rw [o 181 17 (by omega) (by omega), o 181 18 (by omega) (by omega), hf0, pb_wr (by omega), pb_wr (by omega), if_pos (by omega)]
    · obtain ⟨c, _, c2⟩ := hg g (by omega)
      exact ⟨c, c2⟩
  | succ d ih =>
    intro f F w hf hF o hc hg
    obtain ⟨F, rfl⟩ : ∃ G, F = G + 1 := ⟨F - 1, by omega⟩
    have hc' : w 181 68 = ((pm_cu (fun f => pm_cz (fb f)) 0 f + f : Nat) : Int) := by
      rcases hc with h | h
      · exact h
      · omega
    have hfs : ∀ w1 : fa_W, (∀ i j, ¬ (221 ≤ i ∧ i ≤ 223) → ¬ (i = 181 ∧ j = 68) → w1 i j = w0 i j) → fm_Mod_functions w1 = (nf : Int) := fun w1 e => by
      unfold fm_Mod_functions
      rw [e 181 17 (by omega) (by omega), e 181 18 (by omega) (by omega)]
      exact hf0
    generalize hcn : pm_cu (fun f => pm_cz (fb f)) 0 f + f = c at hc' hg
    obtain ⟨w1, hw1⟩ : ∃ w1, w1 = fa_st w 223 f (c : Int) := ⟨_, rfl⟩
    have o1 : ∀ i j, ¬ (221 ≤ i ∧ i ≤ 223) → ¬ (i = 181 ∧ j = 68) → w1 i j = w0 i j := fun i j p q => by rw [hw1, fa_st_ne (by omega)]; exact o i j p q
    have c1 : w1 181 68 = (c : Int) := by rw [hw1, fa_st_ne (by omega)]; exact hc'
    have z1 : pm_cu (fun f => pm_cz (fb f)) 0 f + (if f < nf then pm_cz (fb f) else 0) ≤ pm_cu (fun f => pm_cz (fb f)) 0 nf := by
      by_cases q : f < nf
      · rw [if_pos q]
        have a1 := pm_cu_snoc (fun f => pm_cz (fb f)) f
        have a2 := pm_cu_le (fun f => pm_cz (fb f)) (f + 1) 0 (n := nf) (by omega)
        omega
      · rw [if_neg q]
        exact pm_cu_le _ f 0 (by omega)
    obtain ⟨u, hu⟩ : ∃ u, u = pm_cuq nf fb t f := ⟨_, rfl⟩
    have tu : pt_tw u := by rw [hu]; exact pm_cuq_tw tt tf f
    have bu : c + pm_cz u + 1 < 300 ∧ (f < nf → c + pm_cz u + 1 = pm_cu (fun f => pm_cz (fb f)) 0 (f + 1) + (f + 1)) := by
      have a1 := pm_cu_snoc (fun f => pm_cz (fb f)) f
      rw [hu]
      unfold pm_cuq
      by_cases q : f < nf
      · rw [if_pos q] at z1 ⊢
        refine ⟨by omega, fun _ => by omega⟩
      · rw [if_neg q] at z1 ⊢
        refine ⟨by omega, fun x => (q x).elim⟩
    have hroot : ∃ (a : Nat) (hh : Int), a + pt_sz u ≤ 100 ∧ pm_H u hh a w0 ∧ fm_Mod_compilesAll_l7 (F + 1) (f : Int) w = fm_Mod_compilesAll_j47 (fun x1 w9 => fm_Mod_compilesAll_l7 F x1 w9) (f : Int) ((a + pt_sz u - 1 : Nat) : Int) w1 := by
      have e0 : ∀ s0 : Int, True := fun _ => trivial
      by_cases q : f < nf
      · obtain ⟨a, a1, a2, a3⟩ := hB f q
        have eu : u = fb f := by rw [hu]; unfold pm_cuq; rw [if_pos q]
        rw [eu]
        refine ⟨a, (f : Int), a1, a3, ?_⟩
        conv => lhs; unfold fm_Mod_compilesAll_l7
        rw [hfs w o, pb_wr (by omega), pb_wr (by omega), if_neg (by omega), pb_ix (by omega) (by omega), Option.bind_some, hc', ← hw1, pf_let_eq, hfs w1 o1, pb_wr (by omega), if_neg (by omega), pb_ix (by omega) (by omega), Option.bind_some, o1 189 f (by omega) (by omega), a2]
      · have eu : u = t := by rw [hu]; unfold pm_cuq; rw [if_neg q]
        rw [eu]
        refine ⟨b, -1, hb1, hb3, ?_⟩
        conv => lhs; unfold fm_Mod_compilesAll_l7
        rw [hfs w o, pb_wr (by omega), pb_wr (by omega), if_neg (by omega), pb_ix (by omega) (by omega), Option.bind_some, hc', ← hw1, pf_let_eq, hfs w1 o1, pb_wr (by omega), if_pos (by omega), o1 181 21 (by omega) (by omega), hb2]
    obtain ⟨a, hh, r1, r2, r3⟩ := hroot
    obtain ⟨w2, b1, b2, b3, b4⟩ := pm_compiles (B := 0) (w0 := w1) u tu 900 c a hh w1 (by omega) (pm_H_ob (fun i j p q => by rw [hw1, fa_st_ne (by omega)]; exact o i j (by omega) (by omega)) u tu hh a r2) (by omega) (fun _ _ _ _ => rfl) c1 (by omega)
    obtain ⟨w3, d1, d2, d3, d4, d5⟩ := pm_lays b3 (by omega) 11 0
    have o3 : ∀ i j, ¬ (221 ≤ i ∧ i ≤ 223) → ¬ (i = 181 ∧ j = 68) → w3 i j = w0 i j := fun i j p q => by rw [d5 _ _ (by omega) q, b4 _ _ (by omega) q]; exact o1 i j p q
    have step : fm_Mod_compilesAll_l7 (F + 1) (f : Int) w = fm_Mod_compilesAll_l7 F ((f + 1 : Nat) : Int) w3 := by
      rw [r3]
      unfold fm_Mod_compilesAll_j47
      rw [b1, Option.bind_some, d1]
      rfl
    rw [step]
    refine ih (f + 1) F w3 (by omega) (by omega) o3 ?_ (fun g hgf => ?_)
    · by_cases q : f < nf
      · refine Or.inl ?_
        rw [d4, ← bu.2 q]
      · exact Or.inr (by omega)
    · have w3o : ∀ i j, (i = 221 ∨ i = 222) → j < c → w3 i j = w i j := fun i j p q => by rw [d5 _ _ (by omega) (by omega), b4 _ _ (by omega) (by omega), hw1, fa_st_ne (by omega)]
      have w3e : ∀ j, w3 223 j = w1 223 j := fun j => by rw [d5 _ _ (by omega) (by omega), b4 _ _ (by omega) (by omega)]
      by_cases q : g = f
      · subst q
        rw [← hu]
        refine ⟨c, ?_, by omega, by rw [w3e, hw1, fa_st_eq], pm_cd_ob u tu c (fun i j p q r => d5 i j (by omega) (by omega)) b2, d2⟩
        by_cases q : g < nf
        · have := bu.2 q; exact Or.inl (by omega)
        · exact Or.inr (by omega)
      · obtain ⟨e, e1, e2, e3, e4, e5⟩ := hg g (by omega)
        have e1' : e + pm_cz (pm_cuq nf fb t g) < c := by
          rcases e1 with h | h
          · exact h
          · omega
        have tg : pt_tw (pm_cuq nf fb t g) := pm_cuq_tw tt tf g
        refine ⟨e, ?_, e2, by rw [w3e, hw1, fa_st_ne (by omega)]; exact e3, pm_cd_ob _ tg e (fun i j p q r => w3o i j p (by omega)) e4, by rw [w3o _ _ (by omega) (by omega)]; exact e5⟩
        by_cases q : f < nf
        · have := bu.2 q; exact Or.inl (by omega)
        · exact Or.inr (by omega)
theorem pm_compilesAll {gs : ps_G} {t : pt_T} {la li si nd : Nat} {fb : Nat → pt_T} {sb : pf_sT} {w : fa_W} (hV : pn_V gs t la li si nd) (hG : pf_G gs t la li si fb sb) (hW : pm_Pw gs t la li si nd w) : ∃ w', fm_Mod_compilesAll w = some w' ∧ pm_CD (gs.length + la) fb t w' ∧ ∀ i j, ¬ (221 ≤ i ∧ i ≤ 223) → ¬ (i = 181 ∧ j = 68) → w' i j = w i j := by
  have v1 := hV.1
  have v2 := hV.2.1
  have PB := pf_PB_of hV hG hW
  obtain ⟨w', q1, q2, q3⟩ := pm_compilesAll_l (w0 := w) (by omega) hG.2.2.2.1.1 hG.2.1 PB (pm_cu_all hV hG) (gs.length + la + 1) 0 fa_FU (fa_st w 181 68 0) (by omega) (by unfold fa_FU; omega) (fun i j p q => fa_st_ne q) (Or.inl (fa_st_eq _ _ _ _)) (fun g hg => by cases hg)
  exact ⟨w', q1, q2, q3⟩
