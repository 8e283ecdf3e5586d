/-! copying: all marks -/
def pe_rt (o G : Nat) (w : fa_W) (g : Nat) : Int := if g < G then w (o + 20) g else w o 16
def pe_VI (G : Nat) (M CL : Nat → Bool) (g : Nat) : Bool := if g < G then M g && CL g else true
def pe_L0 (VI : Nat → Bool) (gs : ps_G) (t : pt_T) (mk : Nat → Int) : List Nat → Nat → Prop
  | [], _ => True
  | g :: r, a => (if VI g = true then mk (a + pt_sz (pn_tr gs t g) - 1) = 0 ∧ ∀ i, a ≤ i → i + 1 < a + pt_sz (pn_tr gs t g) → mk i = -1 else ∀ i, a ≤ i → i < a + pt_sz (pn_tr gs t g) → mk i = -1) ∧ pe_L0 VI gs t mk r (a + pt_sz (pn_tr gs t g))
def pe_L1 (CL VI : Nat → Bool) (gs : ps_G) (t : pt_T) (mk : Nat → Int) : List Nat → Nat → Prop
  | [], _ => True
  | g :: r, a => (if VI g = true then pe_mk CL (pn_tr gs t g) a mk else ∀ i, a ≤ i → i < a + pt_sz (pn_tr gs t g) → mk i = -1) ∧ pe_L1 CL VI gs t mk r (a + pt_sz (pn_tr gs t g))
theorem pe_rt_in {o : Nat} {ins : List Nat} {gs : ps_G} {t : pt_T} {w : fa_W} : ∀ (r : List Nat) (a : Nat), px_L o ins gs t r a w → ∀ g ∈ r, (a : Int) ≤ pe_rt o gs.length w g ∧ pe_rt o gs.length w g < ((a + pn_os gs t r : Nat) : Int) := by
  intro r
  induction r with
  | nil => intro a _ g hg; cases hg
  | cons g0 r ih =>
    intro a H g hg
    obtain ⟨H1, H2, H3⟩ := H
    have pp := pt_sz_pos (pn_tr gs t g0)
    have e : pn_os gs t (g0 :: r) = pt_sz (pn_tr gs t g0) + pn_os gs t r := rfl
    rw [e]
    rcases List.mem_cons.mp hg with rfl | hg
    · change pe_rt o gs.length w g = _ at H2
      rw [H2]
      omega
    · have := ih _ H3 g hg
      omega
theorem pe_L0_of {o : Nat} {ins : List Nat} {gs : ps_G} {t : pt_T} {w : fa_W} {VI : Nat → Bool} {mk : Nat → Int} : ∀ (r : List Nat) (a : Nat), px_L o ins gs t r a w → (∀ g ∈ r, VI g = true → ∀ j : Nat, (j : Int) = pe_rt o gs.length w g → mk j = 0) → (∀ j, a ≤ j → j < a + pn_os gs t r → (∀ g ∈ r, VI g = true → (j : Int) ≠ pe_rt o gs.length w g) → mk j = -1) → pe_L0 VI gs t mk r a := by
  intro r
  induction r with
  | nil => intro a _ _ _; trivial
  | cons g0 r ih =>
    intro a H hA hB
    obtain ⟨H1, H2, H3⟩ := H
    have pp := pt_sz_pos (pn_tr gs t g0)
    have e : pn_os gs t (g0 :: r) = pt_sz (pn_tr gs t g0) + pn_os gs t r := rfl
    rw [e] at hB
    have rt0 : pe_rt o gs.length w g0 = ((a + pt_sz (pn_tr gs t g0) - 1 : Nat) : Int) := H2
    have rr := pe_rt_in r _ H3
    refine ⟨?_, ih _ H3 (fun g hg => hA g (List.mem_cons_of_mem _ hg)) (fun j p q h => hB j (by omega) (by omega) (fun g hg hv => ?_))⟩
    · by_cases c : VI g0 = true
      · rw [if_pos c]
        refine ⟨hA g0 (List.mem_cons_self ..) c _ rt0.symm, fun i p q => hB i p (by omega) (fun g hg hv => ?_)⟩
        rcases List.mem_cons.mp hg with rfl | hg
        · rw [rt0]; omega
        · have := rr g hg; omega
      · rw [if_neg c]
        refine fun i p q => hB i p (by omega) (fun g hg hv => ?_)
        rcases List.mem_cons.mp hg with rfl | hg
        · exact absurd hv c
        · have := rr g hg; omega
    · rcases List.mem_cons.mp hg with rfl | hg
      · rw [rt0]; omega
      · exact h g hg hv
theorem pe_L1_cong {CL VI : Nat → Bool} {gs : ps_G} {t : pt_T} (tw : ∀ g, pt_tw (pn_tr gs t g)) {mk mk' : Nat → Int} : ∀ (r : List Nat) (a : Nat), (∀ j, a ≤ j → mk' j = mk j) → pe_L1 CL VI gs t mk r a → pe_L1 CL VI gs t mk' r a := by
  intro r
  induction r with
  | nil => intro a _ _; trivial
  | cons g0 r ih =>
    intro a h H
    obtain ⟨H1, H2⟩ := H
    refine ⟨?_, ih _ (fun j hj => h j (by omega)) H2⟩
    by_cases c : VI g0 = true
    · rw [if_pos c] at H1 ⊢
      exact pe_mk_cong _ (tw g0) _ (fun i p q => h i p) H1
    · rw [if_neg c] at H1 ⊢
      exact fun i p q => (h i p).trans (H1 i p q)
theorem pe_mark_L {o oP nd nf nv ns : Nat} {M CL VI : Nat → Bool} {cd : Int} {ins : List Nat} {gs : ps_G} {t : pt_T} {w0 : fa_W} (h24 : nf ≤ 24) (E : pe_EM o oP nd CL cd w0) (tw : ∀ g, pt_tw (pn_tr gs t g)) (W : ∀ g, g ≤ gs.length → pf_W nf nv ns (pn_tr gs t g)) : ∀ (r : List Nat) (a : Nat) (w : fa_W), (∀ g ∈ r, g ≤ gs.length) → px_L oP ins gs t r a w0 → a + pn_os gs t r ≤ nd → pe_f2 o w0 w → pe_L0 VI gs t (w (o + 24)) r a → ∃ w', (∀ F, fm_Program_markThings_l83 o oP cd (F + pn_os gs t r) (((a + pn_os gs t r : Nat) : Int) - 1) w = fm_Program_markThings_l83 o oP cd F ((a : Int) - 1) w') ∧ pe_f2 o w w' ∧ (∀ j, ¬ (a ≤ j ∧ j < a + pn_os gs t r) → w' (o + 24) j = w (o + 24) j) ∧ pe_L1 CL VI gs t (w' (o + 24)) r a := by
  intro r
  induction r with
  | nil => intro a w _ _ _ _ _; exact ⟨w, fun F => rfl, fun _ _ _ => rfl, fun _ _ => rfl, trivial⟩
  | cons g0 r ih =>
    intro a w hr H ha hw h0
    obtain ⟨H1, H2, H3⟩ := H
    obtain ⟨k1, k2⟩ := h0
    have pp := pt_sz_pos (pn_tr gs t g0)
    have e : pn_os gs t (g0 :: r) = pt_sz (pn_tr gs t g0) + pn_os gs t r := rfl
    rw [e] at ha ⊢
    obtain ⟨w1, a1, a2, a3, a4⟩ := ih _ w (fun g hg => hr g (List.mem_cons_of_mem _ hg)) H3 (by omega) hw k2
    have hw1 : pe_f2 o w0 w1 := fun i j p => (a2 i j p).trans (hw i j p)
    by_cases c : VI g0 = true
    · rw [if_pos c] at k1
      obtain ⟨w2, b1, b2, b3, b4⟩ := pe_mark_t h24 E _ (tw g0) _ a w1 H1 (W g0 (hr g0 (List.mem_cons_self ..))) (by omega) hw1 (by rw [a3 _ (by omega)]; exact k1.1) (fun i p q => by rw [a3 _ (by omega)]; exact k1.2 i p q)
      refine ⟨w2, fun F => ?_, fun i j p => (b2 i j p).trans (a2 i j p), fun j hj => (b3 j (by omega)).trans (a3 j (by omega)), ?_, ?_⟩
      · have q := a1 (F + pt_sz (pn_tr gs t g0))
        rw [show F + (pt_sz (pn_tr gs t g0) + pn_os gs t r) = F + pt_sz (pn_tr gs t g0) + pn_os gs t r by omega, show a + (pt_sz (pn_tr gs t g0) + pn_os gs t r) = a + pt_sz (pn_tr gs t g0) + pn_os gs t r by omega, q]
        exact b1 F
      · rw [if_pos c]; exact b4
      · exact pe_L1_cong tw r _ (fun j hj => b3 j (by omega)) a4
    · rw [if_neg c] at k1
      refine ⟨w1, fun F => ?_, a2, fun j hj => a3 j (by omega), ?_, a4⟩
      · have q := a1 (F + pt_sz (pn_tr gs t g0))
        rw [show F + (pt_sz (pn_tr gs t g0) + pn_os gs t r) = F + pt_sz (pn_tr gs t g0) + pn_os gs t r by omega, show a + (pt_sz (pn_tr gs t g0) + pn_os gs t r) = a + pt_sz (pn_tr gs t g0) + pn_os gs t r by omega, q]
        exact pe_range E hw1 a _ (by omega) (fun i p q => by rw [a3 _ (by omega)]; exact k1 i p q) F
      · rw [if_neg c]
        exact fun i p q => by rw [a3 _ (by omega)]; exact k1 i p q
/-- what is copied from -/
def px_Sr (o : Nat) (gs : ps_G) (t : pt_T) (si nd : Nat) (ins os : List Nat) (w : fa_W) : Prop := px_pz o nd w ∧ (w (o + 11) 1 = ((100 : Nat) : Int) ∧ w (o + 13) 1 = ((74 : Nat) : Int) ∧ w (o + 17) 1 = (gs.length : Int) ∧ w (o + 19) 1 = ((24 : Nat) : Int)) ∧ (w o 13 = (gs.length : Int) ∧ w o 15 = (si : Int)) ∧ (∀ (i x v : Nat) (t' : pt_T), gs[i]? = some (x, v, t') → w (o + 18) i = (x : Int) ∧ w (o + 14) i = (v : Int)) ∧ os.Nodup ∧ (∀ g, g ∈ os ↔ g ≤ gs.length) ∧ pn_os gs t os = nd ∧ px_L o ins gs t os 0 w ∧ (∀ x ∈ ins, 24 ≤ x ∧ x < 74) ∧ ins.Nodup
theorem px_Sr_ob {o : Nat} {gs : ps_G} {t : pt_T} {si nd : Nat} {ins os : List Nat} {w w' : fa_W} (tw : ∀ g, pt_tw (pn_tr gs t g)) (e : px_vo o w w') (h : px_Sr o gs t si nd ins os w) : px_Sr o gs t si nd ins os w' := by
  obtain ⟨h1, ⟨h2, h3, h4, h5⟩, ⟨h6, h7⟩, h8, h9, h10, h11, h12, h13, h14⟩ := h
  refine ⟨px_pz_ob h1 e, ⟨(e _ _ (by omega) (by omega)).trans h2, (e _ _ (by omega) (by omega)).trans h3, (e _ _ (by omega) (by omega)).trans h4, (e _ _ (by omega) (by omega)).trans h5⟩, ⟨(e _ _ (by omega) (by omega)).trans h6, (e _ _ (by omega) (by omega)).trans h7⟩, fun i x v t' q => ?_, h9, h10, h11, px_L_ob e (fun g _ => tw g) os 0 (fun g hg => (h10 g).mp hg) h12, h13, h14⟩
  obtain ⟨a, b⟩ := h8 i x v t' q
  exact ⟨(e _ _ (by omega) (by omega)).trans a, (e _ _ (by omega) (by omega)).trans b⟩
theorem pe_l26 {o oP nd si : Nat} {M CL : Nat → Bool} {cd : Int} {gs : ps_G} {t : pt_T} {ins os : List Nat} {w0 : fa_W} {FU : Nat} (hFU : FU = fa_FU) (E : pe_EM o oP nd CL cd w0) (hG6 : gs.length ≤ 6) (hS : px_Sr oP gs t si nd ins os w0) (h21 : w0 (o + 21) 1 = ((24 : Nat) : Int)) (h22 : ∀ f, f < 24 → w0 (o + 22) f = if M f = true then ((pc_rk M f : Nat) : Int) else -1) : ∀ (d k F : Nat) (w : fa_W), gs.length = k + d → d < F → pe_f2 o w0 w → (∀ g, g < k → M g = true → CL g = true → ∀ j : Nat, (j : Int) = pe_rt oP gs.length w0 g → w (o + 24) j = 0) → (∀ j : Nat, (j : Int) = w0 oP 16 → w (o + 24) j = 0) → (∀ j, j < nd → (j : Int) ≠ w0 oP 16 → (∀ g, g < k → M g = true → CL g = true → (j : Int) ≠ pe_rt oP gs.length w0 g) → w (o + 24) j = -1) → ∃ w', fm_Program_markThings_l26 o oP cd F (k : Int) w = fm_Program_markThings_l83 o oP cd FU ((nd : Int) - 1) w' ∧ pe_f2 o w0 w' ∧ (∀ g, g < gs.length → M g = true → CL g = true → ∀ j : Nat, (j : Int) = pe_rt oP gs.length w0 g → w' (o + 24) j = 0) ∧ (∀ j : Nat, (j : Int) = w0 oP 16 → w' (o + 24) j = 0) ∧ ∀ j, j < nd → (j : Int) ≠ w0 oP 16 → (∀ g, g < gs.length → M g = true → CL g = true → (j : Int) ≠ pe_rt oP gs.length w0 g) → w' (o + 24) j = -1 := by
  obtain ⟨⟨he, ho, hp, hd⟩, hk, hz, h23⟩ := id E
  obtain ⟨r11, s11, m11⟩ := px_po_r11 ho
  obtain ⟨r10, s10, m10⟩ := px_po_r10 ho
  obtain ⟨r9, s9, m9⟩ := px_po_r9 hp
  obtain ⟨r0, s0, m0⟩ := px_po_r0 hp
  have h100 := hz.2.2.2.2.2
  intro d
  induction d with
  | zero =>
    intro k F w hk' hF hw h1 h2 h3
    obtain ⟨F, rfl⟩ : ∃ G, F = G + 1 := ⟨F - 1, by omega⟩
    have ek : k = gs.length := by omega
    rw [ek] at h1 h3
    refine ⟨w, ?_, hw, h1, h2, h3⟩
    unfold fm_Program_markThings_l26 fm_Program_things fm_Row_size
    rw [hw oP 13 (by omega), hS.2.2.1.1, pb_wr (by omega), pb_wr (by omega), if_pos (by omega), r0, hw _ _ (by omega), hz.1, pf_let_eq, ← hFU]
  | succ d ih =>
    intro k F w hk' hF hw h1 h2 h3
    obtain ⟨F, rfl⟩ : ∃ G, F = G + 1 := ⟨F - 1, by omega⟩
    have nx : ((k : Nat) : Int) + 1 = ((k + 1 : Nat) : Int) := by omega
    have e22 : fr_at (o + 21) (k : Int) w = if M k = true then ((pc_rk M k : Nat) : Int) else -1 := by
      rw [pb_at ((hw _ _ (by omega)).trans h21) (by omega) (by rw [m10]; exact Nat.le_refl _), s10, show o + 21 + 1 = o + 22 by omega, hw _ _ (by omega), h22 k (by omega)]
    have skip : ¬ (M k = true ∧ CL k = true) → (∃ w', fm_Program_markThings_l26 o oP cd F ((k + 1 : Nat) : Int) w = fm_Program_markThings_l83 o oP cd FU ((nd : Int) - 1) w' ∧ pe_f2 o w0 w' ∧ (∀ g, g < gs.length → M g = true → CL g = true → ∀ j : Nat, (j : Int) = pe_rt oP gs.length w0 g → w' (o + 24) j = 0) ∧ (∀ j : Nat, (j : Int) = w0 oP 16 → w' (o + 24) j = 0) ∧ ∀ j, j < nd → (j : Int) ≠ w0 oP 16 → (∀ g, g < gs.length → M g = true → CL g = true → (j : Int) ≠ pe_rt oP gs.length w0 g) → w' (o + 24) j = -1) := fun no => ih (k + 1) F w (by omega) (by omega) hw (fun g hg a b => h1 g (by
        have : g ≠ k := fun e => no ⟨e ▸ a, e ▸ b⟩
        omega) a b) h2 (fun j hj ne hn => h3 j hj ne (fun g hg a b => hn g (by omega) a b))
    unfold fm_Program_markThings_l26
    rw [hw oP 13 (by omega), hS.2.2.1.1, pb_wr (by omega), pb_wr (by omega), if_neg (by omega), r10, e22]
    by_cases c1 : M k = true
    · have lr := pc_rk_le M k
      rw [if_pos c1, pb_wr (by omega), if_neg (by omega), hk k w (by omega)]
      by_cases c2 : CL k = true
      · have rt := pe_rt_in os 0 hS.2.2.2.2.2.2.2.1 k ((hS.2.2.2.2.2.1 k).mpr (by omega))
        rw [hS.2.2.2.2.2.2.1] at rt
        have ert : pe_rt oP gs.length w0 k = w0 (oP + 20) k := if_pos (by omega)
        obtain ⟨j0, ej⟩ : ∃ j0 : Nat, w0 (oP + 20) k = (j0 : Int) := ⟨(w0 (oP + 20) k).toNat, by rw [ert] at rt; omega⟩
        have jl : j0 < nd := by rw [ert, ej] at rt; omega
        have e9 : fr_at (oP + 19) (k : Int) w = (j0 : Int) := by
          rw [pb_at ((hw _ _ (by omega)).trans hS.2.1.2.2.2) (by omega) (by rw [m9]; exact Nat.le_refl _), s9, show oP + 19 + 1 = oP + 20 by omega, hw _ _ (by omega), ej]
        rw [if_pos c2, r9, e9, r11, pb_set ((hw _ _ (by omega)).trans h23) jl (by rw [m11]; exact h100), s11, show o + 23 + 1 = o + 24 by omega, pf_let_eq, pf_let_eq, nx]
        refine ih (k + 1) F _ (by omega) (by omega) (fun i j p => (fa_st_ne (fun z => p z.1)).trans (hw i j p)) (fun g hg a b j hj => ?_) (fun j hj => ?_) (fun j hj ne hn => ?_)
        · by_cases e : j = j0
          · rw [e, fa_st_eq]
          · rw [fa_st_ne (by omega)]
            refine h1 g ?_ a b j hj
            have : g ≠ k := fun eg => e (by rw [eg, ert, ej] at hj; omega)
            omega
        · by_cases e : j = j0
          · rw [e, fa_st_eq]
          · rw [fa_st_ne (by omega)]; exact h2 j hj
        · have := hn k (by omega) c1 c2
          rw [ert, ej] at this
          rw [fa_st_ne (by omega)]
          exact h3 j hj ne (fun g hg a b => hn g (by omega) a b)
      · rw [if_neg c2, pf_let_eq, nx]
        exact skip (fun q => c2 q.2)
    · rw [if_neg c1, pb_wr1, if_pos rfl, pf_let_eq, nx]
      exact skip (fun q => c1 q.1)
theorem pe_marks {o oP nd nf nv ns si : Nat} {M CL : Nat → Bool} {cd : Int} {gs : ps_G} {t : pt_T} {ins os : List Nat} {w0 : fa_W} (hs : pe_sep o oP) (hk : pe_kp CL cd) (hG6 : gs.length ≤ 6) (h24 : nf ≤ 24) (tw : ∀ g, pt_tw (pn_tr gs t g)) (W : ∀ g, g ≤ gs.length → pf_W nf nv ns (pn_tr gs t g)) (hS : px_Sr oP gs t si nd ins os w0) (h21 : w0 (o + 21) 1 = ((24 : Nat) : Int)) (h22 : ∀ f, f < 24 → w0 (o + 22) f = if M f = true then ((pc_rk M f : Nat) : Int) else -1) : ∃ w', fm_Program_markThings o oP cd w0 = some w' ∧ (∀ i j, i ≠ o + 23 → i ≠ o + 24 → w' i j = w0 i j) ∧ w' (o + 23) 1 = (nd : Int) ∧ pe_L1 CL (pe_VI gs.length M CL) gs t (w' (o + 24)) os 0 := by
  obtain ⟨FU, hFU⟩ : ∃ F, F = fa_FU := ⟨_, rfl⟩
  have hF2 : 1000 < FU := by rw [hFU]; unfold fa_FU; omega
  obtain ⟨he, ho, hp, hd⟩ := id hs
  obtain ⟨r11, s11, m11⟩ := px_po_r11 ho
  obtain ⟨r0, s0, m0⟩ := px_po_r0 hp
  have hz := hS.1
  have h100 := hz.2.2.2.2.2
  have mem := hS.2.2.2.2.2.1
  have osn := hS.2.2.2.2.2.2.1
  unfold fm_Program_markThings fm_Program_things fm_Row_size
  rw [r0, hz.1, r11, pf_let_eq, ← hFU]
  have q := pb_refill (r := o + 23) (m := nd) (v := -1) (by omega) (by rw [m11]; exact h100) w0
  generalize fr_refill (o + 23) (nd : Int) (-1) w0 = w3 at q
  obtain ⟨q1, q2, q3⟩ := q
  rw [s11, show o + 23 + 1 = o + 24 by omega] at q2 q3
  have f3 : ∀ i j, i ≠ o + 23 → i ≠ o + 24 → w3 i j = w0 i j := fun i j a b => by rw [q3 i a b]
  have S3 : px_Sr oP gs t si nd ins os w3 := px_Sr_ob tw (fun i j p q => f3 i j (by omega) (by omega)) hS
  have E : pe_EM o oP nd CL cd w3 := ⟨hs, hk, S3.1, q1⟩
  have rtm := pe_rt_in os 0 S3.2.2.2.2.2.2.2.1 gs.length ((mem _).mpr (Nat.le_refl _))
  rw [osn] at rtm
  have ert : pe_rt oP gs.length w3 gs.length = w3 oP 16 := if_neg (by omega)
  rw [ert] at rtm
  obtain ⟨j0, ej⟩ : ∃ j0 : Nat, w3 oP 16 = (j0 : Int) := ⟨(w3 oP 16).toNat, by omega⟩
  rw [ej, pb_set q1 (by omega) (by rw [m11]; exact h100), s11, show o + 23 + 1 = o + 24 by omega, pf_let_eq]
  have z0 : ((0 : Nat) : Int) = 0 := rfl
  obtain ⟨w5, a1, a2, a3, a4, a5⟩ := pe_l26 (M := M) (w0 := w3) hFU E hG6 S3 ((f3 _ _ (by omega) (by omega)).trans h21) (fun f hf => (f3 _ _ (by omega) (by omega)).trans (h22 f hf)) gs.length 0 FU (fa_st w3 (o + 24) j0 0) (by omega) (by omega) (fun i j p => fa_st_ne (fun z => p z.1)) (fun g hg => by omega) (fun j hj => by
    rw [ej] at hj
    rw [show j = j0 by omega, fa_st_eq]) (fun j hj ne _ => by
    rw [ej] at ne
    rw [fa_st_ne (by omega)]; exact q2 j hj)
  rw [z0] at a1
  rw [a1]
  have l0 : pe_L0 (pe_VI gs.length M CL) gs t (w5 (o + 24)) os 0 := by
    refine pe_L0_of os 0 S3.2.2.2.2.2.2.2.1 (fun g hg hv j hj => ?_) (fun j p q hn => ?_)
    · by_cases c : g < gs.length
      · unfold pe_VI at hv
        rw [if_pos c, Bool.and_eq_true] at hv
        exact a3 g c hv.1 hv.2 j hj
      · refine a4 j ?_
        have : pe_rt oP gs.length w3 g = w3 oP 16 := if_neg c
        rw [← this]; exact hj
    · rw [osn] at q
      refine a5 j (by omega) (fun e => ?_) (fun g hg a b e => ?_)
      · refine hn gs.length ((mem _).mpr (Nat.le_refl _)) ?_ ?_
        · unfold pe_VI; rw [if_neg (by omega)]
        · rw [ert]; exact e
      · refine hn g ((mem _).mpr (by omega)) ?_ e
        unfold pe_VI
        rw [if_pos hg, a, b]; rfl
  obtain ⟨w6, b1, b2, b3, b4⟩ := pe_mark_L (M := M) (nf := nf) (nv := nv) (ns := ns) h24 E tw W os 0 w5 (fun g hg => (mem g).mp hg) S3.2.2.2.2.2.2.2.1 (by omega) a2 l0
  obtain ⟨z, hz4⟩ := pb_fu (n := nd + 1) (by omega)
  have bb := b1 (z + 1)
  rw [osn, Nat.zero_add, show z + 1 + nd = z + (nd + 1) by omega, ← hz4, ← hFU] at bb
  refine ⟨w6, ?_, fun i j p q => ?_, ?_, b4⟩
  · rw [bb]
    show (if fa_wr (((0 : Nat) : Int) - 1) < 0 then _ else _) = _
    rw [if_pos (by decide)]
  · exact (b2 i j q).trans ((a2 i j q).trans (f3 i j p q))
  · exact (b2 _ _ (by omega)).trans ((a2 _ _ (by omega)).trans q1)
