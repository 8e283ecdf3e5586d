/-! THE FORM by the class -/
theorem pw_sa_len {l : List Nat} (h : l.length ≤ 24) (a : Nat) : (pw_sa l a).length ≤ 3 := by
  obtain ⟨_, _, _, t7, _, _, _, t21⟩ := pw_txm
  unfold pw_sa
  by_cases z : a = 0
  · rw [if_pos z]; omega
  · rw [if_neg z, List.length_append]
    have : (pf_fi (pw_lo a 24 0) l 0).toNat < 100 := by
      rcases pf_fi_cases (pw_lo a 24 0) l 0 with ⟨e, _⟩ | ⟨i, i1, i2, _⟩
      · rw [e]; decide
      · rw [i2]; omega
    have := pw_nu_2 this
    omega
/-- the EXPR of a FUNCTION, of MAIN, lies in the class -/
theorem px_expr_at {sc : Nat} {gs : ps_G} {t : pt_T} {la li si nd mk : Nat} {ins os : List Nat} {fb : Nat → pt_T} {sb : pf_sT} {w : fa_W} (hV : pn_V gs t la li si nd) (hG : pf_G gs t la li si fb sb) (hX : px_SC sc gs t la li si nd ins os fb sb mk w) : (∀ f, f < gs.length + la → ∃ c, c + pt_sz (fb f) ≤ nd ∧ w (sc + 1 + 20) f = ((c + pt_sz (fb f) - 1 : Nat) : Int) ∧ px_P (sc + 1) ins (fb f) (f : Int) c w) ∧ ∃ c, c + pt_sz t ≤ nd ∧ w (sc + 1) 16 = ((c + pt_sz t - 1 : Nat) : Int) ∧ px_P (sc + 1) ins t (-1) c w := by
  obtain ⟨z, tb, cal, rg, _, _, _, _, ⟨T1, T2, T3⟩, _⟩ := hX.2.2.1
  have key : ∀ (u : pt_T) (h : Int) (c : Nat), c + pt_sz u ≤ nd → pf_N tb u h c → pt_tw u → px_P (sc + 1) ins u h c w := fun u h c c1 c2 tu => by
    have p := pt_sz_pos u
    have e := pf_N_root u tu h c c2
    obtain ⟨_, _, _, q⟩ := T1 (c + pt_sz u - 1) (by omega)
    rw [e] at q
    exact q.1
  refine ⟨fun f hf => ?_, ?_⟩
  · obtain ⟨c, c1, c2, c3⟩ := T2 f hf
    exact ⟨c, c1, c2, key _ _ c c1 c3 (hG.2.1 f)⟩
  · obtain ⟨c, c1, c2, c3⟩ := T3
    exact ⟨c, c1, c2, key _ _ c c1 c3 hV.2.2.2.2.2.1⟩
theorem pw_wfs {gs : ps_G} {t : pt_T} {la li si nd : Nat} {fb : Nat → pt_T} {sb : pf_sT} (hV : pn_V gs t la li si nd) (hG : pf_G gs t la li si fb sb) {f : Nat} (hf : f < gs.length + la) : ∃ (gl : List Nat) (sc : List (Nat × Nat)), pk_wfs (fb f) gl sc ∧ gl.length ≤ gs.length := by
  by_cases z : f < gs.length
  · obtain ⟨v1, v2, v3, v4, v5, v6, v7, k1, v8, v9⟩ := id hV
    obtain ⟨K, K', it, _⟩ := pn_items gs [] _ _ _ v8 v6 v7 v9
    obtain ⟨b1, _, _, _, gl', sc', b5, b6, _, _⟩ := it f (by omega)
    rw [← hG.1 f z] at b5
    rw [List.length_nil] at b6
    exact ⟨gl', sc', b5, by omega⟩
  · have := (pw_fields hV hG (i := f - gs.length) (by omega)).2
    rw [show gs.length + (f - gs.length) = f by omega] at this
    exact this
noncomputable def pw_A (gs : ps_G) (t : pt_T) (fb : Nat → pt_T) (sb : pf_sT) (la si mk sp : Nat) (s : Nat) : List Nat := pw_sa (pg_g gs t (pf_A fb t sb (gs.length + la)) si (gs.length + la) mk sp) (pf_A fb t sb (gs.length + la) s)
def pw_D (fb : Nat → pt_T) (yv : Nat → Nat) (f : Nat) : List Nat := pw_fd yv f (pd_fl f (fb f))
noncomputable def pw_E (gs : ps_G) (t : pt_T) (fb : Nat → pt_T) (sb : pf_sT) (yv : Nat → Nat) (la si mk sp : Nat) (u : pt_T) : List Nat := pw_t true (pw_D fb yv) (pw_A gs t fb sb la si mk sp) (fun _ => true) u
noncomputable def pw_F (gs : ps_G) (t : pt_T) (fb : Nat → pt_T) (sb : pf_sT) (yv : Nat → Nat) (la si mk CL sp : Nat) : List Nat := pw_fo (pw_D fb yv) (fun f => pw_E gs t fb sb yv la si mk sp (fb f)) yv (gs.length + la) CL (pg_g gs t (pf_A fb t sb (gs.length + la)) si (gs.length + la) mk sp) (pw_E gs t fb sb yv la si mk sp t)
theorem pw_F_len {gs : ps_G} {t : pt_T} {la li si nd mk CL sp : Nat} {fb : Nat → pt_T} {sb : pf_sT} {yv : Nat → Nat} (hV : pn_V gs t la li si nd) (hG : pf_G gs t la li si fb sb) (hC : CL < 2 ^ (gs.length + la)) : (pw_F gs t fb sb yv la si mk CL sp).length ≤ 6990 := by
  have v1 := hV.1
  have v2 := hV.2.1
  have gl := pg_l_len mk (pg_mt (fun g => mk.testBit g = true) (pg_r gs t (pf_A fb t sb (gs.length + la)) si sp) (gs.length + la)) (gs.length + la)
  have dj := pg_D_of (pg_g_E gs t (pf_A fb t sb (gs.length + la)) si (gs.length + la) mk sp) (gs.length + la) (Nat.le_refl _)
  exact pw_fo_len (A := pw_A gs t fb sb la si mk sp) hV hG (fun s => pw_sa_len (Nat.le_trans gl (by omega)) _) hC dj gl
/-- what holds while the class writes a form -/
theorem px_wP_SC {sc sp : Nat} {gs : ps_G} {t : pt_T} {la li si nd mk : Nat} {ins os : List Nat} {fb : Nat → pt_T} {sb : pf_sT} {yv : Nat → Nat} {w0 wm : fa_W} (hsc : px_sK sc) (hV : pn_V gs t la li si nd) (hG : pf_G gs t la li si fb sb) (hW : pm_Pw gs t la li si nd wm) (hX : px_SC sc gs t la li si nd ins os fb sb mk w0) (hy : ∀ f, f < gs.length + la → (∀ v ∈ pd_fl f (fb f), pd_yq gs t v (yv v)) ∧ pd_yq gs t f (yv f)) (hsp : sp < 3) (h37 : w0 37 4 = (sp : Int)) : px_wP sc (sc + 1) nd (gs.length + la) si gs.length ins true (pw_D fb yv) (pw_A gs t fb sb la si mk sp) w0 := by
  have sc54 : 54 < sc := by rcases hsc with h | h <;> omega
  obtain ⟨a1, a2, a3, a4, a5, a6, a7, a8, a9⟩ := px_sK_all hsc
  obtain ⟨⟨z1, z2, z3, z4, z5, z6, z7, z8, z9, z10⟩, _, _, _, _, _, _, h8, _⟩ := id hX.1
  have fo : ∀ {w : fa_W}, pw_fw w0 w → px_SC sc gs t la li si nd ins os fb sb mk w := fun {w} e => px_SC_ob hV (fun i j q1 q2 => e i j (by omega) (by omega) (by omega) (by omega) (by omega) (by omega)) hX
  refine ⟨a6, a1, by omega, ⟨z1, z2, z3, z4, z5, hV.2.2.1⟩, px_xi_lt h8, z7, ⟨hV.1, z9⟩, by rw [if_pos rfl]; exact ⟨sp, hsp, h37⟩, fun _ => ⟨fun f hf l w e hR hl => ?_, fun s i hs hi l w e hR hl => ?_⟩⟩
  · exact px_putData hsc hV hG (fo e) hf (hy f hf).1 hR hl
  · exact px_putSite0 hsc hV hG hW (fo e) hs (by rw [e _ _ (by omega) (by omega) (by omega) (by omega) (by omega) (by omega)]; exact hi) hsp (by rw [e _ _ (by omega) (by omega) (by omega) (by omega) (by omega) (by omega)]; exact h37) hR hl
