/-! copying: the end -/
def pe_fh (o n0 R : Nat) (w w' : fa_W) : Prop := ∀ x y, x ≠ o → x ≠ o + 17 → x ≠ o + 18 → ¬ (x = o + 20 ∧ y < R) → ¬ ((x = o + 1 ∨ x = o + 3 ∨ x = o + 5 ∨ x = o + 7 ∨ x = o + 9) ∧ y = 1) → ¬ ((x = o + 2 ∨ x = o + 4 ∨ x = o + 6 ∨ x = o + 8) ∧ n0 ≤ y) → ¬ (x = o + 10 ∧ 3 * n0 ≤ y) → w' x y = w x y
theorem pe_N_fh {o n0 R i K V st : Nat} {h a b c : Int} {w w' : fa_W} (f : pe_fh o n0 R w w') (hi : i < n0) (N : px_N o w i K V h st a b c) : px_N o w' i K V h st a b c := by
  obtain ⟨n1, n2, n3, n4, n5, n6, n7⟩ := N
  exact ⟨(f _ _ (by omega) (by omega) (by omega) (by omega) (by omega) (by omega) (by omega)).trans n1, (f _ _ (by omega) (by omega) (by omega) (by omega) (by omega) (by omega) (by omega)).trans n2, (f _ _ (by omega) (by omega) (by omega) (by omega) (by omega) (by omega) (by omega)).trans n3, (f _ _ (by omega) (by omega) (by omega) (by omega) (by omega) (by omega) (by omega)).trans n4, (f _ _ (by omega) (by omega) (by omega) (by omega) (by omega) (by omega) (by omega)).trans n5, (f _ _ (by omega) (by omega) (by omega) (by omega) (by omega) (by omega) (by omega)).trans n6, (f _ _ (by omega) (by omega) (by omega) (by omega) (by omega) (by omega) (by omega)).trans n7⟩
theorem pe_NR_fh {o oP i n0 R : Nat} {M SV CL : Nat → Bool} {w0 w w' : fa_W} {c : Nat → Nat} (hc : c i + (if pe_lose oP CL w0 i = true then 2 else 1) ≤ n0) (h5 : ∀ (V st : Nat) (h p0 p1 p2 : Int), px_N oP w0 i 5 V h st p0 p1 p2 → R ≤ pc_rk M V) (f : pe_fh o n0 R w w') (H : pe_NR o oP M SV CL w0 c w i) : pe_NR o oP M SV CL w0 c w' i := by
  intro K V st h p0 p1 p2 N
  obtain ⟨a, b, c9, c7, c5⟩ := H K V st h p0 p1 p2 N
  refine ⟨fun l => ?_, fun l => ?_, fun k => ?_, fun k => ?_, fun k => ?_⟩
  · rw [if_pos l] at hc
    exact ⟨pe_N_fh f (by omega) (a l).1, pe_N_fh f (by omega) (a l).2⟩
  · rw [if_neg (by rw [l]; decide)] at hc
    exact pe_N_fh f (by omega) (b l)
  · exact (f _ _ (by omega) (by omega) (by omega) (by omega) (by omega) (by omega) (by omega)).trans (c9 k)
  · exact (f _ _ (by omega) (by omega) (by omega) (by omega) (by omega) (by omega) (by omega)).trans (c7 k)
  · have r := h5 V st h p0 p1 p2 (k ▸ N)
    exact ⟨(f _ _ (by omega) (by omega) (by omega) (by omega) (by omega) (by omega) (by omega)).trans (c5 k).1, (f _ _ (by omega) (by omega) (by omega) (by omega) (by omega) (by omega) (by omega)).trans (c5 k).2⟩
theorem pe_visL {o oP nd nf nv si B : Nat} {M CL SV LV VI : Nat → Bool} {ins : List Nat} {gs gs' : ps_G} {t t' : pt_T} {w0 W : fa_W} {mk : Nat → Int} (h24 : nf ≤ 24) (hx : ∀ v, px_xi ins v < 74) (hge : ∀ i, i < ins.length → 24 ≤ ins.getD i 0) (G6 : gs.length ≤ 6) (its : ∀ g, g ≤ gs.length → pe_it B si ins.length nf nv gs.length M CL SV LV VI g (pn_tr gs t g)) (hVM : ∀ g, g < gs.length → VI g = true → M g = true) (hW : pe_WF o oP gs.length M CL SV w0 mk (pe_c (pe_e oP CL w0 mk)) nd W) (hlen : gs'.length = pc_rk M gs.length) (htr : ∀ g, g ≤ gs.length → VI g = true → ∃ n, pn_tr gs' t' (pc_rk M g) = pc_t CL (pc_ρ M LV) (pc_rk SV) (pn_tr gs t g) n) (hrt : ∀ g, g ≤ gs.length → VI g = true → ∀ j : Nat, pe_rt oP gs.length w0 g = (j : Int) → j < nd → mk j = 0 → (if g < gs.length then W (o + 20) (pc_rk M g) else W o 16) = ((pe_c (pe_e oP CL w0 mk) (j + 1) - 1 : Nat) : Int)) : ∀ (r : List Nat) (a : Nat), (∀ g ∈ r, g ≤ gs.length) → px_L oP ins gs t r a w0 → pe_L1 CL VI gs t mk r a → a + pn_os gs t r ≤ nd → px_L o (pc_gl LV ins 0) gs' t' (pe_ol VI M r) (pe_c (pe_e oP CL w0 mk) a) W ∧ pn_os gs' t' (pe_ol VI M r) = pe_sm (pe_vs CL VI gs t) r := by
  intro r
  induction r with
  | nil => intro a _ _ _ _; exact ⟨trivial, rfl⟩
  | cons g r ih =>
    intro a hr H L hle
    have hg := hr g (List.mem_cons_self ..)
    have Q := (pe_sumL h24 hx hge G6 its hVM [g] a (fun x hx => by rw [List.mem_singleton] at hx; rw [hx]; exact hg) ⟨H.1, H.2.1, trivial⟩ ⟨L.1, trivial⟩).1
    obtain ⟨x1, x2, x3⟩ := H
    obtain ⟨y1, y2⟩ := L
    have e1 : pn_os gs t [g] = pt_sz (pn_tr gs t g) := rfl
    have e2 : pn_os gs t (g :: r) = pt_sz (pn_tr gs t g) + pn_os gs t r := rfl
    have e3 : pe_sm (pe_vs CL VI gs t) [g] = pe_vs CL VI gs t g := rfl
    have e4 : pe_sm (pe_vs CL VI gs t) (g :: r) = pe_vs CL VI gs t g + pe_sm (pe_vs CL VI gs t) r := rfl
    rw [e1, e3] at Q
    rw [e2] at hle
    rw [e4]
    obtain ⟨i1, i2⟩ := ih (a + pt_sz (pn_tr gs t g)) (fun x hx => hr x (List.mem_cons_of_mem _ hx)) x3 y2 (by omega)
    rw [Q] at i1
    unfold pe_ol
    by_cases c : VI g = true
    · rw [if_pos c] at y1 ⊢
      obtain ⟨tw, k, k', gl, sc, z1, z2, z3, z4, z5, z6, z7, z8⟩ := its g hg
      rw [c] at z8
      obtain ⟨n, en⟩ := htr g hg c
      have ev : pe_vs CL VI gs t g = pc_sz CL (pn_tr gs t g) := if_pos c
      have es : pt_sz (pn_tr gs' t' (pc_rk M g)) = pe_vs CL VI gs t g := by rw [en, ev]; exact (pc_t_tw _ tw n).2
      have pp := pt_sz_pos (pn_tr gs t g)
      have mr := pe_mk_root _ tw a y1
      have rt := hrt g hg c (a + pt_sz (pn_tr gs t g) - 1) x2 (by omega) mr
      rw [show a + pt_sz (pn_tr gs t g) - 1 + 1 = a + pt_sz (pn_tr gs t g) by omega, Q] at rt
      have hX : pe_Xh M (pn_ow gs.length g) := by
        unfold pn_ow
        by_cases e : g < gs.length
        · rw [if_pos e]; exact Or.inr ⟨g, rfl, by omega, hVM g e c⟩
        · rw [if_neg e]; exact Or.inl rfl
      have P := pe_conv h24 hx hge hW _ tw gl sc (pn_ow gs.length g) a n k k' x1 (by omega) z1 z2 z7 z5 z4 (fun b hb => by
        have q := z6 b hb
        exact ⟨⟨fun _ => by rw [q.1]; exact hVM g q.2 c, by omega⟩, fun _ => by omega⟩) z8 y1 hX
      have hlt : pc_rk M g < gs'.length ↔ g < gs.length := by
        rw [hlen]
        constructor
        · intro q
          by_cases e : g < gs.length
          · exact e
          · rw [show g = gs.length by omega] at q; omega
        · intro q; exact pc_rk_lt (hVM g q c) q
      have ow : pn_ow gs'.length (pc_rk M g) = pe_hh M (pn_ow gs.length g) := by
        unfold pn_ow
        by_cases e : g < gs.length
        · rw [if_pos e, if_pos (hlt.mpr e)]; exact (pe_hf g).symm
        · rw [if_neg e, if_neg (fun q => e (hlt.mp q))]; rfl
      refine ⟨⟨?_, ?_, ?_⟩, ?_⟩
      · rw [en, ow]; exact P
      · rw [es]
        by_cases e : g < gs.length
        · rw [if_pos e] at rt
          rw [if_pos (hlt.mpr e)]; exact rt
        · rw [if_neg e] at rt
          rw [if_neg (fun q => e (hlt.mp q))]; exact rt
      · rw [es]; exact i1
      · show pt_sz (pn_tr gs' t' (pc_rk M g)) + pn_os gs' t' (pe_ol VI M r) = _
        rw [es, i2]
    · have ev : pe_vs CL VI gs t g = 0 := if_neg c
      rw [if_neg c]
      rw [ev, Nat.add_zero] at i1
      rw [ev, Nat.zero_add]
      exact ⟨i1, i2⟩
