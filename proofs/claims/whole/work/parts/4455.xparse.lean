/-- the EXPRS lie in nine arrays alone -/
def px_ob (o : Nat) (w w' : fa_W) : Prop := ∀ i j, o + 2 ≤ i → i ≤ o + 20 → w' i j = w i j
theorem px_N_ob {o : Nat} {w w' : fa_W} (h : px_ob o w w') {t K v st : Nat} {hh a b c : Int} (N : px_N o w t K v hh st a b c) : px_N o w' t K v hh st a b c := by
  obtain ⟨n1, n2, n3, n4, n5, n6, n7⟩ := N
  exact ⟨by rw [h _ _ (by omega) (by omega)]; exact n1, by rw [h _ _ (by omega) (by omega)]; exact n2, by rw [h _ _ (by omega) (by omega)]; exact n3, by rw [h _ _ (by omega) (by omega)]; exact n4, by rw [h _ _ (by omega) (by omega)]; exact n5, by rw [h _ _ (by omega) (by omega)]; exact n6, by rw [h _ _ (by omega) (by omega)]; exact n7⟩
theorem px_H_ob {o : Nat} {ins : List Nat} {w w' : fa_W} (hf : px_ob o w w') (t : pt_T) (ht : pt_tw t) : ∀ (h : Int) (a : Nat), px_H o ins t h a w → px_H o ins t h a w' := by
  induction t, ht using pt_indh with
  | num v => intro h a H; exact px_N_ob hf H
  | var v x => intro h a H; exact ⟨px_N_ob hf H.1, by rw [hf _ _ (by omega) (by omega)]; exact H.2⟩
  | glo g x => intro h a H; exact ⟨px_N_ob hf H.1, by rw [hf _ _ (by omega) (by omega)]; exact H.2⟩
  | dead d => intro h a H; exact ⟨px_N_ob hf H.1, H.2⟩
  | lam f x b tb ih =>
    intro h a H
    obtain ⟨H1, H2, H3, H4, H5⟩ := H
    exact ⟨ih _ _ H1, px_N_ob hf H2, by rw [hf _ _ (by omega) (by omega)]; exact H3, by rw [hf _ _ (by omega) (by omega)]; exact H4, by rw [hf _ _ (by omega) (by omega)]; exact H5⟩
  | ife ta tb tc wa wb wc iha ihb ihc =>
    intro h a H
    obtain ⟨H1, H2, H3, H4⟩ := H
    exact ⟨iha _ _ H1, ihb _ _ H2, ihc _ _ H3, px_N_ob hf H4⟩
  | lt v x ta tb wa wb iha ihb =>
    intro h a H
    obtain ⟨H1, H2, H3, H4, H5⟩ := H
    exact ⟨iha _ _ H1, ihb _ _ H2, px_N_ob hf H3, by rw [hf _ _ (by omega) (by omega)]; exact H4, by rw [hf _ _ (by omega) (by omega)]; exact H5⟩
  | op s ta tb wa wb iha ihb =>
    intro h a H
    obtain ⟨H1, H2, H3⟩ := H
    exact ⟨iha _ _ H1, ihb _ _ H2, px_N_ob hf H3⟩
  | site s ta tb wa wb iha ihb =>
    intro h a H
    obtain ⟨H1, H2, H3, H4⟩ := H
    exact ⟨iha _ _ H1, ihb _ _ H2, px_N_ob hf H3, by rw [hf _ _ (by omega) (by omega)]; exact H4⟩
theorem px_GH_ob {o : Nat} {ins : List Nat} {w w' : fa_W} (hf : px_ob o w w') : ∀ (gs : ps_G) (gl : List Nat) (k k' : pk_K) (g a : Nat), pk_GW gs gl k k' → px_GH o ins gs g a w → px_GH o ins gs g a w' := by
  intro gs
  induction gs with
  | nil => intro gl k k' g a _ _; trivial
  | cons e r ih =>
    intro gl k k' g a h H
    obtain ⟨x, v, t⟩ := e
    obtain ⟨_, _, _, tt, _, k3, _, h7⟩ := h
    obtain ⟨c1, c2, c3, c6, c7⟩ := H
    exact ⟨by rw [hf _ _ (by omega) (by omega)]; exact c1, by rw [hf _ _ (by omega) (by omega)]; exact c2, by rw [hf _ _ (by omega) (by omega)]; exact c3, px_H_ob hf t tt _ _ c6, ih _ _ _ _ _ h7 c7⟩
/-! the class's whole text -/
def px_RQ (c : Nat → Int) (n : Nat) (w : fa_W) : ps_Q → Int × fa_W → Prop
  | none, _ => False
  | some (.error z), q => q.1 = (z : Int) ∧ z ≤ 400 ∧ px_fo w q.2
  | some (.ok (gs, t, s)), q => q.1 = -1 ∧ px_fo w q.2 ∧ gs.length ≤ 6 ∧ ps_SI n (pk_gn gs, [], -1, 0) s ∧ s.2.1 = s.2.2.2.2.2.2 ∧ (∃ k1, pk_GW gs [] (0, 0, 0, 0) k1 ∧ pt_tw t ∧ pk_wfs t (pk_gn gs) [] ∧ pk_can t k1 (ps_Kof s) ∧ px_GH 8 s.2.2.2.1 gs 0 0 q.2 ∧ px_H 8 s.2.2.2.1 t (-1) k1.2.2.2 q.2) ∧ px_S c n (pk_gn gs, [], -1, 0) s q.2 ∧ q.2 8 16 = ((s.2.2.2.2.2.2 - 1 : Nat) : Int)
theorem px_RQ_fo {c : Nat → Int} {n : Nat} {w w1 : fa_W} (h : px_fo w w1) {r : ps_Q} {q : Int × fa_W} (g : px_RQ c n w1 r q) : px_RQ c n w r q := by
  match r, g with
  | none, g => exact g
  | some (.error z), g => exact ⟨g.1, g.2.1, px_fo_tr h g.2.2⟩
  | some (.ok (gs, t, s)), g => exact ⟨g.1, px_fo_tr h g.2.1, g.2.2⟩
theorem px_j35_D {z : Nat} {w : fa_W} (h : px_D z w) : pb_ok (fm_Reader_parse_j35 w) (fun q => q.1 = (z : Int) ∧ z ≤ 400 ∧ px_fo w q.2) := by
  unfold fm_Reader_parse_j35
  refine pb_bdm (px_e_D h) (fun v w2 q => ?_)
  dsimp only [fa_let]
  have d : px_D z (fa_st w2 8 16 v) := px_D_of q.1 (fa_st_ne (by omega)) (fa_st_ne (by omega)) (fa_st_ne (by omega)) (fa_st_ne (by omega))
  have fo : px_fo w (fa_st w2 8 16 v) := px_fo_st q.2 (by decide)
  rw [d.2.1, fa_wr_id (x := 3) (by omega) (by omega), if_neg (by decide)]
  exact pb_some ⟨px_fail_1 d, d.2.2.2, px_fo_tr fo (px_fail_D d).2.1⟩
theorem px_j35_R {c : Nat → Int} {n : Nat} (hx : ps_TX c n) (hn : n ≤ 400) {gs : ps_G} {p th la lt si nd : Nat} {ins : List Nat} {w : fa_W} (hg : gs.length ≤ 6) (hs : ps_SI n (pk_gn gs, [], -1, 0) (p, th, la, ins, lt, si, nd)) (hth : th = nd) (hT : px_T c n gs (p, th, la, ins, lt, si, nd) w) : pb_ok (fm_Reader_parse_j35 w) (px_RQ c n w (ps_qb (ps_t c n false 899 0 (pk_gn gs, [], -1, 0) (p, th, la, ins, lt, si, nd)) fun t s1 => if ps_tk c n (ps_sk c n s1.1) = 0 then some (.ok (gs, t, s1)) else some (.error (ps_sk c n s1.1)))) := by
  obtain ⟨hS, hGH, hGW⟩ := hT
  have gl := pk_gn_len gs
  unfold fm_Reader_parse_j35
  refine pb_bdm (px_e_R hx hn hs (Nat.zero_le _) hS) (fun v w2 g => ?_)
  cases hq : ps_t c n false 899 0 (pk_gn gs, [], -1, 0) (p, th, la, ins, lt, si, nd) with
  | none => rw [hq] at g; exact g.elim
  | some rs =>
  rw [hq] at g
  cases rs with
  | error z =>
    dsimp only [fa_let]
    have d : px_D z (fa_st w2 8 16 v) := px_D_of g.1 (fa_st_ne (by omega)) (fa_st_ne (by omega)) (fa_st_ne (by omega)) (fa_st_ne (by omega))
    have fo : px_fo w (fa_st w2 8 16 v) := px_fo_st g.2 (by decide)
    rw [d.2.1, fa_wr_id (x := 3) (by omega) (by omega), if_neg (by decide)]
    exact pb_some ⟨px_fail_1 d, d.2.2.2, px_fo_tr fo (px_fail_D d).2.1⟩
  | ok y =>
    obtain ⟨t, s1⟩ := y
    have o1 := ps_t_po hx 899 0 _ _ _ _ (by omega) (by omega) (by omega) hs hq
    have j1 := ps_PO_SI hs o1
    obtain ⟨p1, th1, la1, ins1, lt1, si1, nd1⟩ := s1
    obtain ⟨b1, b2, b3, b4, b5, b6⟩ := ps_PO_x o1
    have hth1 : th1 = nd1 := by
      obtain ⟨c1, c2, c3, _⟩ := o1
      omega
    obtain ⟨x1, x2, x3, x4⟩ := g
    dsimp only at x1 x2 x3 x4
    obtain ⟨l, el, hl⟩ := ps_PO_inx o1
    obtain ⟨y1, y2, y3, y4, y5, y6, y7, y8, y9⟩ := ps_SI_z hs
    obtain ⟨y1', y2', y3', y4', y5', y6', y7', y8', y9'⟩ := ps_SI_z j1
    have GH2 : px_GH 8 ins1 gs 0 0 w2 := by
      rw [el]
      exact px_GH_fr (l := l) y1 y2 x4 gs [] (0, 0, 0, 0) _ (by simp; omega) (Nat.le_refl _) (Nat.le_refl _) (Nat.le_refl _) (Nat.le_refl _) hGW hGH
    dsimp only [fa_let]
    have nn : ∀ o k, ¬ (o = 8 ∧ k = 16) → fa_st w2 8 16 v o k = w2 o k := fun o k q => fa_st_ne q
    have m16 : fa_st w2 8 16 v 8 16 = ((nd1 - 1 : Nat) : Int) := by rw [fa_st_eq, x1]
    generalize fa_st w2 8 16 v = w3 at nn m16 ⊢
    have S3 := px_S_nn x2 (fun o k _ q => nn o k q)
    have fo3 : px_fo w w3 := fun o k q => (nn o k (by omega)).trans (x4.1 o k q)
    rw [S3.2.1.2.1, pb_wr ps_tk_lt]
    show pb_ok _ (px_RQ c n w (if ps_tk c n (ps_sk c n p1) = 0 then some (.ok (gs, t, p1, th1, la1, ins1, lt1, si1, nd1)) else some (.error (ps_sk c n p1))))
    by_cases k0 : ps_tk c n (ps_sk c n p1) = 0
    · rw [if_pos (by omega), if_pos k0]
      refine pb_some ⟨S3.2.2.1, fo3, hg, j1, hth1, ⟨_, hGW, b2, b3, b4, ?_, ?_⟩, S3, m16⟩
      · exact px_GH_ob (fun i j a b => nn i j (by omega)) gs [] _ _ 0 0 hGW GH2
      · exact px_H_ob (fun i j a b => nn i j (by omega)) t b2 _ _ x3
    · rw [if_neg (by omega), if_neg k0]
      have r3 := px_S_r2 S3 (by decide)
      have fl := px_fail_r r3 (ps_sk_p hx p1 b1).2.1
      exact pb_some ⟨fl.2.2, by have := (ps_sk_p hx p1 b1).2.1; omega, px_fo_tr fo3 fl.2.1⟩
/-- the loop over the GLOBALS -/
theorem px_l10 {c : Nat → Int} {n : Nat} (hx : ps_TX c n) (hn : n ≤ 400) : ∀ (f F : Nat) (gs : ps_G) (p th la : Nat) (ins : List Nat) (lt si nd : Nat) (w : fa_W), f + gs.length = 9 → f < F → gs.length ≤ 6 → ps_SI n (pk_gn gs, [], -1, 0) (p, th, la, ins, lt, si, nd) → th = nd → px_T c n gs (p, th, la, ins, lt, si, nd) w → pb_ok (fm_Reader_parse_l10 F (gs.length : Int) w) (px_RQ c n w (ps_all c n false f gs (p, th, la, ins, lt, si, nd))) := by
  intro f
  induction f with
  | zero => intro F gs p th la ins lt si nd w h9 hF hg; omega
  | succ f ih =>
    intro F gs p th la ins lt si nd w h9 hF hg hs hth hT
    obtain ⟨F, rfl⟩ : ∃ z, F = z + 1 := ⟨F - 1, by omega⟩
    have hF : f < F := by omega
    unfold fm_Reader_parse_l10
    rw [pb_wr (by omega), if_neg (by omega), hT.1.2.1.2.1, pb_wr ps_tk_lt]
    by_cases k1 : ps_tk c n (ps_sk c n p) = 6714734
    · rw [if_pos (by omega)]
      refine pb_bindm (px_global_R hx hn hg hs hth hT k1 f (fun w' => pb_ok (fm_Reader_parse_l10 F ((gs.length : Int) + 1) w') (px_RQ c n w (ps_all c n false (f + 1) gs (p, th, la, ins, lt, si, nd)))) (fun z w' d fo e => ?_) (fun gs' s' w' hl hl6 hs' hth' hT' fo e => ?_)) (fun w' q => q)
      · rw [e]
        obtain ⟨F', rfl⟩ : ∃ z, F = z + 1 := ⟨F - 1, by omega⟩
        unfold fm_Reader_parse_l10
        have fin := pb_mono (px_j35_D d) (fun q g => show px_RQ c n w (some (.error z)) q from ⟨g.1, g.2.1, px_fo_tr fo g.2.2⟩)
        rw [d.2.1, fa_wr_id (x := 3) (by omega) (by omega), if_neg (show ¬ ((3 : Int) = 6714734) by decide)]
        exact pb_if (fun _ => fin) (fun _ => fin)
      · rw [e]
        obtain ⟨p', th', la', ins', lt', si', nd'⟩ := s'
        have := ih F gs' p' th' la' ins' lt' si' nd' w' (by omega) hF hl6 hs' hth' hT'
        rw [hl] at this
        exact pb_mono this (fun q g => px_RQ_fo fo g)
    · rw [if_neg (by omega)]
      have e : ps_all c n false (f + 1) gs (p, th, la, ins, lt, si, nd) = ps_qb (ps_t c n false 899 0 (pk_gn gs, [], -1, 0) (p, th, la, ins, lt, si, nd)) fun t s1 => if ps_tk c n (ps_sk c n s1.1) = 0 then some (.ok (gs, t, s1)) else some (.error (ps_sk c n s1.1)) := by
        show (if ps_tk c n (ps_sk c n p) = 6714734 then _ else _) = _
        rw [if_neg k1]
        rfl
      rw [e]
      exact px_j35_R hx hn hg hs hth hT
/-- the class reads a text as it is told -/
theorem px_parse_R {c : Nat → Int} {n : Nat} {w : fa_W} (ht : px_tx c n w) : pb_ok (fm_Reader_parse w) (px_RQ c n w (ps_all c n false 9 [] ps_S0)) := by
  unfold fm_Reader_parse
  dsimp only [fa_let]
  refine pb_bindm (px_start ht) (fun w4 q => ?_)
  obtain ⟨q1, q2, q3, q4⟩ := q
  have hF : ∃ F, fa_FU = F ∧ 10 < F := ⟨_, rfl, by unfold fa_FU; omega⟩
  generalize fa_FU = FU at hF ⊢
  have hF2 : 10 < FU := by obtain ⟨_, rfl, h⟩ := hF; exact h
  have si : ps_SI n (pk_gn [], [], -1, 0) ps_S0 := by
    refine ⟨Nat.zero_le _, by decide, by decide, by decide, by decide, by decide, by decide, by decide, by decide, by decide, by decide, ?_, ?_, List.nodup_nil, by decide, ?_, by decide⟩
    · intro b hb; cases hb
    · intro b hb; cases hb
    · intro b hb; cases hb
  have z := px_l10 ht.1 ht.2.1 9 FU [] 0 0 0 [] 0 0 0 w4 rfl (by omega) (by decide) si rfl ⟨q1, trivial, rfl⟩
  unfold ps_S0
  generalize ps_all c n false 9 [] (0, 0, 0, [], 0, 0, 0) = X at z ⊢
  exact pb_mono z (fun q g => px_RQ_fo q2 g)
theorem ps_all_ne {c : Nat → Int} {n : Nat} {w : fa_W} (ht : px_tx c n w) : ps_all c n false 9 [] ps_S0 ≠ none := by
  intro e
  obtain ⟨q, _, h⟩ := px_parse_R ht
  rw [e] at h
  exact h
/-- what is read with the limit of depth is read without it -/
theorem ps_all_free {c : Nat → Int} {n : Nat} : ∀ (f : Nat) (gs : ps_G) (s : ps_S) (u : ps_G × pt_T × ps_S), ps_all c n false f gs s = some (.ok u) → ps_all c n true f gs s = some (.ok u) := by
  intro f
  induction f with
  | zero => intro gs s u h; cases h
  | succ f ih =>
    intro gs s u h
    unfold ps_all at h ⊢
    split
    · rename_i k1
      rw [if_pos k1] at h
      split
      · rename_i g6
        rw [if_pos g6] at h
        cases h
      · rename_i g6
        rw [if_neg g6] at h
        split
        · rename_i g7
          rw [if_pos g7] at h
          cases h
        · rename_i g7
          rw [if_neg g7] at h
          unfold ps_glo at h ⊢
          split
          · rename_i g8
            rw [if_pos g8] at h
            cases h
          · rename_i g8
            rw [if_neg g8] at h
            split
            · rename_i g9
              rw [if_pos g9] at h
              cases h
            · rename_i g9
              rw [if_neg g9] at h
              obtain ⟨t, s1, e1, e2⟩ := ps_qb_ok h
              rw [ps_t_free e1]
              dsimp only [ps_qb]
              split
              · rename_i g10
                rw [if_pos g10] at e2
                exact ih _ _ _ e2
              · rename_i g10
                rw [if_neg g10] at e2
                cases e2
    · rename_i k1
      rw [if_neg k1] at h
      obtain ⟨t, s1, e1, e2⟩ := ps_qb_ok h
      rw [ps_t_free e1]
      exact e2
