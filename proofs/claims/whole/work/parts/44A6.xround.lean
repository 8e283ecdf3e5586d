/-! a round of the class's COMES -/
def pf_lo (z : pf_s) (h : Int) : Prop := h = -1 ∨ ∃ f : Nat, h = (f : Int) ∧ pf_zL z f
def pf_Inv (nd : Nat) (ins : List Nat) (bo : Nat → Nat) (tb : pf_TB) (z : pf_s) : Prop := ∀ i, i < nd → ∀ f, pf_b z.1 i f → pf_ru z.1 (pf_Hx ins z) bo (tb i).2.1 (tb i).2.2 f ∧ pf_lo z (tb i).1
def pf_Cs (H R : Nat → Nat → Prop) (tb : pf_TB) (i f : Nat) : Prop := pf_k H R (tb i).2.1 f
def pf_Hs (H : Nat → Nat → Prop) (nv : Nat) (ins : List Nat) (x f : Nat) : Prop := ∃ v, v < nv ∧ px_xi ins v = x ∧ H v f
def pf_EX (ins : List Nat) (bo : Nat → Nat) (tb : pf_TB) (z : pf_s) (i : Nat) : Prop := (∀ f, pf_b z.1 i f ↔ pf_ru z.1 (pf_Hx ins z) bo (tb i).2.1 (tb i).2.2 f) ∧ (∀ g, pf_ro (tb i).2.1 g → pf_zM z g) ∧ pf_rc z.1 (pf_Hx ins z) (pf_zL z) (tb i).2.1 (tb i).2.2
theorem pf_ru_mono {C C' : Nat → Nat} {Hx Hx' : Nat → Nat → Prop} {bo : Nat → Nat} (h1 : ∀ i f, pf_b C i f → pf_b C' i f) (h2 : ∀ v f, Hx v f → Hx' v f) (u : pt_T) (tu : pt_tw u) : ∀ (a f : Nat), pf_ru C Hx bo u a f → pf_ru C' Hx' bo u a f := by
  induction u, tu using pt_indh with
  | num v => intro a f h; exact h
  | dead v => intro a f h; exact h
  | var v x => intro a f h; exact h2 v f h
  | glo g x => intro a f h; exact h
  | lam f0 x b wb ih => intro a f h; exact h
  | ife ta t2 tc wa wb wc iha ihb ihc => intro a f h; exact h.elim (fun h => Or.inl (h1 _ _ h)) (fun h => Or.inr (h1 _ _ h))
  | lt v x ta t2 wa wb iha ihb => intro a f h; exact h1 _ _ h
  | op s ta t2 wa wb iha ihb => intro a f h; exact h
  | site s ta t2 wa wb iha ihb => intro a f h; obtain ⟨g, p, q⟩ := h; exact ⟨g, h1 _ _ p, h1 _ _ q⟩
theorem pf_ru_sd {nf nv ns : Nat} {ins : List Nat} {bo : Nat → Nat} {tb : pf_TB} {fb : Nat → pt_T} {z : pf_s} {H R : Nat → Nat → Prop} {L M : Nat → Prop} (hn : ins.Nodup) (hi : ∀ x ∈ ins, 24 ≤ x ∧ x < 74) (hnv : nv = 24 + ins.length) (hfv : nf ≤ nv) (hsd : pf_sd z (pf_Cs H R tb) (pf_Hs H nv ins) L M) (hcl : ∀ f, L f → ∀ g, pf_k H R (fb f) g → R f g) (hbo : ∀ f, f < nf → (tb (bo f)).2.1 = fb f) (ok : pf_ok nf z) (u : pt_T) (tu : pt_tw u) : ∀ (h : Int) (a : Nat), pf_N tb u h a → pf_W nf nv ns u → pf_c H R L u → (∀ f, pf_ru z.1 (pf_Hx ins z) bo u a f → pf_k H R u f) ∧ pf_rc z.1 (fun v => pf_Hs H nv ins (px_xi ins v)) L u a := by
  have root : ∀ (t : pt_T) (tt : pt_tw t) (h : Int) (a : Nat), pf_N tb t h a → ∀ f, pf_b z.1 (a + pt_sz t - 1) f → pf_k H R t f := fun t tt h a hN f hf => by
    have := hsd.1 _ f hf
    unfold pf_Cs at this
    rw [pf_N_root t tt h a hN] at this
    exact this
  cases u, tu using pt_indh with
  | num v => intro h a hN hW hc; exact ⟨fun f x => x, trivial⟩
  | dead v => intro h a hN hW hc; exact ⟨fun f x => x, trivial⟩
  | glo g x => intro h a hN hW hc; exact ⟨fun f x => x, trivial⟩
  | lam f0 x b wb ih => intro h a hN hW hc; exact ⟨fun f x => x, trivial⟩
  | op s ta t2 wa wb iha ihb => intro h a hN hW hc; exact ⟨fun f x => False.elim x, trivial⟩
  | var v x =>
    intro h a hN hW hc
    refine ⟨fun f x => ?_, trivial⟩
    obtain ⟨v', p, q, r⟩ := hsd.2.1 _ f x
    have : v' = v := px_xi_inj hn hi (by omega) (by change v < nv at hW; omega) q
    rw [this] at r
    exact r
  | ife ta t2 tc wa wb wc iha ihb ihc =>
    intro h a hN hW hc
    refine ⟨fun f x => ?_, trivial⟩
    exact x.elim (fun x => Or.inl (root t2 wb _ _ hN.2.1 f x)) (fun x => Or.inr (root tc wc _ _ hN.2.2.1 f x))
  | lt v x ta t2 wa wb iha ihb =>
    intro h a hN hW hc
    refine ⟨fun f x => root t2 wb _ _ hN.2.1 f x, fun f x => ⟨v, hW.1, rfl, hc.2.2 f (root ta wa _ _ hN.1 f x)⟩⟩
  | site s ta t2 wa wb iha ihb =>
    intro h a hN hW hc
    refine ⟨fun f ⟨g, p, q⟩ => ?_, fun g p => ?_⟩
    · have k1 := root ta wa _ _ hN.1 g p
      have lg := (hc.2.2 g k1).1
      have gl : g < nf := pf_tb_lt (ok.1 _) p
      have k2 := hsd.1 _ f q
      unfold pf_Cs at k2
      rw [hbo g gl] at k2
      exact ⟨g, k1, hcl g lg f k2⟩
    · have k1 := root ta wa _ _ hN.1 g p
      have gl : g < nf := pf_tb_lt (ok.1 _) p
      exact ⟨(hc.2.2 g k1).1, fun f q => ⟨g, by omega, rfl, (hc.2.2 g k1).2 f (root t2 wb _ _ hN.2.1 f q)⟩⟩
theorem pf_ro_o (u : pt_T) (tu : pt_tw u) : ∀ g, pf_ro u g → pf_o u g := by
  induction u, tu using pt_indh with
  | num v => intro g h; exact h
  | dead v => intro g h; exact h
  | var v x => intro g h; exact h
  | glo g0 x => intro g h; exact h
  | lam f0 x b wb ih => intro g h; exact h
  | ife ta t2 tc wa wb wc iha ihb ihc => intro g h; exact False.elim h
  | lt v x ta t2 wa wb iha ihb => intro g h; exact False.elim h
  | op s ta t2 wa wb iha ihb => intro g h; exact False.elim h
  | site s ta t2 wa wb iha ihb => intro g h; exact False.elim h
def pf_ENV (o oP nd nf nv ns : Nat) (fb : Nat → pt_T) (sb : pf_sT) (t : pt_T) (ins : List Nat) (bo : Nat → Nat) (tb : pf_TB) (w0 : fa_W) : Prop := (px_Fo o ∧ px_po oP ∧ oP + 26 < o ∧ nf ≤ 24 ∧ nd ≤ 100) ∧ (nf ≤ nv ∧ nv = 24 + ins.length ∧ ins.Nodup ∧ ∀ x ∈ ins, 24 ≤ x ∧ x < 74) ∧ px_E oP nd nf bo w0 ∧ (∀ i, i < nd → pf_at (pf_Q oP nf nv ns fb sb t ins w0) tb i) ∧ ∀ f, f < nf → pt_tw (fb f) ∧ ∃ c, c + pt_sz (fb f) = bo f + 1 ∧ pf_N tb (fb f) (f : Int) c
theorem pf_lo_mono {z z' : pf_s} (le : pf_le z z') {h : Int} (k : pf_lo z h) : pf_lo z' h := by
  rcases k with k | ⟨f, k1, k2⟩
  · exact Or.inl k
  · exact Or.inr ⟨f, k1, le.2.2.1 f k2⟩
theorem px_P_own {o : Nat} {ins : List Nat} {w : fa_W} {i : Nat} (u : pt_T) (tu : pt_tw u) : ∀ (h : Int) (a : Nat), px_P o ins u h a w → a + pt_sz u = i + 1 → ∃ (K v st : Nat) (x y z : Int), px_N o w i K v h st x y z := by
  have cl : ∀ (j K v st : Nat) (h x y z : Int), px_N o w j K v h st x y z → j = i → ∃ (K v st : Nat) (x y z : Int), px_N o w i K v h st x y z := fun j K v st h x y z N e => by
    rw [e] at N
    exact ⟨K, v, st, x, y, z, N⟩
  induction u, tu using pt_indh with
  | num v => intro h a H e; change a + 1 = i + 1 at e; exact cl _ _ _ _ _ _ _ _ H (by omega)
  | dead v => intro h a H e; change a + 1 = i + 1 at e; exact cl _ _ _ _ _ _ _ _ H (by omega)
  | var v x => intro h a H e; change a + 1 = i + 1 at e; exact cl _ _ _ _ _ _ _ _ H.1 (by omega)
  | glo g0 x => intro h a H e; change a + 1 = i + 1 at e; exact cl _ _ _ _ _ _ _ _ H.1 (by omega)
  | lam f0 x b wb ih => intro h a H e; change a + (pt_sz b + 1) = i + 1 at e; exact cl _ _ _ _ _ _ _ _ H.2.1 (by omega)
  | ife ta t2 tc wa wb wc iha ihb ihc => intro h a H e; change a + (pt_sz ta + pt_sz t2 + pt_sz tc + 1) = i + 1 at e; exact cl _ _ _ _ _ _ _ _ H.2.2.2 (by omega)
  | lt v x ta t2 wa wb iha ihb => intro h a H e; change a + (pt_sz ta + pt_sz t2 + 1) = i + 1 at e; exact cl _ _ _ _ _ _ _ _ H.2.2.1 (by omega)
  | op s ta t2 wa wb iha ihb => intro h a H e; change a + (pt_sz ta + pt_sz t2 + 1) = i + 1 at e; exact cl _ _ _ _ _ _ _ _ H.2.2 (by omega)
  | site s ta t2 wa wb iha ihb => intro h a H e; change a + (pt_sz ta + pt_sz t2 + 1) = i + 1 at e; exact cl _ _ _ _ _ _ _ _ H.2.2.1 (by omega)
set_option maxHeartbeats 2000000 in
theorem px_pass_l {o oP nd nf nv ns : Nat} {fb : Nat → pt_T} {sb : pf_sT} {t : pt_T} {ins : List Nat} {bo : Nat → Nat} {tb : pf_TB} {w0 : fa_W} {H R : Nat → Nat → Prop} {L M : Nat → Prop} {K : Int → fa_W → Option fa_W} (hV : pf_ENV o oP nd nf nv ns fb sb t ins bo tb w0) (hct : pf_c H R L t) (hot : ∀ f, pf_o t f → M f) (hcl : pf_cl fb H R L M) : ∀ (d k F : Nat) (x2 : Int) (z : pf_s) (b : Bool) (w : fa_W), nd = k + d → d < F → px_ff o w0 w → px_xc o nd z b w → pf_ok nf z → pf_Inv nd ins bo tb z → pf_sd z (pf_Cs H R tb) (pf_Hs H nv ins) L M → ∃ (w' : fa_W) (z' : pf_s) (b' : Bool), fm_Flow_solve_l59 o oP K F x2 (k : Int) w = K (x2 + 1) w' ∧ px_ff o w0 w' ∧ px_xc o nd z' b' w' ∧ pf_xg nf z b z' b' ∧ pf_Inv nd ins bo tb z' ∧ pf_sd z' (pf_Cs H R tb) (pf_Hs H nv ins) L M ∧ (pf_Gi z' = pf_Gi z → ∀ i, k ≤ i → i < nd → pf_lo z (tb i).1 → pf_EX ins bo tb z' i) := by
  obtain ⟨⟨ho, hp, hd, h24, h100⟩, ⟨hfv, hnv, hn, hi⟩, hE0, hat, hbod⟩ := hV
  have hxi := px_xi_lt hi
  intro d
  induction d with
  | zero =>
    intro k F x2 z b w hk hF hff hc ok hI hS
    obtain ⟨F, rfl⟩ : ∃ G, F = G + 1 := ⟨F - 1, by omega⟩
    have hE := px_E_ff hd hff hE0
    refine ⟨w, z, b, ?_, hff, hc, pf_xg_refl b ok, hI, hS, fun _ i p q => by omega⟩
    unfold fm_Flow_solve_l59 fm_Program_things fm_Row_size
    rw [hp.1.1, hE.1.1, pb_wr (by omega), pb_wr (by omega), if_pos (by omega), pf_let_eq]
  | succ d ih =>
    intro k F x2 z b w hk hF' hff hc ok hI hS
    obtain ⟨F, rfl⟩ : ∃ G, F = G + 1 := ⟨F - 1, by omega⟩
    have hE := px_E_ff hd hff hE0
    have hkn : k < nd := by omega
    obtain ⟨tw, sz, hN, qP, qW, qT, qS, qD⟩ := hat k hkn
    have ob : px_ob oP w0 w := fun i j p q => hff i j (by omega) (by omega) (by omega)
    have qP' := px_P_ob ob _ tw _ _ qP
    have hown : fm_Program_owner oP (k : Int) w = (tb k).1 := by
      obtain ⟨Kk, v, st, x, y, u, N⟩ := px_P_own _ tw _ _ qP' sz
      exact (px_rd hp hE.1 N hkn).2.2.1
    have nx : ((k : Nat) : Int) + 1 = ((k + 1 : Nat) : Int) := by omega
    unfold fm_Flow_solve_l59 fm_Program_things fm_Row_size
    rw [hp.1.1, hE.1.1, pb_wr (by omega), pb_wr (by omega), if_neg (by omega), hown]
    have hlk : fm_Flow_looked o (tb k).1 w = true ↔ pf_lo z (tb k).1 := by
      unfold fm_Flow_looked
      rcases qD.1 with e | ⟨f, e1, e2⟩
      · rw [e, pb_wr1, if_pos rfl]
        exact ⟨fun _ => Or.inl rfl, fun _ => rfl⟩
      · rw [e2, pb_wr (by omega), if_neg (by omega), hc.2.2.2.1, pf_hb (pf_lt24 (pf_two h24 ok.2.2.1)) (by omega)]
        cases e3 : z.2.2.1.testBit f with
        | true =>
          rw [if_pos rfl]
          exact ⟨fun _ => Or.inr ⟨f, rfl, e3⟩, fun _ => rfl⟩
        | false =>
          rw [if_neg (by decide)]
          refine ⟨fun q => (by cases q), fun q => ?_⟩
          rcases q with q | ⟨g, q1, q2⟩
          · omega
          · have : g = f := by omega
            rw [this] at q2
            unfold pf_zL at q2
            rw [e3] at q2
            cases q2
    by_cases hl : pf_lo z (tb k).1
    · rw [if_pos (hlk.mpr hl)]
      obtain ⟨w1, z1, b1, e1, c1, g1, f1, k1, k2, k3, k4, k5⟩ := px_look (nv := nv) (ns := ns) ho hp hd h24 h100 hxi hkn (tb k).2.1 tw (tb k).1 (tb k).2.2 z b w qP' qW sz hE hc ok (fun f hf => (hI k hkn f hf).1)
      rw [e1]
      dsimp only [Option.bind_some]
      rw [pf_let_eq, nx]
      have le := g1.2.2.1
      have clu : pf_c H R L (tb k).2.1 := qD.2.1 H R L (by
        rcases hl with e | ⟨f, e1, e2⟩
        · rw [e]; exact hct
        · rw [e1, pf_rt_f]; exact (hcl f (hS.2.2.1 f e2)).1)
      have oku : ∀ g, pf_o (tb k).2.1 g → M g := fun g hg => by
        have := qD.2.2 g hg
        rcases hl with e | ⟨f, e1, e2⟩
        · rw [e] at this; exact hot g this
        · rw [e1, pf_rt_f] at this; exact (hcl f (hS.2.2.1 f e2)).2.2 g this
      obtain ⟨u1, u2⟩ := pf_ru_sd (nf := nf) (ns := ns) hn hi hnv hfv hS (fun f hf => (hcl f hf).2.1) (fun f hf => by
        obtain ⟨tf, c, d1, d2⟩ := hbod f hf
        have := pf_N_root _ tf _ _ d2
        rw [d1, Nat.add_sub_cancel] at this
        rw [this]) ok (tb k).2.1 tw (tb k).1 (tb k).2.2 hN qW clu
      have S1 := k5 _ _ _ _ hS u1 u2 (fun g hg => oku g (pf_ro_o _ tw g hg))
      have I1 : pf_Inv nd ins bo tb z1 := fun i hi f hf => by
        have twi := (hat i hi).1
        by_cases ei : i = k
        · rw [ei] at hf ⊢
          exact ⟨pf_ru_mono le.1 (fun v f h => le.2.1 _ f h) _ tw _ f ((k2 f).mp hf), pf_lo_mono le hl⟩
        · unfold pf_b at hf
          rw [k1 i ei] at hf
          obtain ⟨a1, a2⟩ := hI i hi f hf
          exact ⟨pf_ru_mono le.1 (fun v f h => le.2.1 _ f h) _ twi _ f a1, pf_lo_mono le a2⟩
      obtain ⟨w', z', b', q1, q2, q3, q4, q5, q6, q7⟩ := ih (k + 1) F x2 z1 b1 w1 (by omega) (by omega) (px_ff_tr hff f1) c1 g1.1 I1 S1
      refine ⟨w', z', b', q1, q2, q3, pf_xg_tr g1 q4, q5, q6, fun e i p q r => ?_⟩
      have n1 := g1.2.1
      have n2 := q4.2.1
      obtain ⟨v1, v2, v3⟩ := g1.2.2.2.2 (by omega)
      obtain ⟨y1, y2, y3⟩ := q4.2.2.2.2 (by omega)
      by_cases ei : i = k
      · rw [ei]
        have le2 := q4.2.2.1
        unfold pf_EX pf_Hx pf_zL
        rw [y1, y2, y3]
        rw [v1] at k2 ⊢
        refine ⟨fun f => ?_, fun g hg => le2.2.2.2 g (k3 g hg), k4⟩
        rw [v2]
        exact k2 f
      · exact q7 (by omega) i (by omega) q (pf_lo_mono le r)
    · rw [if_neg (fun q => hl (hlk.mp q)), pf_let_eq, nx]
      obtain ⟨w', z', b', q1, q2, q3, q4, q5, q6, q7⟩ := ih (k + 1) F x2 z b w (by omega) (by omega) hff hc ok hI hS
      refine ⟨w', z', b', q1, q2, q3, q4, q5, q6, fun e i p q r => q7 e i ?_ q r⟩
      have : i ≠ k := fun e => hl (by rw [← e]; exact r)
      omega
