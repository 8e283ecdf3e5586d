/-! the class's program as a table -/
def pf_rt (fb : Nat → pt_T) (t : pt_T) (h : Int) : pt_T := if h = -1 then t else fb h.toNat
def pf_D (nf : Nat) (fb : Nat → pt_T) (t u : pt_T) (h : Int) : Prop := (h = -1 ∨ ∃ f : Nat, f < nf ∧ h = (f : Int)) ∧ (∀ H R L, pf_c H R L (pf_rt fb t h) → pf_c H R L u) ∧ ∀ g, pf_o u g → pf_o (pf_rt fb t h) g
def pf_Q (o nf nv ns : Nat) (fb : Nat → pt_T) (sb : pf_sT) (t : pt_T) (ins : List Nat) (w : fa_W) (u : pt_T) (h : Int) (a : Nat) : Prop := px_P o ins u h a w ∧ pf_W nf nv ns u ∧ pf_T fb u ∧ pf_S sb h u ∧ pf_D nf fb t u h
theorem pf_rt_f (fb : Nat → pt_T) (t : pt_T) (f : Nat) : pf_rt fb t (f : Int) = fb f := by
  unfold pf_rt
  rw [if_neg (by omega)]
  rfl
theorem pf_Q_he {o nf nv ns : Nat} {fb : Nat → pt_T} {sb : pf_sT} {t : pt_T} {ins : List Nat} {w : fa_W} (hS : ∀ f, f < nf → pf_S sb (f : Int) (fb f)) : pf_he (pf_Q o nf nv ns fb sb t ins w) := by
  refine ⟨fun f x b h a _ ⟨p, q, r, s, d⟩ => ⟨p.1, q.2, r.1, ?_, Or.inr ⟨f, q.1, rfl⟩, ?_⟩, fun ta t2 tc h a ⟨p, q, r, s, d⟩ => ⟨⟨p.1, q.1, r.1, s.1, d.1, fun H R L c => (d.2.1 H R L c).1, fun g c => d.2.2 g (Or.inl c)⟩, ⟨p.2.1, q.2.1, r.2.1, s.2.1, d.1, fun H R L c => (d.2.1 H R L c).2.1, fun g c => d.2.2 g (Or.inr (Or.inl c))⟩, ⟨p.2.2.1, q.2.2, r.2.2, s.2.2, d.1, fun H R L c => (d.2.1 H R L c).2.2, fun g c => d.2.2 g (Or.inr (Or.inr c))⟩⟩, fun v x ta t2 h a ⟨p, q, r, s, d⟩ => ⟨⟨p.1, q.2.1, r.1, s.1, d.1, fun H R L c => (d.2.1 H R L c).1, fun g c => d.2.2 g (Or.inl c)⟩, ⟨p.2.1, q.2.2, r.2, s.2, d.1, fun H R L c => (d.2.1 H R L c).2.1, fun g c => d.2.2 g (Or.inr c)⟩⟩, fun v ta t2 h a ⟨p, q, r, s, d⟩ => ⟨⟨p.1, q.1, r.1, s.1, d.1, fun H R L c => (d.2.1 H R L c).1, fun g c => d.2.2 g (Or.inl c)⟩, ⟨p.2.1, q.2, r.2, s.2, d.1, fun H R L c => (d.2.1 H R L c).2, fun g c => d.2.2 g (Or.inr c)⟩⟩, fun v ta t2 h a ⟨p, q, r, s, d⟩ => ⟨⟨p.1, q.2.1, r.1, s.1, d.1, fun H R L c => (d.2.1 H R L c).1, fun g c => d.2.2 g (Or.inl c)⟩, ⟨p.2.1, q.2.2, r.2, s.2.1, d.1, fun H R L c => (d.2.1 H R L c).2.1, fun g c => d.2.2 g (Or.inr c)⟩⟩⟩
  · rw [← r.2]
    exact hS f q.1
  · rw [pf_rt_f, r.2]
    exact ⟨fun H R L c => c, fun g c => c⟩
theorem px_lam_N {o B : Nat} {ins : List Nat} {w : fa_W} {fb : Nat → pt_T} {tb : pf_TB} (t : pt_T) (tt : pt_tw t) : ∀ (h : Int) (k k' : pk_K) (a : Nat), pn_can B t k k' → pf_T fb t → px_P o ins t h a w → pf_N tb t h a → ∀ f, B + k.1 ≤ f → f < B + k'.1 → ∃ c, c + pt_sz (fb f) ≤ a + pt_sz t ∧ w (o + 20) f = ((c + pt_sz (fb f) - 1 : Nat) : Int) ∧ pf_N tb (fb f) (f : Int) c := by
  induction t, tt using pt_indh with
  | num v => intro h k k' a hc _ H _ f h1 h2; cases hc; omega
  | var v x => intro h k k' a hc _ H _ f h1 h2; cases hc; omega
  | glo g x => intro h k k' a hc _ H _ f h1 h2; cases hc; omega
  | dead d => intro h k k' a hc _ H _ f h1 h2; cases hc.2; omega
  | lam f0 x b wb ih =>
    intro h k k' a hc hT H hN f h1 h2
    obtain ⟨e, k1, c1, rfl⟩ := hc
    have sz : pt_sz (pt_lam f0 x b) = pt_sz b + 1 := rfl
    by_cases z : f = f0
    · rw [z, hT.2, sz]
      exact ⟨a, by omega, H.2.2.2.2, hN.1⟩
    · obtain ⟨c, q1, q2⟩ := ih _ _ _ _ c1 hT.1 H.1 hN.1 f (by dsimp only; omega) h2
      exact ⟨c, by omega, q2⟩
  | ife ta t2 tc wa wb wc iha ihb ihc =>
    intro h k k' a hc hT H hN f h1 h2
    obtain ⟨k1, k2, k3, c1, c2, c3, rfl⟩ := hc
    have sz : pt_sz (pt_ife ta t2 tc) = pt_sz ta + pt_sz t2 + pt_sz tc + 1 := rfl
    by_cases z : f < B + k1.1
    · obtain ⟨c, q1, q2⟩ := iha _ _ _ _ c1 hT.1 H.1 hN.1 f h1 z
      exact ⟨c, by omega, q2⟩
    · by_cases y : f < B + k2.1
      · obtain ⟨c, q1, q2⟩ := ihb _ _ _ _ c2 hT.2.1 H.2.1 hN.2.1 f (by omega) y
        exact ⟨c, by omega, q2⟩
      · obtain ⟨c, q1, q2⟩ := ihc _ _ _ _ c3 hT.2.2 H.2.2.1 hN.2.2.1 f (by omega) h2
        exact ⟨c, by omega, q2⟩
  | lt v x ta t2 wa wb iha ihb =>
    intro h k k' a hc hT H hN f h1 h2
    obtain ⟨k1, k2, c1, _, c2, rfl⟩ := hc
    have sz : pt_sz (pt_let v x ta t2) = pt_sz ta + pt_sz t2 + 1 := rfl
    by_cases z : f < B + k1.1
    · obtain ⟨c, q1, q2⟩ := iha _ _ _ _ c1 hT.1 H.1 hN.1 f h1 z
      exact ⟨c, by omega, q2⟩
    · obtain ⟨c, q1, q2⟩ := ihb _ _ _ _ c2 hT.2 H.2.1 hN.2.1 f (by dsimp only; omega) h2
      exact ⟨c, by omega, q2⟩
  | op s ta t2 wa wb iha ihb =>
    intro h k k' a hc hT H hN f h1 h2
    obtain ⟨k1, k2, c1, c2, rfl⟩ := hc
    have sz : pt_sz (pt_op s ta t2) = pt_sz ta + pt_sz t2 + 1 := rfl
    by_cases z : f < B + k1.1
    · obtain ⟨c, q1, q2⟩ := iha _ _ _ _ c1 hT.1 H.1 hN.1 f h1 z
      exact ⟨c, by omega, q2⟩
    · obtain ⟨c, q1, q2⟩ := ihb _ _ _ _ c2 hT.2 H.2.1 hN.2.1 f (by omega) h2
      exact ⟨c, by omega, q2⟩
  | site s ta t2 wa wb iha ihb =>
    intro h k k' a hc hT H hN f h1 h2
    obtain ⟨k1, k2, c1, _, c2, rfl⟩ := hc
    have sz : pt_sz (pt_site s ta t2) = pt_sz ta + pt_sz t2 + 1 := rfl
    by_cases z : f < B + k1.1
    · obtain ⟨c, q1, q2⟩ := iha _ _ _ _ c1 hT.1 H.1 hN.1 f h1 z
      exact ⟨c, by omega, q2⟩
    · obtain ⟨c, q1, q2⟩ := ihb _ _ _ _ c2 hT.2 H.2.1 hN.2.1 f (by dsimp only; omega) h2
      exact ⟨c, by omega, q2⟩
theorem pf_L_ex {o : Nat} {Q : pt_T → Int → Nat → Prop} {gs : ps_G} {t : pt_T} {ins : List Nat} {w : fa_W} (he : pf_he Q) (tw : ∀ g, pt_tw (pn_tr gs t g)) : ∀ (os : List Nat) (a : Nat) (tb0 : pf_TB), px_L o ins gs t os a w → (∀ g ∈ os, ∀ b, px_P o ins (pn_tr gs t g) (pn_ow gs.length g) b w → Q (pn_tr gs t g) (pn_ow gs.length g) b) → ∃ tb : pf_TB, (∀ i, ¬ (a ≤ i ∧ i < a + pn_os gs t os) → tb i = tb0 i) ∧ (∀ i, a ≤ i → i < a + pn_os gs t os → pf_at Q tb i ∧ a ≤ (tb i).2.2) ∧ ∀ g ∈ os, ∃ c, c + pt_sz (pn_tr gs t g) ≤ a + pn_os gs t os ∧ pf_N tb (pn_tr gs t g) (pn_ow gs.length g) c ∧ px_P o ins (pn_tr gs t g) (pn_ow gs.length g) c w ∧ (if g < gs.length then w (o + 20) g else w o 16) = ((c + pt_sz (pn_tr gs t g) - 1 : Nat) : Int) := by
  intro os
  induction os with
  | nil =>
    intro a tb0 _ _
    exact ⟨tb0, fun _ _ => rfl, fun i p q => by change i < a + 0 at q; omega, fun g hg => by cases hg⟩
  | cons g r ih =>
    intro a tb0 hL hQ
    obtain ⟨L1, L2, L3⟩ := hL
    have eo : pn_os gs t (g :: r) = pt_sz (pn_tr gs t g) + pn_os gs t r := rfl
    obtain ⟨tb1, x1, x2, x3⟩ := pf_N_ex he _ (tw g) (pn_ow gs.length g) a tb0 (hQ g (List.mem_cons_self ..) a L1)
    obtain ⟨tb, y1, y2, y3⟩ := ih (a + pt_sz (pn_tr gs t g)) tb1 L3 (fun g hg => hQ g (List.mem_cons_of_mem _ hg))
    refine ⟨tb, fun i hi => (y1 i (by omega)).trans (x1 i (by omega)), fun i p q => ?_, fun g' hg => ?_⟩
    · by_cases z : i < a + pt_sz (pn_tr gs t g)
      · obtain ⟨u, v⟩ := x3 i p z
        rw [y1 i (by omega)]
        exact ⟨pf_at_cong u v (fun j m n => y1 j (by omega)), v⟩
      · obtain ⟨u, v⟩ := y2 i (by omega) (by omega)
        exact ⟨u, by omega⟩
    · rcases List.mem_cons.mp hg with rfl | hg
      · exact ⟨a, by omega, pf_N_cong _ (tw _) _ _ (fun i p q => y1 i (by omega)) x2, L1, L2⟩
      · obtain ⟨c, c1, c2⟩ := y3 g' hg
        exact ⟨c, by omega, c2⟩
/-- the class's program as a table -/
def pf_XT (o nd nf nv ns : Nat) (fb : Nat → pt_T) (sb : pf_sT) (t : pt_T) (ins : List Nat) (tb : pf_TB) (w : fa_W) : Prop := (∀ i, i < nd → pf_at (pf_Q o nf nv ns fb sb t ins w) tb i) ∧ (∀ f, f < nf → ∃ c, c + pt_sz (fb f) ≤ nd ∧ w (o + 20) f = ((c + pt_sz (fb f) - 1 : Nat) : Int) ∧ pf_N tb (fb f) (f : Int) c) ∧ ∃ c, c + pt_sz t ≤ nd ∧ w o 16 = ((c + pt_sz t - 1 : Nat) : Int) ∧ pf_N tb t (-1) c
theorem pf_XT_of {o : Nat} {gs : ps_G} {t : pt_T} {la li si nd : Nat} {ins os : List Nat} {w : fa_W} {fb : Nat → pt_T} {sb : pf_sT} (hV : pn_V gs t la li si nd) (hG : pf_G gs t la li si fb sb) (hX : px_V o gs t la li si nd ins os w) : ∃ tb, pf_XT o nd (gs.length + la) (24 + li) si fb sb t ins tb w := by
  have hT := pf_GT hG
  obtain ⟨v1, v2, v3, v4, v5, v6, v7, k1, v8, v9⟩ := hV
  have tw := pn_tr_tw v6 gs _ _ _ v8
  obtain ⟨g1, g2, g3, ⟨g4, g5, g6, g7⟩, g8⟩ := hG
  obtain ⟨x1, x2, x3, x4, x5, x6, x7, x8⟩ := hX
  have hQ : ∀ g ∈ os, ∀ b, px_P o ins (pn_tr gs t g) (pn_ow gs.length g) b w → pf_Q o (gs.length + la) (24 + li) si fb sb t ins w (pn_tr gs t g) (pn_ow gs.length g) b := fun g hg b hP => by
    have hg := (x5 g).mp hg
    refine ⟨hP, ?_, hT g hg, ?_, ?_⟩
    · by_cases z : g < gs.length
      · rw [← g1 g z]; exact (g3 g (by omega)).2.1
      · rw [show g = gs.length by omega, pn_tr_len]; exact g6
    · unfold pn_ow
      by_cases z : g < gs.length
      · rw [if_pos z, ← g1 g z]; exact (g3 g (by omega)).2.2
      · rw [if_neg z, show g = gs.length by omega, pn_tr_len]; exact g7
    · unfold pn_ow
      by_cases z : g < gs.length
      · rw [if_pos z, ← g1 g z]
        refine ⟨Or.inr ⟨g, by omega, rfl⟩, ?_⟩
        rw [pf_rt_f]
        exact ⟨fun H R L c => c, fun g c => c⟩
      · rw [if_neg z, show g = gs.length by omega, pn_tr_len]
        exact ⟨Or.inl rfl, fun H R L c => c, fun g c => c⟩
  obtain ⟨tb, y1, y2, y3⟩ := pf_L_ex (pf_Q_he (fun f hf => (g3 f hf).2.2)) tw os 0 (fun _ => (0, t, 0)) x7 hQ
  rw [Nat.zero_add, x6] at y2
  refine ⟨tb, fun i hi => (y2 i (Nat.zero_le _) hi).1, fun f hf => ?_, ?_⟩
  · by_cases z : f < gs.length
    · obtain ⟨c, c1, c2, c3, c4⟩ := y3 f ((x5 f).mpr (by omega))
      rw [if_pos z] at c4
      unfold pn_ow at c2
      rw [if_pos z] at c2
      rw [g1 f z]
      exact ⟨c, by omega, c4, c2⟩
    · obtain ⟨g, q1, ka, kb, q2, q3, q4⟩ := pn_lam_item gs _ _ _ _ v8 v9 f (by dsimp only; omega) (by dsimp only; exact hf)
      obtain ⟨c, c1, c2, c3, c4⟩ := y3 g ((x5 g).mpr q1)
      obtain ⟨d, d1, d2, d3⟩ := px_lam_N _ (tw g) _ _ _ _ q2 (hT g q1) c3 c2 f q3 q4
      exact ⟨d, by omega, d2, d3⟩
  · obtain ⟨c, c1, c2, c3, c4⟩ := y3 gs.length ((x5 _).mpr (Nat.le_refl _))
    rw [if_neg (by omega)] at c4
    unfold pn_ow at c2
    rw [if_neg (by omega)] at c2
    rw [pn_tr_len] at c1 c2 c4
    exact ⟨c, by omega, c4, c2⟩
