/-! a program with EXPRS taken away, numbered anew -/
def pc_rk (p : Nat → Bool) : Nat → Nat
  | 0 => 0
  | k + 1 => pc_rk p k + (p k).toNat
theorem pc_rk_mono (p : Nat → Bool) : ∀ {a b : Nat}, a ≤ b → pc_rk p a ≤ pc_rk p b := by
  intro a b h
  induction b with
  | zero => rw [show a = 0 by omega]; exact Nat.le_refl _
  | succ b ih =>
    by_cases e : a = b + 1
    · rw [e]; exact Nat.le_refl _
    · have := ih (by omega)
      show _ ≤ pc_rk p b + (p b).toNat
      omega
theorem pc_rk_le (p : Nat → Bool) : ∀ k, pc_rk p k ≤ k := by
  intro k
  induction k with
  | zero => exact Nat.le_refl _
  | succ k ih =>
    show pc_rk p k + (p k).toNat ≤ k + 1
    cases p k
    · show _ + 0 ≤ _; omega
    · show _ + 1 ≤ _; omega
theorem pc_rk_t {p : Nat → Bool} {k : Nat} (h : p k = true) : pc_rk p (k + 1) = pc_rk p k + 1 := by
  show _ + (p k).toNat = _
  rw [h]; rfl
theorem pc_rk_f {p : Nat → Bool} {k : Nat} (h : p k = false) : pc_rk p (k + 1) = pc_rk p k := by
  show _ + (p k).toNat = _
  rw [h]; rfl
theorem pc_rk_lt {p : Nat → Bool} {a b : Nat} (h : p a = true) (l : a < b) : pc_rk p a < pc_rk p b := by
  have := pc_rk_mono p (show a + 1 ≤ b by omega)
  rw [pc_rk_t h] at this
  omega
theorem pc_rk_inj {p : Nat → Bool} {a b : Nat} (ha : p a = true) (hb : p b = true) (e : pc_rk p a = pc_rk p b) : a = b := by
  rcases Nat.lt_trichotomy a b with h | h | h
  · have := pc_rk_lt ha h; omega
  · exact h
  · have := pc_rk_lt hb h; omega
def pc_sz (CL : Nat → Bool) : pt_T → Nat := pt_rec (fun _ => 1) (fun _ _ => 1) (fun _ _ => 1) (fun _ => 1) (fun f _ _ r => if CL f = true then r + 1 else 2) (fun _ _ _ p q r => p + q + r + 1) (fun _ _ _ _ p q => p + q + 1) (fun _ _ _ p q => p + q + 1) (fun _ _ _ p q => p + q + 1) 1
def pc_t (CL : Nat → Bool) (ρ σ : Nat → Nat) : pt_T → Nat → pt_T := pt_rec (fun v _ => pt_num v) (fun v x _ => pt_var (ρ v) x) (fun g x _ => pt_glo (ρ g) x) (fun _ n => pt_dead n) (fun f x _ r n => if CL f = true then pt_lam (ρ f) x (r n) else pt_lam (ρ f) x (pt_dead n)) (fun a b _ ra rb rc n => pt_ife (ra n) (rb (n + pc_sz CL a)) (rc (n + pc_sz CL a + pc_sz CL b))) (fun v x a _ ra rb n => pt_let (ρ v) x (ra n) (rb (n + pc_sz CL a))) (fun s a _ ra rb n => pt_op s (ra n) (rb (n + pc_sz CL a))) (fun s a _ ra rb n => pt_site (σ s) (ra n) (rb (n + pc_sz CL a))) (fun _ => pt_num 0)
theorem pc_t_tw {CL : Nat → Bool} {ρ σ : Nat → Nat} (t : pt_T) (tt : pt_tw t) : ∀ n, pt_tw (pc_t CL ρ σ t n) ∧ pt_sz (pc_t CL ρ σ t n) = pc_sz CL t := by
  induction t, tt using pt_indh with
  | num v => intro n; exact ⟨trivial, rfl⟩
  | var v x => intro n; exact ⟨trivial, rfl⟩
  | glo g x => intro n; exact ⟨trivial, rfl⟩
  | dead d => intro n; exact ⟨trivial, rfl⟩
  | lam f x b tb ih =>
    intro n
    have e : pc_t CL ρ σ (pt_lam f x b) n = if CL f = true then pt_lam (ρ f) x (pc_t CL ρ σ b n) else pt_lam (ρ f) x (pt_dead n) := rfl
    have e2 : pc_sz CL (pt_lam f x b) = if CL f = true then pc_sz CL b + 1 else 2 := rfl
    rw [e, e2]
    by_cases c : CL f = true
    · rw [if_pos c, if_pos c]
      exact ⟨(ih n).1, by rw [← (ih n).2]; rfl⟩
    · rw [if_neg c, if_neg c]
      exact ⟨trivial, rfl⟩
  | ife a b c ta tb tc iha ihb ihc =>
    intro n
    refine ⟨⟨(iha _).1, (ihb _).1, (ihc _).1⟩, ?_⟩
    show pt_sz (pc_t CL ρ σ a _) + pt_sz (pc_t CL ρ σ b _) + pt_sz (pc_t CL ρ σ c _) + 1 = pc_sz CL a + pc_sz CL b + pc_sz CL c + 1
    rw [(iha _).2, (ihb _).2, (ihc _).2]
  | lt v x a b ta tb iha ihb =>
    intro n
    refine ⟨⟨(iha _).1, (ihb _).1⟩, ?_⟩
    show pt_sz (pc_t CL ρ σ a _) + pt_sz (pc_t CL ρ σ b _) + 1 = pc_sz CL a + pc_sz CL b + 1
    rw [(iha _).2, (ihb _).2]
  | op s a b ta tb iha ihb =>
    intro n
    refine ⟨⟨(iha _).1, (ihb _).1⟩, ?_⟩
    show pt_sz (pc_t CL ρ σ a _) + pt_sz (pc_t CL ρ σ b _) + 1 = pc_sz CL a + pc_sz CL b + 1
    rw [(iha _).2, (ihb _).2]
  | site s a b ta tb iha ihb =>
    intro n
    refine ⟨⟨(iha _).1, (ihb _).1⟩, ?_⟩
    show pt_sz (pc_t CL ρ σ a _) + pt_sz (pc_t CL ρ σ b _) + 1 = pc_sz CL a + pc_sz CL b + 1
    rw [(iha _).2, (ihb _).2]
theorem pc_sz_pos (CL : Nat → Bool) (t : pt_T) (tt : pt_tw t) : 0 < pc_sz CL t := by
  have q := pc_t_tw (CL := CL) (ρ := fun v => v) (σ := fun v => v) t tt 0
  rw [← q.2]
  exact pt_sz_pos _
theorem pc_sz_le (CL : Nat → Bool) (t : pt_T) (tt : pt_tw t) : pc_sz CL t ≤ pt_sz t := by
  induction t, tt using pt_indh with
  | num v => exact Nat.le_refl _
  | var v x => exact Nat.le_refl _
  | glo g x => exact Nat.le_refl _
  | dead d => exact Nat.le_refl _
  | lam f x b tb ih =>
    show (if CL f = true then pc_sz CL b + 1 else 2) ≤ pt_sz b + 1
    have := pt_sz_pos b
    split <;> omega
  | ife a b c ta tb tc iha ihb ihc => show pc_sz CL a + pc_sz CL b + pc_sz CL c + 1 ≤ pt_sz a + pt_sz b + pt_sz c + 1; omega
  | lt v x a b ta tb iha ihb => show pc_sz CL a + pc_sz CL b + 1 ≤ pt_sz a + pt_sz b + 1; omega
  | op s a b ta tb iha ihb => show pc_sz CL a + pc_sz CL b + 1 ≤ pt_sz a + pt_sz b + 1; omega
  | site s a b ta tb iha ihb => show pc_sz CL a + pc_sz CL b + 1 ≤ pt_sz a + pt_sz b + 1; omega
/-- what is written again: M LAMBDAS, CL those that keep their EXPR, SV SITES, LV lets; l: whether here is -/
def pc_ok (M CL SV LV : Nat → Bool) : pt_T → Bool → Prop := pt_rec (fun _ _ => True) (fun _ _ _ => True) (fun g _ l => l = true → M g = true) (fun _ _ => True) (fun f _ _ r l => M f = l ∧ (CL f = true → M f = true) ∧ r (CL f)) (fun _ _ _ ra rb rc l => ra l ∧ rb l ∧ rc l) (fun v _ _ _ ra rb l => LV (v - 24) = l ∧ ra l ∧ rb l) (fun _ _ _ ra rb l => ra l ∧ rb l) (fun s _ _ ra rb l => SV s = l ∧ ra l ∧ rb l) (fun _ => False)
theorem pc_hide {M CL SV LV : Nat → Bool} {B : Nat} (t : pt_T) (tt : pt_tw t) : ∀ (k k' : pk_K), pn_can B t k k' → pc_ok M CL SV LV t false → pc_rk M (B + k'.1) = pc_rk M (B + k.1) ∧ pc_rk LV k'.2.1 = pc_rk LV k.2.1 ∧ pc_rk SV k'.2.2.1 = pc_rk SV k.2.2.1 := by
  induction t, tt using pt_indh with
  | num v => intro k k' h _; cases h; exact ⟨rfl, rfl, rfl⟩
  | var v x => intro k k' h _; cases h; exact ⟨rfl, rfl, rfl⟩
  | glo g x => intro k k' h _; cases h; exact ⟨rfl, rfl, rfl⟩
  | dead d => intro k k' h _; cases h.2; exact ⟨rfl, rfl, rfl⟩
  | lam f x b tb ih =>
    intro k k' h ok
    obtain ⟨ef, k1, h1, rfl⟩ := h
    obtain ⟨o1, o2, o3⟩ := ok
    have cf : CL f = false := by
      cases c : CL f with
      | false => rfl
      | true => rw [o2 c] at o1; cases o1
    rw [cf] at o3
    obtain ⟨q1, q2, q3⟩ := ih _ _ h1 o3
    dsimp only at q1 q2 q3 ⊢
    refine ⟨?_, q2, q3⟩
    rw [q1, ← Nat.add_assoc]
    exact pc_rk_f (by rw [← ef]; exact o1)
  | ife a b c ta tb tc iha ihb ihc =>
    intro k k' h ok
    obtain ⟨k1, k2, k3, h1, h2, h3, rfl⟩ := h
    obtain ⟨o1, o2, o3⟩ := ok
    obtain ⟨p1, p2, p3⟩ := iha _ _ h1 o1
    obtain ⟨q1, q2, q3⟩ := ihb _ _ h2 o2
    obtain ⟨r1, r2, r3⟩ := ihc _ _ h3 o3
    exact ⟨r1.trans (q1.trans p1), r2.trans (q2.trans p2), r3.trans (q3.trans p3)⟩
  | lt v x a b ta tb iha ihb =>
    intro k k' h ok
    obtain ⟨k1, k2, h1, ev, h2, rfl⟩ := h
    obtain ⟨o0, o1, o2⟩ := ok
    obtain ⟨p1, p2, p3⟩ := iha _ _ h1 o1
    obtain ⟨q1, q2, q3⟩ := ihb _ _ h2 o2
    dsimp only at q1 q2 q3 ⊢
    refine ⟨q1.trans p1, q2.trans ?_, q3.trans p3⟩
    rw [pc_rk_f (by rw [ev, show 24 + k1.2.1 - 24 = k1.2.1 by omega] at o0; exact o0)]
    exact p2
  | op s a b ta tb iha ihb =>
    intro k k' h ok
    obtain ⟨k1, k2, h1, h2, rfl⟩ := h
    obtain ⟨o1, o2⟩ := ok
    obtain ⟨p1, p2, p3⟩ := iha _ _ h1 o1
    obtain ⟨q1, q2, q3⟩ := ihb _ _ h2 o2
    exact ⟨q1.trans p1, q2.trans p2, q3.trans p3⟩
  | site s a b ta tb iha ihb =>
    intro k k' h ok
    obtain ⟨k1, k2, h1, es, h2, rfl⟩ := h
    obtain ⟨o0, o1, o2⟩ := ok
    obtain ⟨p1, p2, p3⟩ := iha _ _ h1 o1
    obtain ⟨q1, q2, q3⟩ := ihb _ _ h2 o2
    dsimp only at q1 q2 q3 ⊢
    refine ⟨q1.trans p1, q2.trans p2, q3.trans ?_⟩
    rw [pc_rk_f (by rw [es] at o0; exact o0)]
    exact p3
/-- numbers of what is kept -/
def pc_K (M SV LV : Nat → Bool) (B : Nat) (k : pk_K) (n : Nat) : pk_K := (pc_rk M (B + k.1) - pc_rk M B, pc_rk LV k.2.1, pc_rk SV k.2.2.1, n)
def pc_ρ (M LV : Nat → Bool) (v : Nat) : Nat := if v < 24 then pc_rk M v else 24 + pc_rk LV (v - 24)
theorem pc_can {M CL SV LV : Nat → Bool} {B : Nat} (t : pt_T) (tt : pt_tw t) : ∀ (k k' : pk_K) (n : Nat), B + k'.1 ≤ 24 → pn_can B t k k' → pc_ok M CL SV LV t true → pn_can (pc_rk M B) (pc_t CL (pc_ρ M LV) (pc_rk SV) t n) (pc_K M SV LV B k n) (pc_K M SV LV B k' (n + pc_sz CL t)) := by
  induction t, tt using pt_indh with
  | num v => intro k k' n _ h _; cases h; rfl
  | var v x => intro k k' n _ h _; cases h; rfl
  | glo g x => intro k k' n _ h _; cases h; rfl
  | dead d => intro k k' n _ h _; cases h.2; exact ⟨rfl, rfl⟩
  | lam f x b tb ih =>
    intro k k' n h24 h ok
    obtain ⟨ef, k1, h1, rfl⟩ := h
    obtain ⟨o1, o2, o3⟩ := ok
    have m1 := pn_mono b tb _ _ h1
    dsimp only at h24 m1
    have mf : M (B + k.1) = true := by rw [← ef]; exact o1
    have mono : pc_rk M B ≤ pc_rk M (B + k.1) := pc_rk_mono M (by omega)
    have ρf : pc_ρ M LV f = pc_rk M B + (pc_rk M (B + k.1) - pc_rk M B) := by
      unfold pc_ρ
      rw [if_pos (by omega), ef]; omega
    have e : pc_t CL (pc_ρ M LV) (pc_rk SV) (pt_lam f x b) n = if CL f = true then pt_lam (pc_ρ M LV f) x (pc_t CL (pc_ρ M LV) (pc_rk SV) b n) else pt_lam (pc_ρ M LV f) x (pt_dead n) := rfl
    have e2 : pc_sz CL (pt_lam f x b) = if CL f = true then pc_sz CL b + 1 else 2 := rfl
    have nxt : pc_K M SV LV B (k.1 + 1, k.2) n = (pc_rk M (B + k.1) - pc_rk M B + 1, pc_rk LV k.2.1, pc_rk SV k.2.2.1, n) := by
      unfold pc_K
      try dsimp only
      rw [← Nat.add_assoc, pc_rk_t mf, show pc_rk M (B + k.1) + 1 - pc_rk M B = pc_rk M (B + k.1) - pc_rk M B + 1 by omega]
    rw [e, e2]
    by_cases c : CL f = true
    · rw [if_pos c, if_pos c]
      rw [c] at o3
      have i := ih _ _ n h24 h1 o3
      rw [nxt] at i
      exact ⟨ρf, _, i, rfl⟩
    · rw [if_neg c, if_neg c]
      have cf : CL f = false := by
        cases z : CL f with
        | false => rfl
        | true => exact absurd z c
      rw [cf] at o3
      obtain ⟨q1, q2, q3⟩ := pc_hide b tb _ _ h1 o3
      dsimp only at q1 q2 q3
      refine ⟨ρf, _, ⟨rfl, rfl⟩, ?_⟩
      unfold pc_K
      try dsimp only
      rw [q1, q2, q3, ← Nat.add_assoc, pc_rk_t mf, show pc_rk M (B + k.1) + 1 - pc_rk M B = pc_rk M (B + k.1) - pc_rk M B + 1 by omega]
  | ife a b c ta tb tc iha ihb ihc =>
    intro k k' n h24 h ok
    obtain ⟨k1, k2, k3, h1, h2, h3, rfl⟩ := h
    obtain ⟨o1, o2, o3⟩ := ok
    have m2 := pn_mono b tb _ _ h2
    have m3 := pn_mono c tc _ _ h3
    dsimp only at h24
    refine ⟨_, _, _, iha _ _ n (by omega) h1 o1, ihb _ _ _ (by omega) h2 o2, ihc _ _ _ (by omega) h3 o3, ?_⟩
    show pc_K M SV LV B _ (n + (pc_sz CL a + pc_sz CL b + pc_sz CL c + 1)) = _
    unfold pc_K
    try dsimp only
    rw [show n + (pc_sz CL a + pc_sz CL b + pc_sz CL c + 1) = n + pc_sz CL a + pc_sz CL b + pc_sz CL c + 1 by omega]
  | lt v x a b ta tb iha ihb =>
    intro k k' n h24 h ok
    obtain ⟨k1, k2, h1, ev, h2, rfl⟩ := h
    obtain ⟨o0, o1, o2⟩ := ok
    have m2 := pn_mono b tb _ _ h2
    dsimp only at h24 m2
    have lv : LV k1.2.1 = true := by rw [ev, show 24 + k1.2.1 - 24 = k1.2.1 by omega] at o0; exact o0
    have i := ihb _ _ (n + pc_sz CL a) h24 h2 o2
    refine ⟨pc_K M SV LV B k1 (n + pc_sz CL a), pc_K M SV LV B k2 (n + pc_sz CL a + pc_sz CL b), iha _ _ n (by omega) h1 o1, ?_, ?_, ?_⟩
    · unfold pc_ρ pc_K
      rw [ev, if_neg (by omega), show 24 + k1.2.1 - 24 = k1.2.1 by omega]
    · · have e : pc_K M SV LV B (k1.1, k1.2.1 + 1, k1.2.2) (n + pc_sz CL a) = ((pc_K M SV LV B k1 (n + pc_sz CL a)).1, (pc_K M SV LV B k1 (n + pc_sz CL a)).2.1 + 1, (pc_K M SV LV B k1 (n + pc_sz CL a)).2.2) := by
          unfold pc_K
          try dsimp only
          rw [pc_rk_t lv]
        rw [e] at i
        exact i
    · show pc_K M SV LV B _ (n + (pc_sz CL a + pc_sz CL b + 1)) = _
      unfold pc_K
      try dsimp only
      rw [show n + (pc_sz CL a + pc_sz CL b + 1) = n + pc_sz CL a + pc_sz CL b + 1 by omega]
  | op s a b ta tb iha ihb =>
    intro k k' n h24 h ok
    obtain ⟨k1, k2, h1, h2, rfl⟩ := h
    obtain ⟨o1, o2⟩ := ok
    have m2 := pn_mono b tb _ _ h2
    dsimp only at h24
    refine ⟨_, _, iha _ _ n (by omega) h1 o1, ihb _ _ _ (by omega) h2 o2, ?_⟩
    show pc_K M SV LV B _ (n + (pc_sz CL a + pc_sz CL b + 1)) = _
    unfold pc_K
    try dsimp only
    rw [show n + (pc_sz CL a + pc_sz CL b + 1) = n + pc_sz CL a + pc_sz CL b + 1 by omega]
  | site s a b ta tb iha ihb =>
    intro k k' n h24 h ok
    obtain ⟨k1, k2, h1, es, h2, rfl⟩ := h
    obtain ⟨o0, o1, o2⟩ := ok
    have m2 := pn_mono b tb _ _ h2
    dsimp only at h24 m2
    have sv : SV k1.2.2.1 = true := by rw [es] at o0; exact o0
    have i := ihb _ _ (n + pc_sz CL a) h24 h2 o2
    refine ⟨pc_K M SV LV B k1 (n + pc_sz CL a), pc_K M SV LV B k2 (n + pc_sz CL a + pc_sz CL b), iha _ _ n (by omega) h1 o1, ?_, ?_, ?_⟩
    · rw [es]; rfl
    · · have e : pc_K M SV LV B (k1.1, k1.2.1, k1.2.2.1 + 1, k1.2.2.2) (n + pc_sz CL a) = ((pc_K M SV LV B k1 (n + pc_sz CL a)).1, (pc_K M SV LV B k1 (n + pc_sz CL a)).2.1, (pc_K M SV LV B k1 (n + pc_sz CL a)).2.2.1 + 1, (pc_K M SV LV B k1 (n + pc_sz CL a)).2.2.2) := by
          unfold pc_K
          try dsimp only
          rw [pc_rk_t sv]
        rw [e] at i
        exact i
    · show pc_K M SV LV B _ (n + (pc_sz CL a + pc_sz CL b + 1)) = _
      unfold pc_K
      try dsimp only
      rw [show n + (pc_sz CL a + pc_sz CL b + 1) = n + pc_sz CL a + pc_sz CL b + 1 by omega]
