/-! GROUPS as they are told: classes of those that are MADE -/
def pg_eq (r : Nat → Nat → Prop) : Prop := (∀ a, r a a) ∧ (∀ a b, r a b → r b a) ∧ ∀ a b c, r a b → r b c → r a c
/-- r is the least that goes on from one to another -/
def pg_H (M : Nat → Prop) (T r : Nat → Nat → Prop) : Prop := pg_eq r ∧ (∀ a b, M a → M b → T a b → r a b) ∧ ∀ P, pg_eq P → (∀ a b, M a → M b → T a b → P a b) → ∀ f g, M f → M g → r f g → P f g
theorem pg_H_self {M : Nat → Prop} {r : Nat → Nat → Prop} (h : pg_eq r) : pg_H M r r := ⟨h, fun _ _ _ _ q => q, fun P _ hP f g a b q => hP f g a b q⟩
/-- those that come together at one of the first k SITES, and so on -/
def pg_j (A : Nat → Nat) (k f g : Nat) : Prop := ∀ P, pg_eq P → (∀ s, s < k → ∀ a b, (A s).testBit a = true → (A s).testBit b = true → P a b) → P f g
theorem pg_j_eq (A : Nat → Nat) (k : Nat) : pg_eq (pg_j A k) := ⟨fun a P h _ => h.1 a, fun a b q P h hs => h.2.1 _ _ (q P h hs), fun a b c p q P h hs => h.2.2 _ _ _ (p P h hs) (q P h hs)⟩
theorem pg_j_H {M : Nat → Prop} {A : Nat → Nat} {k : Nat} (hA : ∀ s, s < k → ∀ a, (A s).testBit a = true → M a) : pg_H M (fun a b => ∃ s, s < k ∧ (A s).testBit a = true ∧ (A s).testBit b = true) (pg_j A k) := ⟨pg_j_eq A k, fun a b _ _ ⟨s, s1, s2, s3⟩ P _ hs => hs s s1 a b s2 s3, fun P hP h f g _ _ q => q P hP (fun s hs a b p1 p2 => h a b (hA s hs a p1) (hA s hs b p2) ⟨s, hs, p1, p2⟩)⟩
theorem pg_j_0 (A : Nat → Nat) (f g : Nat) : pg_j A 0 f g ↔ f = g := ⟨fun q => q (fun a b => a = b) ⟨fun _ => rfl, fun _ _ => Eq.symm, fun _ _ _ => Eq.trans⟩ (fun s hs => by omega), fun e => by rw [e]; exact (pg_j_eq A 0).1 g⟩
theorem pg_j_mono {A : Nat → Nat} {k f g : Nat} (h : pg_j A k f g) : pg_j A (k + 1) f g := fun P hP hs => h P hP (fun s q => hs s (by omega))
/-- a SITE more makes one class of all those whose members come there -/
theorem pg_j_s (A : Nat → Nat) (k f g : Nat) : pg_j A (k + 1) f g ↔ ((∃ a, (A k).testBit a = true ∧ pg_j A k a f) ∧ ∃ a, (A k).testBit a = true ∧ pg_j A k a g) ∨ pg_j A k f g := by
  have E := pg_j_eq A k
  have E1 := pg_j_eq A (k + 1)
  constructor
  · intro h
    refine h (fun f g => ((∃ a, (A k).testBit a = true ∧ pg_j A k a f) ∧ ∃ a, (A k).testBit a = true ∧ pg_j A k a g) ∨ pg_j A k f g) ⟨fun a => Or.inr (E.1 a), fun a b q => ?_, fun a b c p q => ?_⟩ (fun s hs a b p q => ?_)
    · exact q.imp (fun z => ⟨z.2, z.1⟩) (E.2.1 _ _)
    · rcases p with p | p
      · rcases q with q | q
        · exact Or.inl ⟨p.1, q.2⟩
        · obtain ⟨x, x1, x2⟩ := p.2
          exact Or.inl ⟨p.1, x, x1, E.2.2 _ _ _ x2 q⟩
      · rcases q with q | q
        · obtain ⟨x, x1, x2⟩ := q.1
          exact Or.inl ⟨⟨x, x1, E.2.2 _ _ _ x2 (E.2.1 _ _ p)⟩, q.2⟩
        · exact Or.inr (E.2.2 _ _ _ p q)
    · by_cases es : s = k
      · rw [es] at p q
        exact Or.inl ⟨⟨a, p, E.1 a⟩, b, q, E.1 b⟩
      · exact Or.inr (fun P _ hs' => hs' s (by omega) a b p q)
  · rintro (⟨⟨a, a1, a2⟩, b, b1, b2⟩ | h)
    · have ab : pg_j A (k + 1) a b := fun P _ hs => hs k (Nat.lt_succ_self k) a b a1 b1
      exact E1.2.2 _ _ _ (E1.2.1 _ _ (pg_j_mono a2)) (E1.2.2 _ _ _ ab (pg_j_mono b2))
    · exact pg_j_mono h
/-- classes as numbers -/
noncomputable def pg_mt (M : Nat → Prop) (r : Nat → Nat → Prop) (nf f : Nat) : Nat := pf_num (fun g => M g ∧ r f g) nf
/-- what GROUPS keep: mk has those that are MADE, mt the classes -/
def pg_E (mk : Nat) (mt : Nat → Nat) (nf : Nat) : Prop := ∀ f, f < nf → mk.testBit f = true → mt f < 2 ^ nf ∧ (mt f).testBit f = true ∧ ∀ g, (mt f).testBit g = true → g < nf ∧ mk.testBit g = true ∧ mt g = mt f
theorem pg_E_of {M : Nat → Prop} {r : Nat → Nat → Prop} {nf mk : Nat} (h : pg_eq r) (hm : ∀ f, f < nf → (mk.testBit f = true ↔ M f)) : pg_E mk (pg_mt M r nf) nf := by
  intro f hf hmk
  refine ⟨pf_num_lt _ nf, (pf_num_bit _ f nf).mpr ⟨hf, (hm f hf).mp hmk, h.1 f⟩, fun g hg => ?_⟩
  obtain ⟨q1, q2, q3⟩ := (pf_num_bit _ g nf).mp hg
  exact ⟨q1, (hm g q1).mpr q2, pf_num_cong (fun x _ => and_congr Iff.rfl ⟨fun y => h.2.2 _ _ _ q3 y, fun y => h.2.2 _ _ _ (h.2.1 _ _ q3) y⟩)⟩
/-- the GROUPS in their order -/
def pg_l (mk : Nat) (mt : Nat → Nat) (k : Nat) : List Nat := pf_lr (fun _ => mk) mt k
theorem pg_l_s (mk : Nat) (mt : Nat → Nat) (k : Nat) : pg_l mk mt (k + 1) = if mk.testBit k = true ∧ pf_fi k (pg_l mk mt k) 0 = -1 then pg_l mk mt k ++ [mt k] else pg_l mk mt k := rfl
theorem pg_l_len (mk : Nat) (mt : Nat → Nat) (k : Nat) : (pg_l mk mt k).length ≤ k := pf_lr_len _ _ k
def pg_I (mk : Nat) (mt : Nat → Nat) (nf k : Nat) : Prop := (∀ m ∈ pg_l mk mt k, ∃ g, g < k ∧ mk.testBit g = true ∧ m = mt g) ∧ ∀ g, g < k → mk.testBit g = true → pf_fi g (pg_l mk mt k) 0 ≠ -1
theorem pg_I_of {mk nf : Nat} {mt : Nat → Nat} (hE : pg_E mk mt nf) : ∀ k, k ≤ nf → pg_I mk mt nf k := by
  intro k
  induction k with
  | zero => intro _; exact ⟨fun m hm => (by cases hm), fun g hg => by omega⟩
  | succ k ih =>
    intro hk
    obtain ⟨i1, i2⟩ := ih (by omega)
    unfold pg_I
    rw [pg_l_s]
    by_cases e : mk.testBit k = true ∧ pf_fi k (pg_l mk mt k) 0 = -1
    · rw [if_pos e]
      refine ⟨fun m hm => ?_, fun g hg hw => ?_⟩
      · rcases List.mem_append.mp hm with hm | hm
        · obtain ⟨g, g1, g2⟩ := i1 m hm; exact ⟨g, by omega, g2⟩
        · rw [List.mem_singleton] at hm; exact ⟨k, by omega, e.1, hm⟩
      · rw [pf_fi_snoc]
        by_cases eg : g = k
        · rw [eg, if_pos e.2, if_pos (hE k (by omega) e.1).2.1]; omega
        · have := i2 g (by omega) hw
          rw [if_neg this]; exact this
    · rw [if_neg e]
      refine ⟨fun m hm => ?_, fun g hg hw => ?_⟩
      · obtain ⟨g, g1, g2⟩ := i1 m hm; exact ⟨g, by omega, g2⟩
      · by_cases eg : g = k
        · rw [eg] at hw ⊢
          exact fun q => e ⟨hw, q⟩
        · exact i2 g (by omega) hw
/-- a FUNCTION begins a GROUP just if it is the least of its class -/
theorem pg_first {mk nf k : Nat} {mt : Nat → Nat} (hE : pg_E mk mt nf) (hk : k < nf) (hm : mk.testBit k = true) : pf_fi k (pg_l mk mt k) 0 = -1 ↔ ∀ i, i < k → (mt k).testBit i = false := by
  obtain ⟨i1, i2⟩ := pg_I_of hE k (by omega)
  obtain ⟨e1, e2, e3⟩ := hE k hk hm
  constructor
  · intro h i hi
    cases c : (mt k).testBit i with
    | false => rfl
    | true =>
      exfalso
      obtain ⟨q1, q2, q3⟩ := e3 i c
      obtain ⟨m, m1, m2⟩ := pf_fi_in _ _ (i2 i hi q2)
      obtain ⟨g, g1, g2, g3⟩ := i1 m m1
      rw [g3] at m2
      obtain ⟨_, _, e⟩ := (hE g (by omega) g2).2.2 i m2
      refine pf_fi_ne _ _ m m1 ?_ h
      rw [g3, ← e, q3]
      exact e2
  · intro h
    rcases pf_fi_cases k (pg_l mk mt k) 0 with ⟨e, _⟩ | ⟨i, l1, _, l3⟩
    · exact e
    · exfalso
      have hmem : (pg_l mk mt k).getD i 0 ∈ pg_l mk mt k := by
        rw [List.getD_eq_getElem?_getD, List.getElem?_eq_getElem l1]; exact List.getElem_mem l1
      obtain ⟨g, g1, g2, g3⟩ := i1 _ hmem
      rw [g3] at l3
      obtain ⟨_, _, e⟩ := (hE g (by omega) g2).2.2 k l3
      have := h g g1
      rw [e, (hE g (by omega) g2).2.1] at this
      cases this
