/-! RUNS as they are told. A value: the number, the FUNCTION (-1: none), the frame in which it was made (-1: none) -/
abbrev rv_V : Type := Int × Int × Int
/-! steps; what VARS have, frame by frame; FUNCTIONS of frames; frames around; entered; the most that were inside -/
abbrev rv_S : Type := Nat × (Nat → Nat → Option rv_V) × (Nat → Int) × (Nat → Int) × Nat × Nat
/-! FUNCTIONS inside, with their frames, the innermost first -/
abbrev rv_I : Type := List (Nat × Nat)
abbrev rv_O : Type := Except (Nat × rv_I) rv_V × rv_S
def rv_bd (x : rv_O) (k : rv_V → rv_S → rv_O) : rv_O := match x with
  | (.error e, s) => (.error e, s)
  | (.ok v, s) => k v s
def rv_j : rv_I → Nat
  | [] => 0
  | p :: _ => p.2
def rv_put (s : rv_S) (j v : Nat) (a : rv_V) : rv_S := (s.1, (fun i u => if i = j ∧ u = v then some a else s.2.1 i u), s.2.2)
def rv_op (sg : Nat) (a b : Int) : Option Int := if sg = 43 then some (a + b) else if sg = 45 then some (a - b) else if sg = 42 then some (a * b) else if sg = 60 then some (if fa_wr b ≤ fa_wr a then 0 else 1) else if fa_wr b = 0 then none else some (fa_idiv a b)
def rv_nw (s : rv_S) (f : Nat) (b : rv_V) (up : Int) (q : Nat) : rv_S := (s.1 + 1, (fun i v => if i = s.1 + 1 then (if v = f then some b else if up < 0 then none else s.2.1 up.toNat v) else s.2.1 i v), (fun i => if i = s.1 + 1 then (f : Int) else s.2.2.1 i), (fun i => if i = s.1 + 1 then up else s.2.2.2.1 i), s.2.2.2.2.1 ||| 2 ^ f, max s.2.2.2.2.2 (q + 1))
def rv_oo (sg : Nat) (il : rv_I) (a b : Int) (s : rv_S) : rv_O := match rv_op sg a b with
  | some c => (.ok (c, -1, -1), s)
  | none => (.error (2, il), s)
def rv_sx (ap : Nat → Bool) (en : Nat → rv_V → Int → rv_I → rv_S → rv_O) (il : rv_I) (a b : rv_V) (s : rv_S) : rv_O := if ap a.2.1.toNat = false then (.error (5, il), s) else if s.1 = 100 then (.error (4, il), s) else en a.2.1.toNat b a.2.2 il s
def rv_bt (ap : Nat → Bool) (en : Nat → rv_V → Int → rv_I → rv_S → rv_O) : pt_T → rv_I → rv_S → rv_O := pt_rec
  (fun v _ s => (.ok ((v : Int), -1, -1), s))
  (fun v _ il s => (.ok ((s.2.1 (rv_j il) v).getD (0, -1, -1)), s))
  (fun g _ _ s => (.ok (0, (g : Int), -1), s))
  (fun _ il s => (.error (3, il), s))
  (fun f _ _ _ il s => (.ok (0, (f : Int), (rv_j il : Int)), s))
  (fun _ _ _ ra rb rc il s => rv_bd (ra il s) fun v s1 => if fa_wr v.1 = 0 then rc il s1 else rb il s1)
  (fun v _ _ _ ra rb il s => rv_bd (ra il s) fun a s1 => rb il (rv_put s1 (rv_j il) v a))
  (fun sg _ _ ra rb il s => rv_bd (ra il s) fun a s1 => rv_bd (rb il s1) fun b s2 => rv_oo sg il a.1 b.1 s2)
  (fun _ _ _ ra rb il s => rv_bd (ra il s) fun a s1 => rv_bd (rb il s1) fun b s2 => rv_sx ap en il a b s2)
  (fun il s => (.error (3, il), s))
def rv_ev (fb : Nat → pt_T) (ap : Nat → Bool) : Nat → pt_T → rv_I → rv_S → rv_O
  | 0 => rv_bt ap (fun _ _ _ il s => (.error (4, il), s))
  | d + 1 => rv_bt ap (fun f b up il s => rv_ev fb ap d (fb f) ((f, s.1 + 1) :: il) (rv_nw s f b up il.length))
def rv_en (fb : Nat → pt_T) (ap : Nat → Bool) : Nat → Nat → rv_V → Int → rv_I → rv_S → rv_O
  | 0 => fun _ _ _ il s => (.error (4, il), s)
  | d + 1 => fun f b up il s => rv_ev fb ap d (fb f) ((f, s.1 + 1) :: il) (rv_nw s f b up il.length)
theorem rv_ev_eq (fb : Nat → pt_T) (ap : Nat → Bool) (d : Nat) : rv_ev fb ap d = rv_bt ap (rv_en fb ap d) := by cases d <;> rfl
/-! what is free, the lets of an EXPR's own, homes -/
def rv_fv : pt_T → Nat → Prop := pt_rec (fun _ _ => False) (fun v _ u => u = v) (fun _ _ _ => False) (fun _ _ => False) (fun f _ _ r u => r u ∧ u ≠ f) (fun _ _ _ ra rb rc u => ra u ∨ rb u ∨ rc u) (fun v _ _ _ ra rb u => ra u ∨ (rb u ∧ u ≠ v)) (fun _ _ _ ra rb u => ra u ∨ rb u) (fun _ _ _ ra rb u => ra u ∨ rb u) (fun _ => False)
def rv_lv : pt_T → Nat → Prop := pt_rec (fun _ _ => False) (fun _ _ _ => False) (fun _ _ _ => False) (fun _ _ => False) (fun _ _ _ _ _ => False) (fun _ _ _ ra rb rc u => ra u ∨ rb u ∨ rc u) (fun v _ _ _ ra rb u => u = v ∨ ra u ∨ rb u) (fun _ _ _ ra rb u => ra u ∨ rb u) (fun _ _ _ ra rb u => ra u ∨ rb u) (fun _ => False)
def rv_hm (G : Nat) (hb ho : Nat → Int) : pt_T → Int → Prop := pt_rec (fun _ _ => True) (fun _ _ _ => True) (fun g _ _ => g < G) (fun _ _ => True) (fun f _ _ _ h => ho f = h ∧ h < (f : Int) ∧ G ≤ f) (fun _ _ _ ra rb rc h => ra h ∧ rb h ∧ rc h) (fun v _ _ _ ra rb h => hb v = h ∧ ra h ∧ rb h) (fun sg _ _ ra rb h => (sg = 42 ∨ sg = 43 ∨ sg = 45 ∨ sg = 47 ∨ sg = 60) ∧ ra h ∧ rb h) (fun _ _ _ ra rb h => ra h ∧ rb h) (fun _ => True)
theorem rv_lv_can {B : Nat} (t : pt_T) (tt : pt_tw t) : ∀ k k', pn_can B t k k' → ∀ v, rv_lv t v → 24 + k.2.1 ≤ v ∧ v < 24 + k'.2.1 := by
  induction t, tt using pt_indh with
  | num v => intro k k' _ v h; exact h.elim
  | var v x => intro k k' _ v h; exact h.elim
  | glo g x => intro k k' _ v h; exact h.elim
  | dead d => intro k k' _ v h; exact h.elim
  | lam f x b tb ih => intro k k' _ v h; exact h.elim
  | ife a b c ta tb tc iha ihb ihc =>
    intro k k' h v hv
    obtain ⟨k1, k2, k3, h1, h2, h3, rfl⟩ := h
    have m1 := (pn_mono a ta _ _ h1).2.1
    have m2 := (pn_mono b tb _ _ h2).2.1
    have m3 := (pn_mono c tc _ _ h3).2.1
    rcases hv with q | q | q
    · have := iha _ _ h1 v q; dsimp only; omega
    · have := ihb _ _ h2 v q; dsimp only; omega
    · have := ihc _ _ h3 v q; dsimp only; omega
  | lt u x a b ta tb iha ihb =>
    intro k k' h v hv
    obtain ⟨k1, k2, h1, e, h2, rfl⟩ := h
    have m1 := (pn_mono a ta _ _ h1).2.1
    have m2 := (pn_mono b tb _ _ h2).2.1
    dsimp only at m2
    rcases hv with q | q | q
    · dsimp only; omega
    · have := iha _ _ h1 v q; dsimp only; omega
    · have := ihb _ _ h2 v q; dsimp only at this ⊢; omega
  | op s a b ta tb iha ihb =>
    intro k k' h v hv
    obtain ⟨k1, k2, h1, h2, rfl⟩ := h
    have m1 := (pn_mono a ta _ _ h1).2.1
    have m2 := (pn_mono b tb _ _ h2).2.1
    rcases hv with q | q
    · have := iha _ _ h1 v q; dsimp only; omega
    · have := ihb _ _ h2 v q; dsimp only; omega
  | site s a b ta tb iha ihb =>
    intro k k' h v hv
    obtain ⟨k1, k2, h1, e, h2, rfl⟩ := h
    have m1 := (pn_mono a ta _ _ h1).2.1
    have m2 := (pn_mono b tb _ _ h2).2.1
    dsimp only at m2
    rcases hv with q | q
    · have := iha _ _ h1 v q; dsimp only; omega
    · have := ihb _ _ h2 v q; dsimp only at this ⊢; omega
/-! what holds of a run -/
def rv_PF (G nf nv ns : Nat) (fb : Nat → pt_T) (r : pv_R) (hb ho : Nat → Int) : Prop := ∀ f, f < nf → pt_tw (fb f) ∧ pf_T fb (fb f) ∧ pf_W nf nv ns (fb f) ∧ pv_S r (fb f) ∧ r.2.1 f = pv_ar (r.1 f) (pv_t r (fb f)) ∧ rv_hm G hb ho (fb f) (f : Int) ∧ hb f = (f : Int) ∧ (∃ k k', pn_can G (fb f) k k') ∧ (f < G → ∀ v, rv_fv (fb f) v → v = f) ∧ f < nv ∧ f < 24
def rv_TY (G nf : Nat) (fb : Nat → pt_T) (r : pv_R) (ho : Nat → Int) (s : rv_S) (a : rv_V) (T : pv_T) : Prop := (a.2.1 = -1 ∧ T = pv_int) ∨ ∃ f : Nat, f < nf ∧ a.2.1 = (f : Int) ∧ T = r.2.1 f ∧ ((f < G ∧ a.2.2 = -1) ∨ (G ≤ f ∧ ∃ j : Nat, j ≤ s.1 ∧ a.2.2 = (j : Int) ∧ s.2.2.1 j = ho f ∧ ho f < (f : Int) ∧ ∀ v, rv_fv (fb f) v → v ≠ f → s.2.1 j v ≠ none))
def rv_wk (fo fu : Nat → Int) : Nat → Nat → Int → Option Nat
  | 0, _, _ => none
  | z + 1, i, h => if fo i = h then some i else if fu i < 0 then none else rv_wk fo fu z (fu i).toNat h
def rv_ST (G nf nv : Nat) (fb : Nat → pt_T) (r : pv_R) (hb ho : Nat → Int) (s : rv_S) : Prop := (s.1 ≤ 100 ∧ s.2.2.2.2.2 ≤ s.1 ∧ s.2.2.2.2.1 < 2 ^ 24) ∧ (∀ i, i ≤ s.1 → -1 ≤ s.2.2.1 i ∧ s.2.2.1 i < (nf : Int) ∧ -1 ≤ s.2.2.2.1 i ∧ s.2.2.2.1 i < (i : Int)) ∧ ∀ i v a, s.2.1 i v = some a → i ≤ s.1 ∧ v < nv ∧ rv_TY G nf fb r ho s a (r.1 v) ∧ hb v ≤ s.2.2.1 i ∧ ∃ k, k ≤ s.1 ∧ rv_wk s.2.2.1 s.2.2.2.1 (i + 1) i (hb v) = some k ∧ s.2.2.1 k = hb v ∧ s.2.1 k v = some a
def rv_gr (s s' : rv_S) : Prop := s.1 ≤ s'.1 ∧ (∀ i, i ≤ s.1 → s'.2.2.1 i = s.2.2.1 i ∧ s'.2.2.2.1 i = s.2.2.2.1 i) ∧ ∀ i v a, s.2.1 i v = some a → s'.2.1 i v = some a
theorem rv_gr_refl (s : rv_S) : rv_gr s s := ⟨Nat.le_refl _, fun _ _ => ⟨rfl, rfl⟩, fun _ _ _ h => h⟩
theorem rv_gr_tr {a b c : rv_S} (h : rv_gr a b) (g : rv_gr b c) : rv_gr a c := ⟨Nat.le_trans h.1 g.1, fun i hi => by
  have e1 := h.2.1 i hi
  have e2 := g.2.1 i (Nat.le_trans hi h.1)
  exact ⟨e2.1.trans e1.1, e2.2.trans e1.2⟩, fun i v x q => g.2.2 i v x (h.2.2 i v x q)⟩
theorem rv_TY_gr {G nf : Nat} {fb : Nat → pt_T} {r : pv_R} {ho : Nat → Int} {s s' : rv_S} (g : rv_gr s s') {a : rv_V} {T : pv_T} (h : rv_TY G nf fb r ho s a T) : rv_TY G nf fb r ho s' a T := by
  rcases h with h | ⟨f, h1, h2, h3, h4⟩
  · exact Or.inl h
  · refine Or.inr ⟨f, h1, h2, h3, ?_⟩
    rcases h4 with h4 | ⟨h5, j, j1, j2, j3, j4, j5⟩
    · exact Or.inl h4
    · refine Or.inr ⟨h5, j, Nat.le_trans j1 g.1, j2, (g.2.1 j j1).1.trans j3, j4, fun v p q z => ?_⟩
      have := j5 v p q
      cases e : s.2.1 j v with
      | none => exact this e
      | some a => rw [g.2.2 j v a e] at z; cases z
theorem rv_wk_gr {fo fu fo' fu' : Nat → Int} {n : Nat} (hu : ∀ i, i ≤ n → fu i < (i : Int)) (e : ∀ i, i ≤ n → fo' i = fo i ∧ fu' i = fu i) : ∀ (z i : Nat) (h : Int), i ≤ n → rv_wk fo' fu' z i h = rv_wk fo fu z i h := by
  intro z
  induction z with
  | zero => intro i h _; rfl
  | succ z ih =>
    intro i h hi
    show (if fo' i = h then some i else if fu' i < 0 then none else rv_wk fo' fu' z (fu' i).toNat h) = if fo i = h then some i else if fu i < 0 then none else rv_wk fo fu z (fu i).toNat h
    rw [(e i hi).1, (e i hi).2]
    have := hu i hi
    by_cases c : fo i = h
    · rw [if_pos c, if_pos c]
    · rw [if_neg c, if_neg c]
      by_cases c2 : fu i < 0
      · rw [if_pos c2, if_pos c2]
      · rw [if_neg c2, if_neg c2]
        exact ih _ _ (by omega)
theorem rv_wk_more {fo fu : Nat → Int} : ∀ (z y i k : Nat) (h : Int), rv_wk fo fu z i h = some k → rv_wk fo fu (z + y) i h = some k := by
  intro z
  induction z with
  | zero => intro y i k h q; cases q
  | succ z ih =>
    intro y i k h q
    have e : z + 1 + y = (z + y) + 1 := by omega
    rw [e]
    change (if fo i = h then some i else if fu i < 0 then none else rv_wk fo fu z (fu i).toNat h) = some k at q
    show (if fo i = h then some i else if fu i < 0 then none else rv_wk fo fu (z + y) (fu i).toNat h) = some k
    by_cases c : fo i = h
    · rw [if_pos c] at q ⊢; exact q
    · rw [if_neg c] at q ⊢
      by_cases c2 : fu i < 0
      · rw [if_pos c2] at q; cases q
      · rw [if_neg c2] at q ⊢
        exact ih y _ k h q
