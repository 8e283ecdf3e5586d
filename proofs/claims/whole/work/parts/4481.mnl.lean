/-! TYPES for all nodes at once -/
def pm_nl (r : pv_R) : pt_T → List pv_T := pt_rec (fun _ => [pv_int]) (fun v _ => [r.1 v]) (fun g _ => [r.2.1 g]) (fun d => [r.2.2.1 d]) (fun f _ _ q => q ++ [r.2.1 f]) (fun _ tb _ qa qb qc => qa ++ qb ++ qc ++ [pv_t r tb]) (fun _ _ _ tb qa qb => qa ++ qb ++ [pv_t r tb]) (fun _ _ _ qa qb => qa ++ qb ++ [pv_int]) (fun s _ _ qa qb => qa ++ qb ++ [r.2.2.2 s]) []
theorem pm_nl_len (r : pv_R) (t : pt_T) (tt : pt_tw t) : (pm_nl r t).length = pt_sz t := by
  induction t, tt using pt_indh with
  | num v => rfl
  | var v x => rfl
  | glo g x => rfl
  | dead d => rfl
  | lam f x b tb ih =>
    show (pm_nl r b ++ [r.2.1 f]).length = pt_sz b + 1
    rw [List.length_append, ih]; rfl
  | ife ta tb tc wa wb wc iha ihb ihc =>
    show (pm_nl r ta ++ pm_nl r tb ++ pm_nl r tc ++ [pv_t r tb]).length = pt_sz ta + pt_sz tb + pt_sz tc + 1
    rw [List.length_append, List.length_append, List.length_append, iha, ihb, ihc]; rfl
  | lt v x ta tb wa wb iha ihb =>
    show (pm_nl r ta ++ pm_nl r tb ++ [pv_t r tb]).length = pt_sz ta + pt_sz tb + 1
    rw [List.length_append, List.length_append, iha, ihb]; rfl
  | op s ta tb wa wb iha ihb =>
    show (pm_nl r ta ++ pm_nl r tb ++ [pv_int]).length = pt_sz ta + pt_sz tb + 1
    rw [List.length_append, List.length_append, iha, ihb]; rfl
  | site s ta tb wa wb iha ihb =>
    show (pm_nl r ta ++ pm_nl r tb ++ [r.2.2.2 s]).length = pt_sz ta + pt_sz tb + 1
    rw [List.length_append, List.length_append, iha, ihb]; rfl
theorem pm_gl {A : Type} {l m : List A} {f : Nat → A} {n : Nat} (h : ∀ i, i < l.length + n → (l ++ m)[i]? = some (f i)) : (∀ i, i < l.length → l[i]? = some (f i)) ∧ ∀ i, i < n → m[i]? = some (f (l.length + i)) := by
  refine ⟨fun i hi => ?_, fun i hi => ?_⟩
  · have := h i (by omega)
    rw [List.getElem?_append_left hi] at this
    exact this
  · have := h (l.length + i) (by omega)
    rw [List.getElem?_append_right (by omega), show l.length + i - l.length = i by omega] at this
    exact this
theorem pm_nv_of {r : pv_R} (t : pt_T) (tt : pt_tw t) : ∀ (a : Nat) (val : Nat → pv_T), (∀ i, i < pt_sz t → (pm_nl r t)[i]? = some (val (125 + (a + i)))) → pm_nv r t a val := by
  have two : ∀ (ta tb : pt_T), pt_tw ta → pt_tw tb → ∀ (y : pv_T) (a : Nat) (val : Nat → pv_T), (∀ i, i < pt_sz ta + pt_sz tb + 1 → (pm_nl r ta ++ pm_nl r tb ++ [y])[i]? = some (val (125 + (a + i)))) → (∀ i, i < pt_sz ta → (pm_nl r ta)[i]? = some (val (125 + (a + i)))) ∧ (∀ i, i < pt_sz tb → (pm_nl r tb)[i]? = some (val (125 + (a + pt_sz ta + i)))) ∧ val (125 + (a + pt_sz ta + pt_sz tb)) = y := by
    intro ta tb wa wb y a val h
    have la := pm_nl_len r ta wa
    have lb := pm_nl_len r tb wb
    obtain ⟨g1, g2⟩ := pm_gl (n := 1) (f := fun i => val (125 + (a + i))) (fun i hi => h i (by rw [List.length_append, la, lb] at hi; exact hi))
    rw [List.length_append, la, lb] at g1 g2
    obtain ⟨g3, g4⟩ := pm_gl (n := pt_sz tb) (f := fun i => val (125 + (a + i))) (fun i hi => g1 i (by rw [la] at hi; exact hi))
    rw [la] at g3 g4
    refine ⟨g3, fun i hi => ?_, ?_⟩
    · rw [Nat.add_assoc a]; exact g4 i hi
    · have := g2 0 (by omega)
      injection this with this
      rw [Nat.add_assoc a]
      exact this.symm
  induction t, tt using pt_indh with
  | num v => intro a val h; have := h 0 Nat.zero_lt_one; injection this with this; exact this.symm
  | var v x => intro a val h; have := h 0 Nat.zero_lt_one; injection this with this; exact this.symm
  | glo g x => intro a val h; have := h 0 Nat.zero_lt_one; injection this with this; exact this.symm
  | dead d => intro a val h; have := h 0 Nat.zero_lt_one; injection this with this; exact this.symm
  | lam f x b tb ih =>
    intro a val h
    have lb := pm_nl_len r b tb
    obtain ⟨g1, g2⟩ := pm_gl (l := pm_nl r b) (m := [r.2.1 f]) (n := 1) (f := fun i => val (125 + (a + i))) (fun i hi => h i (by rw [lb] at hi; exact hi))
    rw [lb] at g1 g2
    refine ⟨ih a val g1, ?_⟩
    have := g2 0 (by omega)
    injection this with this
    exact this.symm
  | ife ta tb tc wa wb wc iha ihb ihc =>
    intro a val h
    have la := pm_nl_len r ta wa
    have lb := pm_nl_len r tb wb
    have lc := pm_nl_len r tc wc
    have h' : ∀ i, i < pt_sz ta + pt_sz tb + pt_sz tc + 1 → (pm_nl r ta ++ pm_nl r tb ++ pm_nl r tc ++ [pv_t r tb])[i]? = some (val (125 + (a + i))) := h
    obtain ⟨g1, g2⟩ := pm_gl (n := 1) (f := fun i => val (125 + (a + i))) (fun i hi => h' i (by rw [List.length_append, List.length_append, la, lb, lc] at hi; exact hi))
    rw [List.length_append, List.length_append, la, lb, lc] at g1 g2
    obtain ⟨g3, g4⟩ := pm_gl (n := pt_sz tc) (f := fun i => val (125 + (a + i))) (fun i hi => g1 i (by rw [List.length_append, la, lb] at hi; exact hi))
    rw [List.length_append, la, lb] at g3 g4
    obtain ⟨g5, g6⟩ := pm_gl (n := pt_sz tb) (f := fun i => val (125 + (a + i))) (fun i hi => g3 i (by rw [la] at hi; exact hi))
    rw [la] at g5 g6
    refine ⟨iha a val g5, ihb _ val (fun i hi => by rw [Nat.add_assoc a]; exact g6 i hi), ihc _ val (fun i hi => by rw [Nat.add_assoc a, Nat.add_assoc a]; exact g4 i hi), ?_⟩
    have := g2 0 (by omega)
    injection this with this
    rw [Nat.add_assoc a, Nat.add_assoc a]
    exact this.symm
  | lt v x ta tb wa wb iha ihb =>
    intro a val h
    obtain ⟨g1, g2, g3⟩ := two ta tb wa wb _ a val h
    exact ⟨iha a val g1, ihb _ val g2, g3⟩
  | op s ta tb wa wb iha ihb =>
    intro a val h
    obtain ⟨g1, g2, g3⟩ := two ta tb wa wb _ a val h
    exact ⟨iha a val g1, ihb _ val g2, g3⟩
  | site s ta tb wa wb iha ihb =>
    intro a val h
    obtain ⟨g1, g2, g3⟩ := two ta tb wa wb _ a val h
    exact ⟨iha a val g1, ihb _ val g2, g3⟩
/-- where LAMBDAS have their EXPRS -/
theorem pm_lam_bd {B : Nat} {w : fa_W} (t : pt_T) (tt : pt_tw t) : ∀ (h : Int) (k k' : pk_K) (a : Nat), pn_can B t k k' → pm_H t h a w → ∀ f, B + k.1 ≤ f → f < B + k'.1 → ∃ b : Nat, b < a + pt_sz t ∧ w 189 f = (b : Int) ∧ ∀ (r : pv_R) (val : Nat → pv_T), pv_S r t → pm_nv r t a val → r.2.1 f = pv_ar (r.1 f) (val (125 + b)) := by
  induction t, tt using pt_indh with
  | num v => intro h k k' a hc H f h1 h2; cases hc; omega
  | var v x => intro h k k' a hc H f h1 h2; cases hc; omega
  | glo g x => intro h k k' a hc H f h1 h2; cases hc; omega
  | dead d => intro h k k' a hc H f h1 h2; cases hc.2; omega
  | lam f0 x b tb ih =>
    intro h k k' a hc H f h1 h2
    obtain ⟨e, k1, c1, rfl⟩ := hc
    have sz : pt_sz (pt_lam f0 x b) = pt_sz b + 1 := rfl
    have pb := pt_sz_pos b
    by_cases z : f = f0
    · rw [z]
      refine ⟨a + pt_sz b - 1, by omega, H.2.2.2.1, fun r val hS nv => ?_⟩
      rw [pm_nv_root b tb a val nv.1]
      exact hS.2
    · obtain ⟨b', q1, q2, q3⟩ := ih _ _ _ a c1 H.1 f (by dsimp only; omega) h2
      exact ⟨b', by omega, q2, fun r val hS nv => q3 r val hS.1 nv.1⟩
  | ife ta tb tc wa wb wc iha ihb ihc =>
    intro h k k' a hc H f h1 h2
    obtain ⟨k1, k2, k3, c1, c2, c3, rfl⟩ := hc
    have sz : pt_sz (pt_ife ta tb tc) = pt_sz ta + pt_sz tb + pt_sz tc + 1 := rfl
    by_cases z : f < B + k1.1
    · obtain ⟨b', q1, q2, q3⟩ := iha _ _ _ _ c1 H.1 f h1 z
      exact ⟨b', by omega, q2, fun r val hS nv => q3 r val hS.1 nv.1⟩
    · by_cases z2 : f < B + k2.1
      · obtain ⟨b', q1, q2, q3⟩ := ihb _ _ _ _ c2 H.2.1 f (by omega) z2
        exact ⟨b', by omega, q2, fun r val hS nv => q3 r val hS.2.1 nv.2.1⟩
      · obtain ⟨b', q1, q2, q3⟩ := ihc _ _ _ _ c3 H.2.2.1 f (by omega) h2
        exact ⟨b', by omega, q2, fun r val hS nv => q3 r val hS.2.2.1 nv.2.2.1⟩
  | lt v x ta tb wa wb iha ihb =>
    intro h k k' a hc H f h1 h2
    obtain ⟨k1, k2, c1, e, c2, rfl⟩ := hc
    have sz : pt_sz (pt_let v x ta tb) = pt_sz ta + pt_sz tb + 1 := rfl
    by_cases z : f < B + k1.1
    · obtain ⟨b', q1, q2, q3⟩ := iha _ _ _ _ c1 H.1 f h1 z
      exact ⟨b', by omega, q2, fun r val hS nv => q3 r val hS.1 nv.1⟩
    · obtain ⟨b', q1, q2, q3⟩ := ihb _ _ _ _ c2 H.2.1 f (by dsimp only; omega) h2
      exact ⟨b', by omega, q2, fun r val hS nv => q3 r val hS.2.1 nv.2.1⟩
  | op s ta tb wa wb iha ihb =>
    intro h k k' a hc H f h1 h2
    obtain ⟨k1, k2, c1, c2, rfl⟩ := hc
    have sz : pt_sz (pt_op s ta tb) = pt_sz ta + pt_sz tb + 1 := rfl
    by_cases z : f < B + k1.1
    · obtain ⟨b', q1, q2, q3⟩ := iha _ _ _ _ c1 H.1 f h1 z
      exact ⟨b', by omega, q2, fun r val hS nv => q3 r val hS.1 nv.1⟩
    · obtain ⟨b', q1, q2, q3⟩ := ihb _ _ _ _ c2 H.2.1 f (by omega) h2
      exact ⟨b', by omega, q2, fun r val hS nv => q3 r val hS.2.1 nv.2.1⟩
  | site s ta tb wa wb iha ihb =>
    intro h k k' a hc H f h1 h2
    obtain ⟨k1, k2, c1, e, c2, rfl⟩ := hc
    have sz : pt_sz (pt_site s ta tb) = pt_sz ta + pt_sz tb + 1 := rfl
    by_cases z : f < B + k1.1
    · obtain ⟨b', q1, q2, q3⟩ := iha _ _ _ _ c1 H.1 f h1 z
      exact ⟨b', by omega, q2, fun r val hS nv => q3 r val hS.1 nv.1⟩
    · obtain ⟨b', q1, q2, q3⟩ := ihb _ _ _ _ c2 H.2.1 f (by dsimp only; omega) h2
      exact ⟨b', by omega, q2, fun r val hS nv => q3 r val hS.2.1 nv.2.1⟩
/-- the reference's program, item by item -/
def pm_L (gs : ps_G) (t : pt_T) : List Nat → Nat → fa_W → Prop
  | [], _, _ => True
  | g :: r, a, w => pm_H (pn_tr gs t g) (pn_ow gs.length g) a w ∧ (g < gs.length → w 189 g = ((a + pt_sz (pn_tr gs t g) - 1 : Nat) : Int)) ∧ pm_L gs t r (a + pt_sz (pn_tr gs t g)) w
theorem pm_L_ob {gs : ps_G} {t : pt_T} {w w' : fa_W} (hf : pm_ob w w') (ht : ∀ g, pt_tw (pn_tr gs t g)) : ∀ (os : List Nat) (a : Nat), pm_L gs t os a w → pm_L gs t os a w' := by
  intro os
  induction os with
  | nil => intro a _; trivial
  | cons g r ih =>
    intro a H
    exact ⟨pm_H_ob hf _ (ht g) _ _ H.1, fun hg => by rw [hf _ _ (by omega) (by omega)]; exact H.2.1 hg, ih _ H.2.2⟩
theorem pm_nv_L {r : pv_R} {gs : ps_G} {t : pt_T} (ht : ∀ g, pt_tw (pn_tr gs t g)) : ∀ (os : List Nat) (a : Nat) (val : Nat → pv_T), (∀ i, i < pn_os gs t os → (os.flatMap (fun g => pm_nl r (pn_tr gs t g)))[i]? = some (val (125 + (a + i)))) → ∀ (o1 : List Nat) (g : Nat) (o2 : List Nat), os = o1 ++ g :: o2 → pm_nv r (pn_tr gs t g) (a + pn_os gs t o1) val := by
  intro os
  induction os with
  | nil => intro a val _ o1 g o2 e; cases o1 <;> cases e
  | cons x q ih =>
    intro a val h o1 g o2 e
    have lx := pm_nl_len r _ (ht x)
    rw [List.flatMap_cons] at h
    obtain ⟨g1, g2⟩ := pm_gl (n := pn_os gs t q) (f := fun i => val (125 + (a + i))) (fun i hi => h i (by rw [lx] at hi; exact hi))
    rw [lx] at g1 g2
    cases o1 with
    | nil =>
      rw [List.nil_append] at e
      injection e with e1 e2
      rw [← e1]
      exact pm_nv_of _ (ht x) a val g1
    | cons y o1 =>
      rw [List.cons_append] at e
      injection e with e1 e2
      have := ih (a + pt_sz (pn_tr gs t x)) val (fun i hi => by rw [Nat.add_assoc a]; exact g2 i hi) o1 g o2 e2
      rw [← e1]
      show pm_nv r (pn_tr gs t g) (a + (pt_sz (pn_tr gs t x) + pn_os gs t o1)) val
      rw [← Nat.add_assoc]
      exact this
