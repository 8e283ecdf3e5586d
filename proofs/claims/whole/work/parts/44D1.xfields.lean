/-! FIELDS by the class: a walk through the THINGS of an EXPR -/
def pd_rv : pt_T → Option Nat := pt_rec (fun _ => none) (fun v _ => some v) (fun _ _ => none) (fun _ => none) (fun _ _ _ _ => none) (fun _ _ _ _ _ _ => none) (fun _ _ _ _ _ _ => none) (fun _ _ _ _ _ => none) (fun _ _ _ _ _ => none) none
def pd_rb : pt_T → Option Nat := pt_rec (fun _ => none) (fun _ _ => none) (fun _ _ => none) (fun _ => none) (fun f _ _ _ => some f) (fun _ _ _ _ _ _ => none) (fun v _ _ _ _ _ => some v) (fun _ _ _ _ _ => none) (fun _ _ _ _ _ => none) none
def pd_hd (tb : pf_TB) (j : Nat) : List Nat := match pd_rv (tb j).2.1 with | some v => [v] | none => []
def pd_oi (tb : pf_TB) : Nat → Nat → List Nat
  | _, 0 => []
  | j, d + 1 => pd_hd tb j ++ pd_oi tb (j + 1) d
theorem pd_oi_app (tb : pf_TB) (e : Nat) : ∀ (d j : Nat), pd_oi tb j (d + e) = pd_oi tb j d ++ pd_oi tb (j + d) e := by
  intro d
  induction d with
  | zero => intro j; rw [Nat.zero_add, Nat.add_zero]; rfl
  | succ d ih =>
    intro j
    rw [show d + 1 + e = (d + e) + 1 by omega]
    show pd_hd tb j ++ pd_oi tb (j + 1) (d + e) = pd_hd tb j ++ pd_oi tb (j + 1) d ++ pd_oi tb (j + (d + 1)) e
    rw [ih (j + 1), List.append_assoc, show j + 1 + d = j + (d + 1) by omega]
theorem pd_oi_1 {tb : pf_TB} {j c : Nat} {h : Int} {u : pt_T} (e : tb j = (h, u, c)) : pd_oi tb j 1 = match pd_rv u with | some v => [v] | none => [] := by
  show pd_hd tb j ++ [] = _
  rw [List.append_nil]
  unfold pd_hd
  rw [e]
theorem pd_oc_oi {tb : pf_TB} (t : pt_T) (tt : pt_tw t) : ∀ (h : Int) (a : Nat), pf_N tb t h a → pd_oc t = pd_oi tb a (pt_sz t) := by
  induction t, tt using pt_indh with
  | num v => intro h a H; exact (pd_oi_1 H).symm
  | var v x => intro h a H; exact (pd_oi_1 H).symm
  | glo g x => intro h a H; exact (pd_oi_1 H).symm
  | dead d => intro h a H; exact (pd_oi_1 H).symm
  | lam f x b wb ih =>
    intro h a H
    rw [show pt_sz (pt_lam f x b) = pt_sz b + 1 from rfl, pd_oi_app, pd_oi_1 H.2, ← ih _ _ H.1]
    exact (List.append_nil _).symm
  | ife ta t2 tc wa wb wc iha ihb ihc =>
    intro h a H
    rw [show pt_sz (pt_ife ta t2 tc) = pt_sz ta + pt_sz t2 + pt_sz tc + 1 from rfl, pd_oi_app, show a + (pt_sz ta + pt_sz t2 + pt_sz tc) = a + pt_sz ta + pt_sz t2 + pt_sz tc by omega, pd_oi_1 H.2.2.2, pd_oi_app, pd_oi_app, ← iha _ _ H.1, ← ihb _ _ H.2.1, show a + (pt_sz ta + pt_sz t2) = a + pt_sz ta + pt_sz t2 by omega, ← ihc _ _ H.2.2.1]
    show pd_oc ta ++ (pd_oc t2 ++ pd_oc tc) = pd_oc ta ++ pd_oc t2 ++ pd_oc tc ++ []
    rw [List.append_nil, List.append_assoc]
  | lt v x ta t2 wa wb iha ihb =>
    intro h a H
    rw [show pt_sz (pt_let v x ta t2) = pt_sz ta + pt_sz t2 + 1 from rfl, pd_oi_app, show a + (pt_sz ta + pt_sz t2) = a + pt_sz ta + pt_sz t2 by omega, pd_oi_1 H.2.2, pd_oi_app, ← iha _ _ H.1, ← ihb _ _ H.2.1]
    exact (List.append_nil _).symm
  | op s ta t2 wa wb iha ihb =>
    intro h a H
    rw [show pt_sz (pt_op s ta t2) = pt_sz ta + pt_sz t2 + 1 from rfl, pd_oi_app, show a + (pt_sz ta + pt_sz t2) = a + pt_sz ta + pt_sz t2 by omega, pd_oi_1 H.2.2, pd_oi_app, ← iha _ _ H.1, ← ihb _ _ H.2.1]
    exact (List.append_nil _).symm
  | site s ta t2 wa wb iha ihb =>
    intro h a H
    rw [show pt_sz (pt_site s ta t2) = pt_sz ta + pt_sz t2 + 1 from rfl, pd_oi_app, show a + (pt_sz ta + pt_sz t2) = a + pt_sz ta + pt_sz t2 by omega, pd_oi_1 H.2.2, pd_oi_app, ← iha _ _ H.1, ← ihb _ _ H.2.1]
    exact (List.append_nil _).symm
/-- a binder in the range of an EXPR is one of the EXPR's -/
theorem pd_rb_in {tb : pf_TB} (t : pt_T) (tt : pt_tw t) : ∀ (h : Int) (a : Nat), pf_N tb t h a → ∀ i, a ≤ i → i < a + pt_sz t → ∀ v, pd_rb (tb i).2.1 = some v → v ∈ pd_bl t := by
  induction t, tt using pt_indh with
  | num n => intro h a H i p q v e; have s : pt_sz (pt_num n) = 1 := rfl; rw [show i = a by omega, H] at e; cases e
  | var u x => intro h a H i p q v e; have s : pt_sz (pt_var u x) = 1 := rfl; rw [show i = a by omega, H] at e; cases e
  | glo g x => intro h a H i p q v e; have s : pt_sz (pt_glo g x) = 1 := rfl; rw [show i = a by omega, H] at e; cases e
  | dead d => intro h a H i p q v e; have s : pt_sz (pt_dead d) = 1 := rfl; rw [show i = a by omega, H] at e; cases e
  | lam f x b wb ih =>
    intro h a H i p q v e
    have s : pt_sz (pt_lam f x b) = pt_sz b + 1 := rfl
    by_cases z : i = a + pt_sz b
    · rw [z, H.2] at e
      have e' : some f = some v := e
      cases e'
      exact List.mem_cons_self ..
    · exact List.mem_cons_of_mem _ (ih _ _ H.1 i p (by omega) v e)
  | ife ta t2 tc wa wb wc iha ihb ihc =>
    intro h a H i p q v e
    have s : pt_sz (pt_ife ta t2 tc) = pt_sz ta + pt_sz t2 + pt_sz tc + 1 := rfl
    by_cases z : i = a + pt_sz ta + pt_sz t2 + pt_sz tc
    · rw [z, H.2.2.2] at e; cases e
    · by_cases z1 : i < a + pt_sz ta
      · exact List.mem_append_left _ (iha _ _ H.1 i p z1 v e)
      · by_cases z2 : i < a + pt_sz ta + pt_sz t2
        · exact List.mem_append_right _ (List.mem_append_left _ (ihb _ _ H.2.1 i (by omega) z2 v e))
        · exact List.mem_append_right _ (List.mem_append_right _ (ihc _ _ H.2.2.1 i (by omega) (by omega) v e))
  | lt u x ta t2 wa wb iha ihb =>
    intro h a H i p q v e
    have s : pt_sz (pt_let u x ta t2) = pt_sz ta + pt_sz t2 + 1 := rfl
    by_cases z : i = a + pt_sz ta + pt_sz t2
    · rw [z, H.2.2] at e
      have e' : some u = some v := e
      cases e'
      exact List.mem_cons_self ..
    · by_cases z1 : i < a + pt_sz ta
      · exact List.mem_cons_of_mem _ (List.mem_append_left _ (iha _ _ H.1 i p z1 v e))
      · exact List.mem_cons_of_mem _ (List.mem_append_right _ (ihb _ _ H.2.1 i (by omega) (by omega) v e))
  | op r ta t2 wa wb iha ihb =>
    intro h a H i p q v e
    have s : pt_sz (pt_op r ta t2) = pt_sz ta + pt_sz t2 + 1 := rfl
    by_cases z : i = a + pt_sz ta + pt_sz t2
    · rw [z, H.2.2] at e; cases e
    · by_cases z1 : i < a + pt_sz ta
      · exact List.mem_append_left _ (iha _ _ H.1 i p z1 v e)
      · exact List.mem_append_right _ (ihb _ _ H.2.1 i (by omega) (by omega) v e)
  | site r ta t2 wa wb iha ihb =>
    intro h a H i p q v e
    have s : pt_sz (pt_site r ta t2) = pt_sz ta + pt_sz t2 + 1 := rfl
    by_cases z : i = a + pt_sz ta + pt_sz t2
    · rw [z, H.2.2] at e; cases e
    · by_cases z1 : i < a + pt_sz ta
      · exact List.mem_append_left _ (iha _ _ H.1 i p z1 v e)
      · exact List.mem_append_right _ (ihb _ _ H.2.1 i (by omega) (by omega) v e)
/-- where the class keeps a binder, and its name -/
theorem pd_bi_at {o nf nv ns : Nat} {ins : List Nat} {w : fa_W} {tb : pf_TB} (h24 : nf ≤ 24) (hnv : nf ≤ nv) (t : pt_T) (tt : pt_tw t) : ∀ (h : Int) (a : Nat), pf_N tb t h a → px_P o ins t h a w → pf_W nf nv ns t → ∀ v y, pd_bn t v y → v < nv ∧ w (o + 14) (px_xi ins v) = (y : Int) ∧ ∃ i, a ≤ i ∧ i < a + pt_sz t ∧ w (o + 16) (px_xi ins v) = (i : Int) ∧ pd_rb (tb i).2.1 = some v := by
  induction t, tt using pt_indh with
  | num n => intro h a _ _ _ v y k; exact False.elim k
  | var u x => intro h a _ _ _ v y k; exact False.elim k
  | glo g x => intro h a _ _ _ v y k; exact False.elim k
  | dead d => intro h a _ _ _ v y k; exact False.elim k
  | lam f x b wb ih =>
    intro h a N H W v y k
    have s : pt_sz (pt_lam f x b) = pt_sz b + 1 := rfl
    rcases k with ⟨k1, k2⟩ | k
    · rw [k1, k2]
      have ef : px_xi ins f = f := by unfold px_xi; exact if_pos (by have := W.1; omega)
      rw [ef]
      have f1 := W.1
      exact ⟨by omega, H.2.2.1, a + pt_sz b, by omega, by omega, H.2.2.2.1, by rw [N.2]; rfl⟩
    · obtain ⟨i1, i2, i, i3, i4, i5⟩ := ih _ _ N.1 H.1 W.2 v y k
      exact ⟨i1, i2, i, i3, by omega, i5⟩
  | ife ta t2 tc wa wb wc iha ihb ihc =>
    intro h a N H W v y k
    have s : pt_sz (pt_ife ta t2 tc) = pt_sz ta + pt_sz t2 + pt_sz tc + 1 := rfl
    rcases k with k | k | k
    · obtain ⟨i1, i2, i, i3, i4, i5⟩ := iha _ _ N.1 H.1 W.1 v y k
      exact ⟨i1, i2, i, by omega, by omega, i5⟩
    · obtain ⟨i1, i2, i, i3, i4, i5⟩ := ihb _ _ N.2.1 H.2.1 W.2.1 v y k
      exact ⟨i1, i2, i, by omega, by omega, i5⟩
    · obtain ⟨i1, i2, i, i3, i4, i5⟩ := ihc _ _ N.2.2.1 H.2.2.1 W.2.2 v y k
      exact ⟨i1, i2, i, by omega, by omega, i5⟩
  | lt u x ta t2 wa wb iha ihb =>
    intro h a N H W v y k
    have s : pt_sz (pt_let u x ta t2) = pt_sz ta + pt_sz t2 + 1 := rfl
    rcases k with ⟨k1, k2⟩ | k | k
    · rw [k1, k2]
      exact ⟨W.1, H.2.2.2.1, a + pt_sz ta + pt_sz t2, by omega, by omega, H.2.2.2.2, by rw [N.2.2]; rfl⟩
    · obtain ⟨i1, i2, i, i3, i4, i5⟩ := iha _ _ N.1 H.1 W.2.1 v y k
      exact ⟨i1, i2, i, by omega, by omega, i5⟩
    · obtain ⟨i1, i2, i, i3, i4, i5⟩ := ihb _ _ N.2.1 H.2.1 W.2.2 v y k
      exact ⟨i1, i2, i, by omega, by omega, i5⟩
  | op r ta t2 wa wb iha ihb =>
    intro h a N H W v y k
    have s : pt_sz (pt_op r ta t2) = pt_sz ta + pt_sz t2 + 1 := rfl
    rcases k with k | k
    · obtain ⟨i1, i2, i, i3, i4, i5⟩ := iha _ _ N.1 H.1 W.1 v y k
      exact ⟨i1, i2, i, by omega, by omega, i5⟩
    · obtain ⟨i1, i2, i, i3, i4, i5⟩ := ihb _ _ N.2.1 H.2.1 W.2 v y k
      exact ⟨i1, i2, i, by omega, by omega, i5⟩
  | site r ta t2 wa wb iha ihb =>
    intro h a N H W v y k
    have s : pt_sz (pt_site r ta t2) = pt_sz ta + pt_sz t2 + 1 := rfl
    rcases k with k | k
    · obtain ⟨i1, i2, i, i3, i4, i5⟩ := iha _ _ N.1 H.1 W.2.1 v y k
      exact ⟨i1, i2, i, by omega, by omega, i5⟩
    · obtain ⟨i1, i2, i, i3, i4, i5⟩ := ihb _ _ N.2.1 H.2.1 W.2.2 v y k
      exact ⟨i1, i2, i, by omega, by omega, i5⟩
