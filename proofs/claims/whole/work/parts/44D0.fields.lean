/-! FIELDS as they are told: VARS that stand in an EXPR and are bound outside it -/
def pd_oc : pt_T → List Nat := pt_rec (fun _ => []) (fun v _ => [v]) (fun _ _ => []) (fun _ => []) (fun _ _ _ r => r) (fun _ _ _ ra rb rc => ra ++ (rb ++ rc)) (fun _ _ _ _ ra rb => ra ++ rb) (fun _ _ _ ra rb => ra ++ rb) (fun _ _ _ ra rb => ra ++ rb) []
def pd_bl : pt_T → List Nat := pt_rec (fun _ => []) (fun _ _ => []) (fun _ _ => []) (fun _ => []) (fun f _ _ r => f :: r) (fun _ _ _ ra rb rc => ra ++ (rb ++ rc)) (fun v _ _ _ ra rb => v :: (ra ++ rb)) (fun _ _ _ ra rb => ra ++ rb) (fun _ _ _ ra rb => ra ++ rb) []
/-- the binder of a name, where it is bound -/
def pd_bn : pt_T → Nat → Nat → Prop := pt_rec (fun _ _ _ => False) (fun _ _ _ _ => False) (fun _ _ _ _ => False) (fun _ _ _ => False) (fun f x _ r u y => (u = f ∧ y = x) ∨ r u y) (fun _ _ _ ra rb rc u y => ra u y ∨ rb u y ∨ rc u y) (fun v x _ _ ra rb u y => (u = v ∧ y = x) ∨ ra u y ∨ rb u y) (fun _ _ _ ra rb u y => ra u y ∨ rb u y) (fun _ _ _ ra rb u y => ra u y ∨ rb u y) (fun _ _ => False)
def pd_ad (p : Nat → Bool) (acc : List Nat) (v : Nat) : List Nat := if p v = true ∨ v ∈ acc then acc else acc ++ [v]
def pd_in (f : Nat) (t : pt_T) (v : Nat) : Bool := decide (v = f ∨ v ∈ pd_bl t)
def pd_fl (f : Nat) (t : pt_T) : List Nat := (pd_oc t).foldl (pd_ad (pd_in f t)) []
theorem pb_nodup1 (v : Nat) : [v].Nodup := by simp
theorem pd_fold_mem (p : Nat → Bool) (Q : Nat → Prop) : ∀ (l acc : List Nat), (∀ v ∈ acc, Q v) → (∀ v ∈ l, Q v) → ∀ v ∈ l.foldl (pd_ad p) acc, Q v := by
  intro l
  induction l with
  | nil => intro acc ha _; exact ha
  | cons x r ih =>
    intro acc ha hl
    refine ih _ ?_ (fun v hv => hl v (List.mem_cons_of_mem _ hv))
    unfold pd_ad
    split
    · exact ha
    · intro v hv
      rcases List.mem_append.mp hv with hv | hv
      · exact ha v hv
      · rw [List.mem_singleton] at hv; rw [hv]; exact hl x (List.mem_cons_self ..)
theorem pd_ad_nodup (p : Nat → Bool) {acc : List Nat} (h : acc.Nodup) (v : Nat) : (pd_ad p acc v).Nodup := by
  unfold pd_ad
  split
  · exact h
  · rename_i c
    rw [List.nodup_append]
    refine ⟨h, pb_nodup1 v, fun a ha b hb e => ?_⟩
    rw [List.mem_singleton] at hb
    exact c (Or.inr (by rw [← hb, ← e]; exact ha))
theorem pd_fold_nodup (p : Nat → Bool) : ∀ (l acc : List Nat), acc.Nodup → (l.foldl (pd_ad p) acc).Nodup := by
  intro l
  induction l with
  | nil => intro acc ha; exact ha
  | cons x r ih => intro acc ha; exact ih _ (pd_ad_nodup p ha x)
theorem pd_fold_cong {p q : Nat → Bool} : ∀ (l acc : List Nat), (∀ v ∈ l, p v = q v) → l.foldl (pd_ad p) acc = l.foldl (pd_ad q) acc := by
  intro l
  induction l with
  | nil => intro acc _; rfl
  | cons x r ih =>
    intro acc h
    have e : pd_ad p acc x = pd_ad q acc x := by unfold pd_ad; rw [h x (List.mem_cons_self ..)]
    show r.foldl (pd_ad p) (pd_ad p acc x) = r.foldl (pd_ad q) (pd_ad q acc x)
    rw [e]
    exact ih _ (fun v hv => h v (List.mem_cons_of_mem _ hv))
theorem pb_nodup_le : ∀ (n : Nat) (l : List Nat), l.Nodup → (∀ v ∈ l, v < n) → l.length ≤ n := by
  intro n
  induction n with
  | zero =>
    intro l _ h
    cases l with
    | nil => exact Nat.le_refl _
    | cons x r => have := h x (List.mem_cons_self ..); omega
  | succ n ih =>
    intro l hn h
    by_cases c : n ∈ l
    · have e := List.length_erase_of_mem c
      have := ih (l.erase n) (hn.erase n) (fun v hv => by
        have a := (hn.mem_erase_iff).mp hv
        have := h v a.2
        have := a.1
        omega)
      have pp := List.length_pos_of_mem c
      omega
    · have := ih l hn (fun v hv => by
        have := h v hv
        have : v ≠ n := fun e => c (e ▸ hv)
        omega)
      omega
theorem pd_fl_nodup (f : Nat) (t : pt_T) : (pd_fl f t).Nodup := pd_fold_nodup _ _ _ List.nodup_nil
theorem pd_fl_oc {f : Nat} {t : pt_T} {v : Nat} (h : v ∈ pd_fl f t) : v ∈ pd_oc t := pd_fold_mem _ (fun v => v ∈ pd_oc t) _ _ (fun v hv => by cases hv) (fun v hv => hv) v h
theorem pd_bn_bl (t : pt_T) (tt : pt_tw t) : ∀ u y, pd_bn t u y → u ∈ pd_bl t := by
  induction t, tt using pt_indh with
  | num v => intro u y k; exact False.elim k
  | var v x => intro u y k; exact False.elim k
  | glo g x => intro u y k; exact False.elim k
  | dead d => intro u y k; exact False.elim k
  | lam f x b tb ih =>
    intro u y k
    rcases k with ⟨k, _⟩ | k
    · rw [k]; exact List.mem_cons_self ..
    · exact List.mem_cons_of_mem _ (ih u y k)
  | ife a b c ta tb tc iha ihb ihc =>
    intro u y k
    rcases k with k | k | k
    · exact List.mem_append_left _ (iha u y k)
    · exact List.mem_append_right _ (List.mem_append_left _ (ihb u y k))
    · exact List.mem_append_right _ (List.mem_append_right _ (ihc u y k))
  | lt v x a b ta tb iha ihb =>
    intro u y k
    rcases k with ⟨k, _⟩ | k | k
    · rw [k]; exact List.mem_cons_self ..
    · exact List.mem_cons_of_mem _ (List.mem_append_left _ (iha u y k))
    · exact List.mem_cons_of_mem _ (List.mem_append_right _ (ihb u y k))
  | op s a b ta tb iha ihb =>
    intro u y k
    rcases k with k | k
    · exact List.mem_append_left _ (iha u y k)
    · exact List.mem_append_right _ (ihb u y k)
  | site s a b ta tb iha ihb =>
    intro u y k
    rcases k with k | k
    · exact List.mem_append_left _ (iha u y k)
    · exact List.mem_append_right _ (ihb u y k)
theorem pd_bl_bn (t : pt_T) (tt : pt_tw t) : ∀ u, u ∈ pd_bl t → ∃ y, pd_bn t u y := by
  induction t, tt using pt_indh with
  | num v => intro u k; cases k
  | var v x => intro u k; cases k
  | glo g x => intro u k; cases k
  | dead d => intro u k; cases k
  | lam f x b tb ih =>
    intro u k
    rcases List.mem_cons.mp k with k | k
    · exact ⟨x, Or.inl ⟨k, rfl⟩⟩
    · obtain ⟨y, h⟩ := ih u k; exact ⟨y, Or.inr h⟩
  | ife a b c ta tb tc iha ihb ihc =>
    intro u k
    rcases List.mem_append.mp k with k | k
    · obtain ⟨y, h⟩ := iha u k; exact ⟨y, Or.inl h⟩
    · rcases List.mem_append.mp k with k | k
      · obtain ⟨y, h⟩ := ihb u k; exact ⟨y, Or.inr (Or.inl h)⟩
      · obtain ⟨y, h⟩ := ihc u k; exact ⟨y, Or.inr (Or.inr h)⟩
  | lt v x a b ta tb iha ihb =>
    intro u k
    rcases List.mem_cons.mp k with k | k
    · exact ⟨x, Or.inl ⟨k, rfl⟩⟩
    · rcases List.mem_append.mp k with k | k
      · obtain ⟨y, h⟩ := iha u k; exact ⟨y, Or.inr (Or.inl h)⟩
      · obtain ⟨y, h⟩ := ihb u k; exact ⟨y, Or.inr (Or.inr h)⟩
  | op s a b ta tb iha ihb =>
    intro u k
    rcases List.mem_append.mp k with k | k
    · obtain ⟨y, h⟩ := iha u k; exact ⟨y, Or.inl h⟩
    · obtain ⟨y, h⟩ := ihb u k; exact ⟨y, Or.inr h⟩
  | site s a b ta tb iha ihb =>
    intro u k
    rcases List.mem_append.mp k with k | k
    · obtain ⟨y, h⟩ := iha u k; exact ⟨y, Or.inl h⟩
    · obtain ⟨y, h⟩ := ihb u k; exact ⟨y, Or.inr h⟩
/-- a VAR that stands somewhere is bound there or in the scope -/
theorem pd_lk_mem : ∀ (sc : List (Nat × Nat)) (x v : Nat), ps_lk sc x = some v → ∃ b ∈ sc, b.1 = v := by
  intro sc
  induction sc with
  | nil => intro x v h; cases h
  | cons b r ih =>
    intro x v h
    change (if b.2 = x then some b.1 else ps_lk r x) = some v at h
    by_cases e : b.2 = x
    · rw [if_pos e] at h
      cases h
      exact ⟨b, List.mem_cons_self .., rfl⟩
    · rw [if_neg e] at h
      obtain ⟨c, c1, c2⟩ := ih x v h
      exact ⟨c, List.mem_cons_of_mem _ c1, c2⟩
theorem pd_oc_bd (t : pt_T) (tt : pt_tw t) : ∀ (gl : List Nat) (sc : List (Nat × Nat)), pk_wfs t gl sc → ∀ v ∈ pd_oc t, v ∈ pd_bl t ∨ ∃ b ∈ sc, b.1 = v := by
  induction t, tt using pt_indh with
  | num v => intro gl sc _ u k; cases k
  | var v x =>
    intro gl sc h u k
    rw [show u = v from List.mem_singleton.mp k]
    exact Or.inr (pd_lk_mem sc x v h.1)
  | glo g x => intro gl sc _ u k; cases k
  | dead d => intro gl sc _ u k; cases k
  | lam f x b tb ih =>
    intro gl sc h u k
    rcases ih gl _ h.2 u k with q | ⟨c, c1, c2⟩
    · exact Or.inl (List.mem_cons_of_mem _ q)
    · rcases List.mem_cons.mp c1 with c1 | c1
      · rw [c1] at c2; rw [← c2]; exact Or.inl (List.mem_cons_self ..)
      · exact Or.inr ⟨c, c1, c2⟩
  | ife a b c ta tb tc iha ihb ihc =>
    intro gl sc h u k
    rcases List.mem_append.mp k with k | k
    · exact (iha gl sc h.1 u k).imp (fun q => List.mem_append_left _ q) id
    · rcases List.mem_append.mp k with k | k
      · exact (ihb gl sc h.2.1 u k).imp (fun q => List.mem_append_right _ (List.mem_append_left _ q)) id
      · exact (ihc gl sc h.2.2 u k).imp (fun q => List.mem_append_right _ (List.mem_append_right _ q)) id
  | lt v x a b ta tb iha ihb =>
    intro gl sc h u k
    rcases List.mem_append.mp k with k | k
    · exact (iha gl sc h.2.1 u k).imp (fun q => List.mem_cons_of_mem _ (List.mem_append_left _ q)) id
    · rcases ihb gl _ h.2.2 u k with q | ⟨c, c1, c2⟩
      · exact Or.inl (List.mem_cons_of_mem _ (List.mem_append_right _ q))
      · rcases List.mem_cons.mp c1 with c1 | c1
        · rw [c1] at c2; rw [← c2]; exact Or.inl (List.mem_cons_self ..)
        · exact Or.inr ⟨c, c1, c2⟩
  | op s a b ta tb iha ihb =>
    intro gl sc h u k
    rcases List.mem_append.mp k with k | k
    · exact (iha gl sc h.2.1 u k).imp (fun q => List.mem_append_left _ q) id
    · exact (ihb gl sc h.2.2 u k).imp (fun q => List.mem_append_right _ q) id
  | site s a b ta tb iha ihb =>
    intro gl sc h u k
    rcases List.mem_append.mp k with k | k
    · exact (iha gl sc h.1 u k).imp (fun q => List.mem_append_left _ q) id
    · exact (ihb gl sc h.2 u k).imp (fun q => List.mem_append_right _ q) id
/-- what stands in a LAMBDA's EXPR stands in what the LAMBDA lies in -/
theorem pd_sub {B : Nat} {fb : Nat → pt_T} (t : pt_T) (tt : pt_tw t) : ∀ (k k' : pk_K), pn_can B t k k' → pf_T fb t → ∀ f, B + k.1 ≤ f → f < B + k'.1 → (∀ v ∈ pd_oc (fb f), v ∈ pd_oc t) ∧ (∀ u y, pd_bn (fb f) u y → pd_bn t u y) ∧ ∃ y, pd_bn t f y := by
  induction t, tt using pt_indh with
  | num v => intro k k' h _ f a b; cases h; dsimp only at b; omega
  | var v x => intro k k' h _ f a b; cases h; dsimp only at b; omega
  | glo g x => intro k k' h _ f a b; cases h; dsimp only at b; omega
  | dead d => intro k k' h _ f a b; cases h.2; dsimp only at b; omega
  | lam f0 x b tb ih =>
    intro k k' h hT f p q
    obtain ⟨ef, k1, h1, rfl⟩ := h
    by_cases z : f = f0
    · rw [z, hT.2]
      exact ⟨fun v hv => hv, fun u y h => Or.inr h, x, Or.inl ⟨rfl, rfl⟩⟩
    · obtain ⟨i1, i2, y, i3⟩ := ih _ _ h1 hT.1 f (by dsimp only; omega) q
      exact ⟨i1, fun u y h => Or.inr (i2 u y h), y, Or.inr i3⟩
  | ife a b c ta tb tc iha ihb ihc =>
    intro k k' h hT f p q
    obtain ⟨k1, k2, k3, h1, h2, h3, rfl⟩ := h
    by_cases z : f < B + k1.1
    · obtain ⟨i1, i2, y, i3⟩ := iha _ _ h1 hT.1 f p z
      exact ⟨fun v hv => List.mem_append_left _ (i1 v hv), fun u y h => Or.inl (i2 u y h), y, Or.inl i3⟩
    · by_cases z2 : f < B + k2.1
      · obtain ⟨i1, i2, y, i3⟩ := ihb _ _ h2 hT.2.1 f (by omega) z2
        exact ⟨fun v hv => List.mem_append_right _ (List.mem_append_left _ (i1 v hv)), fun u y h => Or.inr (Or.inl (i2 u y h)), y, Or.inr (Or.inl i3)⟩
      · obtain ⟨i1, i2, y, i3⟩ := ihc _ _ h3 hT.2.2 f (by omega) q
        exact ⟨fun v hv => List.mem_append_right _ (List.mem_append_right _ (i1 v hv)), fun u y h => Or.inr (Or.inr (i2 u y h)), y, Or.inr (Or.inr i3)⟩
  | lt v x a b ta tb iha ihb =>
    intro k k' h hT f p q
    obtain ⟨k1, k2, h1, _, h2, rfl⟩ := h
    by_cases z : f < B + k1.1
    · obtain ⟨i1, i2, y, i3⟩ := iha _ _ h1 hT.1 f p z
      exact ⟨fun v hv => List.mem_append_left _ (i1 v hv), fun u y h => Or.inr (Or.inl (i2 u y h)), y, Or.inr (Or.inl i3)⟩
    · obtain ⟨i1, i2, y, i3⟩ := ihb _ _ h2 hT.2 f (by dsimp only; omega) q
      exact ⟨fun v hv => List.mem_append_right _ (i1 v hv), fun u y h => Or.inr (Or.inr (i2 u y h)), y, Or.inr (Or.inr i3)⟩
  | op s a b ta tb iha ihb =>
    intro k k' h hT f p q
    obtain ⟨k1, k2, h1, h2, rfl⟩ := h
    by_cases z : f < B + k1.1
    · obtain ⟨i1, i2, y, i3⟩ := iha _ _ h1 hT.1 f p z
      exact ⟨fun v hv => List.mem_append_left _ (i1 v hv), fun u y h => Or.inl (i2 u y h), y, Or.inl i3⟩
    · obtain ⟨i1, i2, y, i3⟩ := ihb _ _ h2 hT.2 f (by omega) q
      exact ⟨fun v hv => List.mem_append_right _ (i1 v hv), fun u y h => Or.inr (i2 u y h), y, Or.inr i3⟩
  | site s a b ta tb iha ihb =>
    intro k k' h hT f p q
    obtain ⟨k1, k2, h1, _, h2, rfl⟩ := h
    by_cases z : f < B + k1.1
    · obtain ⟨i1, i2, y, i3⟩ := iha _ _ h1 hT.1 f p z
      exact ⟨fun v hv => List.mem_append_left _ (i1 v hv), fun u y h => Or.inl (i2 u y h), y, Or.inl i3⟩
    · obtain ⟨i1, i2, y, i3⟩ := ihb _ _ h2 hT.2 f (by dsimp only; omega) q
      exact ⟨fun v hv => List.mem_append_right _ (i1 v hv), fun u y h => Or.inr (i2 u y h), y, Or.inr i3⟩
/-- where a FUNCTION's EXPR lies, and how what stands in it is bound -/
theorem pd_where {gs : ps_G} {t : pt_T} {la li si nd : Nat} {fb : Nat → pt_T} {sb : pf_sT} (hV : pn_V gs t la li si nd) (hG : pf_G gs t la li si fb sb) {f : Nat} (hf : f < gs.length + la) : ∃ g, g ≤ gs.length ∧ (∀ v ∈ pd_oc (fb f), v ∈ pd_oc (pn_tr gs t g) ∧ (v ∈ pd_bl (pn_tr gs t g) ∨ (v = g ∧ g < gs.length))) ∧ (∀ u y, pd_bn (fb f) u y → pd_bn (pn_tr gs t g) u y) ∧ ((f = g ∧ f < gs.length) ∨ (gs.length ≤ f ∧ ∃ y, pd_bn (pn_tr gs t g) f y)) := by
  obtain ⟨v1, v2, v3, v4, v5, v6, v7, k1, v8, v9⟩ := id hV
  obtain ⟨K, K', i1, _⟩ := pn_items gs [] _ _ _ v8 v6 v7 v9
  have el : ([] : List Nat).length = 0 := rfl
  have bd : ∀ g, g ≤ gs.length → ∀ v ∈ pd_oc (pn_tr gs t g), v ∈ pd_bl (pn_tr gs t g) ∨ (v = g ∧ g < gs.length) := fun g hg v hv => by
    obtain ⟨a1, _, _, _, gl', sc', a5, _, _, a8⟩ := i1 g hg
    rcases pd_oc_bd _ a1 gl' sc' a5 v hv with q | ⟨b, b1, b2⟩
    · exact Or.inl q
    · have := a8 b b1
      rw [el] at this
      exact Or.inr ⟨by omega, this.2⟩
  by_cases c : f < gs.length
  · have e : fb f = pn_tr gs t f := hG.1 f c
    rw [e]
    exact ⟨f, by omega, fun v hv => ⟨hv, bd f (by omega) v hv⟩, fun u y h => h, Or.inl ⟨rfl, c⟩⟩
  · obtain ⟨g, g1, ka, kb, g2, g3, g4⟩ := pn_lam_item gs _ _ _ _ v8 v9 f (by dsimp only; omega) (by dsimp only; exact hf)
    obtain ⟨s1, s2, s3⟩ := pd_sub _ (i1 g g1).1 _ _ g2 (pf_GT hG g g1) f g3 g4
    exact ⟨g, g1, fun v hv => ⟨s1 v hv, bd g g1 v (s1 v hv)⟩, s2, Or.inr ⟨by omega, s3⟩⟩
