/-! HOMES by the reference, and what lies within a FUNCTION -/
theorem pm_GH_at {w : fa_W} : ∀ (gs : ps_G) (g a : Nat), pm_GH gs g a w → ∀ (i x v : Nat) (t : pt_T), gs[i]? = some (x, v, t) → w 190 (g + i) = ((pm_cv x : Nat) : Int) ∧ w 191 (g + i) = -1 ∧ w 192 (g + i) = ((pm_cv v : Nat) : Int) ∧ w 193 (g + i) = ((g + i : Nat) : Int) ∧ ∃ a', pm_H t ((g + i : Nat) : Int) a' w := by
  intro gs
  induction gs with
  | nil => intro g a _ i x v t h; cases h
  | cons e r ih =>
    intro g a H i x v t h
    obtain ⟨x0, v0, t0⟩ := e
    obtain ⟨h1, h2, h3, h4, h5, h6, h7⟩ := H
    cases i with
    | zero =>
      have : (x0, v0, t0) = (x, v, t) := Option.some.inj h
      cases this
      exact ⟨h1, h3, h4, h5, a, h6⟩
    | succ i =>
      have := ih (g + 1) _ h7 i x v t h
      rw [show g + (i + 1) = g + 1 + i by omega]
      exact this
theorem pm_items {gs : ps_G} {t : pt_T} {la li si nd : Nat} {w : fa_W} (hW : pm_Pw gs t la li si nd w) {g : Nat} (hg : g ≤ gs.length) : ∃ a, pm_H (pn_tr gs t g) (pn_ow gs.length g) a w := by
  obtain ⟨_, _, _, _, _, _, _, h1, b, _, h2⟩ := hW
  by_cases e : g < gs.length
  · have hge : ∃ x v d, gs[g]? = some (x, v, d) := ⟨gs[g].1, gs[g].2.1, gs[g].2.2, List.getElem?_eq_getElem e⟩
    obtain ⟨x, v, d, hgs⟩ := hge
    obtain ⟨_, _, _, _, a, q⟩ := pm_GH_at gs 0 0 h1 g x v d hgs
    rw [Nat.zero_add] at q
    have et : pn_tr gs t g = d := by
      unfold pn_tr
      rw [List.getD_eq_getElem?_getD, List.getElem?_map, hgs]; rfl
    unfold pn_ow
    rw [et, if_pos e]
    exact ⟨a, q⟩
  · have eg : g = gs.length := by omega
    unfold pn_ow
    rw [eg, pn_tr_len, if_neg (by omega)]
    exact ⟨b, h2⟩
theorem pm_hm {B : Nat} {w : fa_W} (t : pt_T) (tt : pt_tw t) : ∀ (h : Int) (a : Nat) (k k' : pk_K), pm_H t h a w → pn_can B t k k' → -1 ≤ h → h < ((B + k.1 : Nat) : Int) → ∀ f, B + k.1 ≤ f → f < B + k'.1 → -1 ≤ w 191 f ∧ w 191 f < (f : Int) ∧ w 193 f = (f : Int) := by
  induction t, tt using pt_indh with
  | num v => intro h a k k' _ hc _ _ f p q; cases hc; dsimp only at q; omega
  | var v x => intro h a k k' _ hc _ _ f p q; cases hc; dsimp only at q; omega
  | glo g x => intro h a k k' _ hc _ _ f p q; cases hc; dsimp only at q; omega
  | dead d => intro h a k k' _ hc _ _ f p q; cases hc.2; dsimp only at q; omega
  | lam f0 x b tb ih =>
    intro h a k k' H hc l1 l2 f p q
    obtain ⟨ef, k1, h1, rfl⟩ := hc
    by_cases z : f = f0
    · rw [z]
      exact ⟨by rw [H.2.2.2.2.1]; exact l1, by rw [H.2.2.2.2.1, ef]; exact l2, H.2.2.2.2.2.2⟩
    · exact ih _ _ _ _ H.1 h1 (by omega) (by dsimp only; omega) f (by dsimp only; omega) q
  | ife ta t2 tc wa wb wc iha ihb ihc =>
    intro h a k k' H hc l1 l2 f p q
    obtain ⟨k1, k2, k3, h1, h2, h3, rfl⟩ := hc
    have m1 := pn_mono ta wa _ _ h1
    have m2 := pn_mono t2 wb _ _ h2
    by_cases z : f < B + k1.1
    · exact iha _ _ _ _ H.1 h1 l1 l2 f p z
    · by_cases z2 : f < B + k2.1
      · exact ihb _ _ _ _ H.2.1 h2 l1 (by omega) f (by omega) z2
      · exact ihc _ _ _ _ H.2.2.1 h3 l1 (by omega) f (by omega) q
  | lt v x ta t2 wa wb iha ihb =>
    intro h a k k' H hc l1 l2 f p q
    obtain ⟨k1, k2, h1, _, h2, rfl⟩ := hc
    have m1 := pn_mono ta wa _ _ h1
    by_cases z : f < B + k1.1
    · exact iha _ _ _ _ H.1 h1 l1 l2 f p z
    · exact ihb _ _ _ _ H.2.1 h2 l1 (by dsimp only; omega) f (by dsimp only; omega) q
  | op s ta t2 wa wb iha ihb =>
    intro h a k k' H hc l1 l2 f p q
    obtain ⟨k1, k2, h1, h2, rfl⟩ := hc
    have m1 := pn_mono ta wa _ _ h1
    by_cases z : f < B + k1.1
    · exact iha _ _ _ _ H.1 h1 l1 l2 f p z
    · exact ihb _ _ _ _ H.2.1 h2 l1 (by omega) f (by omega) q
  | site s ta t2 wa wb iha ihb =>
    intro h a k k' H hc l1 l2 f p q
    obtain ⟨k1, k2, h1, _, h2, rfl⟩ := hc
    have m1 := pn_mono ta wa _ _ h1
    by_cases z : f < B + k1.1
    · exact iha _ _ _ _ H.1 h1 l1 l2 f p z
    · exact ihb _ _ _ _ H.2.1 h2 l1 (by dsimp only; omega) f (by dsimp only; omega) q
/-- HOMES lead down to MAIN -/
def pm_ho (nf : Nat) (w : fa_W) : Prop := ∀ g, g < nf → -1 ≤ w 191 g ∧ w 191 g < (g : Int) ∧ w 193 g = (g : Int)
theorem pm_ho_of {gs : ps_G} {t : pt_T} {la li si nd : Nat} {w : fa_W} (hV : pn_V gs t la li si nd) (hW : pm_Pw gs t la li si nd w) : pm_ho (gs.length + la) w := by
  obtain ⟨v1, v2, v3, v4, v5, v6, v7, k1, v8, v9⟩ := id hV
  intro f hf
  by_cases c : f < gs.length
  · have hge : ∃ x v d, gs[f]? = some (x, v, d) := ⟨gs[f].1, gs[f].2.1, gs[f].2.2, List.getElem?_eq_getElem c⟩
    obtain ⟨x, v, d, hgs⟩ := hge
    obtain ⟨_, q1, _, q2, _⟩ := pm_GH_at gs 0 0 hW.2.2.2.2.2.2.2.1 f x v d hgs
    rw [Nat.zero_add] at q1 q2
    exact ⟨by omega, by omega, q2⟩
  · obtain ⟨g, g1, ka, kb, g2, g3, g4⟩ := pn_lam_item gs _ _ _ _ v8 v9 f (by dsimp only; omega) (by dsimp only; exact hf)
    obtain ⟨a, q⟩ := pm_items hW g1
    refine pm_hm _ (pn_tr_tw v6 gs _ _ _ v8 g) _ _ _ _ q g2 ?_ ?_ f g3 g4
    · unfold pn_ow; split <;> omega
    · unfold pn_ow; split <;> omega
def pd_ch (hm : Nat → Int) (f : Nat) : Nat → Int → Bool
  | 0, _ => false
  | n + 1, h => if h = -1 then false else if h = (f : Int) then true else pd_ch hm f n (hm h.toNat)
theorem pd_ch_st {hm : Nat → Int} {f nf : Nat} (hh : ∀ g, g < nf → -1 ≤ hm g ∧ hm g < (g : Int)) : ∀ (n m : Nat) (h : Int), -1 ≤ h → h < (nf : Int) → h + 2 ≤ (n : Int) → h + 2 ≤ (m : Int) → pd_ch hm f n h = pd_ch hm f m h := by
  intro n
  induction n with
  | zero => intro m h a b c; omega
  | succ n ih =>
    intro m h a b c d
    obtain ⟨m, rfl⟩ : ∃ G, m = G + 1 := ⟨m - 1, by omega⟩
    show (if h = -1 then false else if h = (f : Int) then true else pd_ch hm f n (hm h.toNat)) = if h = -1 then false else if h = (f : Int) then true else pd_ch hm f m (hm h.toNat)
    by_cases e : h = -1
    · rw [if_pos e, if_pos e]
    · rw [if_neg e, if_neg e]
      by_cases e2 : h = (f : Int)
      · rw [if_pos e2, if_pos e2]
      · rw [if_neg e2, if_neg e2]
        have q := hh h.toNat (by omega)
        exact ih m _ q.1 (by omega) (by omega) (by omega)
def pd_wi (w : fa_W) (f : Nat) (h : Int) : Bool := pd_ch (fun g => w 191 g) f 30 h
theorem pd_wi_eq {w : fa_W} {f nf : Nat} (h24 : nf ≤ 24) (hh : pm_ho nf w) {h : Int} (a : -1 ≤ h) (b : h < (nf : Int)) : pd_wi w f h = if h = -1 then false else if h = (f : Int) then true else pd_wi w f (w 191 h.toNat) := by
  unfold pd_wi
  have e : pd_ch (fun g => w 191 g) f 30 h = if h = -1 then false else if h = (f : Int) then true else pd_ch (fun g => w 191 g) f 29 (w 191 h.toNat) := rfl
  rw [e]
  by_cases e1 : h = -1
  · rw [if_pos e1, if_pos e1]
  · rw [if_neg e1, if_neg e1]
    by_cases e2 : h = (f : Int)
    · rw [if_pos e2, if_pos e2]
    · rw [if_neg e2, if_neg e2]
      have q := hh h.toNat (by omega)
      exact pd_ch_st (fun g hg => ⟨(hh g hg).1, (hh g hg).2.1⟩) _ _ _ q.1 (by omega) (by omega) (by omega)
theorem pm_isWithin_l {w : fa_W} {f nf : Nat} {a1 : Int} (h24 : nf ≤ 24) (hf : f < 24) (hh : pm_ho nf w) : ∀ (n F : Nat) (h : Int), -1 ≤ h → h < (nf : Int) → h + 2 ≤ (n : Int) → n ≤ F → fm_Mod_isWithin_l2 a1 (f : Int) w F h = some (pd_wi w f h) := by
  intro n
  induction n with
  | zero => intro F h a b c; omega
  | succ n ih =>
    intro F h a b c d
    obtain ⟨F, rfl⟩ : ∃ G, F = G + 1 := ⟨F - 1, by omega⟩
    rw [pd_wi_eq h24 hh a b]
    unfold fm_Mod_isWithin_l2 fm_Mod_isWithin_j22
    rw [fa_wr_id (x := h) (by omega) (by omega), pb_wr (n := f) (by omega)]
    by_cases e1 : h = -1
    · rw [if_pos e1, if_pos e1, if_neg (by omega)]
    · rw [if_neg e1, if_neg e1]
      by_cases e2 : h = (f : Int)
      · rw [if_pos e2, if_pos e2, if_pos e2]
      · have q := hh h.toNat (by omega)
        rw [if_neg e2, if_neg e2, pb_ixz (n := 24) (by omega) (by omega) (by omega), Option.bind_some, pf_let_eq]
        exact ih F _ q.1 (by omega) (by omega) (by omega)
theorem pm_isWithin {w : fa_W} {f nf : Nat} {h : Int} (h24 : nf ≤ 24) (hf : f < 24) (hh : pm_ho nf w) (a : -1 ≤ h) (b : h < (nf : Int)) : fm_Mod_isWithin h (f : Int) w = some (pd_wi w f h) := by
  obtain ⟨FU, hFU⟩ : ∃ F, F = fa_FU := ⟨_, rfl⟩
  have hF2 : 1000 < FU := by rw [hFU]; unfold fa_FU; omega
  unfold fm_Mod_isWithin
  rw [← hFU]
  exact pm_isWithin_l h24 hf hh 100 FU h a b (by omega) (by omega)
/-- what is bound in an EXPR, by the reference -/
theorem pm_bn {nf nv ns f : Nat} {w : fa_W} (h24 : nf ≤ 24) (hh : pm_ho nf w) (t : pt_T) (tt : pt_tw t) : ∀ (h : Int) (a : Nat), pm_H t h a w → pf_W nf nv ns t → -1 ≤ h → h < (nf : Int) → ∀ v y, pd_bn t v y → w 192 v = ((pm_cv y : Nat) : Int) ∧ -1 ≤ w 193 v ∧ w 193 v < (nf : Int) ∧ (pd_wi w f h = true → pd_wi w f (w 193 v) = true) := by
  induction t, tt using pt_indh with
  | num n => intro h a _ _ _ _ v y k; exact False.elim k
  | var u x => intro h a _ _ _ _ v y k; exact False.elim k
  | glo g x => intro h a _ _ _ _ v y k; exact False.elim k
  | dead d => intro h a _ _ _ _ v y k; exact False.elim k
  | lam f0 x b wb ih =>
    intro h a H W l1 l2 v y k
    have up : pd_wi w f h = true → pd_wi w f (f0 : Int) = true := fun q => by
      rw [pd_wi_eq h24 hh (by omega) (by have := W.1; omega), if_neg (by omega)]
      by_cases e : (f0 : Int) = (f : Int)
      · rw [if_pos e]
      · rw [if_neg e, Int.toNat_natCast, H.2.2.2.2.1]; exact q
    rcases k with ⟨k1, k2⟩ | k
    · rw [k1, k2, H.2.2.2.2.2.2]
      exact ⟨H.2.2.2.2.2.1, by omega, by have := W.1; omega, up⟩
    · obtain ⟨q1, q2, q3, q4⟩ := ih _ _ H.1 W.2 (by omega) (by have := W.1; omega) v y k
      exact ⟨q1, q2, q3, fun z => q4 (up z)⟩
  | ife ta t2 tc wa wb wc iha ihb ihc =>
    intro h a H W l1 l2 v y k
    rcases k with k | k | k
    · exact iha _ _ H.1 W.1 l1 l2 v y k
    · exact ihb _ _ H.2.1 W.2.1 l1 l2 v y k
    · exact ihc _ _ H.2.2.1 W.2.2 l1 l2 v y k
  | lt u x ta t2 wa wb iha ihb =>
    intro h a H W l1 l2 v y k
    rcases k with ⟨k1, k2⟩ | k | k
    · rw [k1, k2, H.2.2.2.2.2.2.2]
      exact ⟨H.2.2.2.2.2.2.1, l1, l2, id⟩
    · exact iha _ _ H.1 W.2.1 l1 l2 v y k
    · exact ihb _ _ H.2.1 W.2.2 l1 l2 v y k
  | op r ta t2 wa wb iha ihb =>
    intro h a H W l1 l2 v y k
    rcases k with k | k
    · exact iha _ _ H.1 W.1 l1 l2 v y k
    · exact ihb _ _ H.2.1 W.2 l1 l2 v y k
  | site r ta t2 wa wb iha ihb =>
    intro h a H W l1 l2 v y k
    rcases k with k | k
    · exact iha _ _ H.1 W.2.1 l1 l2 v y k
    · exact ihb _ _ H.2.1 W.2.2 l1 l2 v y k
theorem pm_bo {nf nv ns f : Nat} {fb : Nat → pt_T} {w : fa_W} (h24 : nf ≤ 24) (hh : pm_ho nf w) (t : pt_T) (tt : pt_tw t) : ∀ (h : Int) (a : Nat), pm_H t h a w → pf_W nf nv ns t → pf_T fb t → ∀ v y, pd_bn t v y → pd_wi w f (w 193 v) = true → pd_wi w f h = true ∨ v = f ∨ v ∈ pd_bl (fb f) := by
  induction t, tt using pt_indh with
  | num n => intro h a _ _ _ v y k; exact False.elim k
  | var u x => intro h a _ _ _ v y k; exact False.elim k
  | glo g x => intro h a _ _ _ v y k; exact False.elim k
  | dead d => intro h a _ _ _ v y k; exact False.elim k
  | lam f0 x b wb ih =>
    intro h a H W T v y k q
    have down : pd_wi w f (f0 : Int) = true → f0 = f ∨ pd_wi w f h = true := fun q => by
      rw [pd_wi_eq h24 hh (by omega) (by have := W.1; omega), if_neg (by omega)] at q
      by_cases e : (f0 : Int) = (f : Int)
      · exact Or.inl (by omega)
      · rw [if_neg e, Int.toNat_natCast, H.2.2.2.2.1] at q; exact Or.inr q
    rcases k with ⟨k1, k2⟩ | k
    · rw [k1, H.2.2.2.2.2.2] at q
      rcases down q with e | e
      · exact Or.inr (Or.inl (k1.trans e))
      · exact Or.inl e
    · rcases ih _ _ H.1 W.2 T.1 v y k q with e | e
      · rcases down e with e | e
        · refine Or.inr (Or.inr ?_)
          rw [← e, T.2]
          exact pd_bn_bl b wb v y k
        · exact Or.inl e
      · exact Or.inr e
  | ife ta t2 tc wa wb wc iha ihb ihc =>
    intro h a H W T v y k q
    rcases k with k | k | k
    · exact iha _ _ H.1 W.1 T.1 v y k q
    · exact ihb _ _ H.2.1 W.2.1 T.2.1 v y k q
    · exact ihc _ _ H.2.2.1 W.2.2 T.2.2 v y k q
  | lt u x ta t2 wa wb iha ihb =>
    intro h a H W T v y k q
    rcases k with ⟨k1, k2⟩ | k | k
    · rw [k1, H.2.2.2.2.2.2.2] at q; exact Or.inl q
    · exact iha _ _ H.1 W.2.1 T.1 v y k q
    · exact ihb _ _ H.2.1 W.2.2 T.2 v y k q
  | op r ta t2 wa wb iha ihb =>
    intro h a H W T v y k q
    rcases k with k | k
    · exact iha _ _ H.1 W.1 T.1 v y k q
    · exact ihb _ _ H.2.1 W.2 T.2 v y k q
  | site r ta t2 wa wb iha ihb =>
    intro h a H W T v y k q
    rcases k with k | k
    · exact iha _ _ H.1 W.2.1 T.1 v y k q
    · exact ihb _ _ H.2.1 W.2.2 T.2 v y k q
