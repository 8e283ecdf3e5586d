/-! where the reference has the EXPRS of FUNCTIONS -/
def pf_PB (nf : Nat) (fb : Nat → pt_T) (t : pt_T) (w : fa_W) : Prop := w 181 17 + w 181 18 = (nf : Int) ∧ (∃ b, b + pt_sz t ≤ 100 ∧ w 181 21 = ((b + pt_sz t - 1 : Nat) : Int) ∧ pm_H t (-1) b w) ∧ ∀ f, f < nf → ∃ a, a + pt_sz (fb f) ≤ 100 ∧ w 189 f = ((a + pt_sz (fb f) - 1 : Nat) : Int) ∧ pm_H (fb f) (f : Int) a w
theorem pf_PB_fw {nf : Nat} {fb : Nat → pt_T} {t : pt_T} {S : Nat → Prop} {w w' : fa_W} (tt : pt_tw t) (tf : ∀ f, pt_tw (fb f)) (hf : pf_fw S w w') (h : pf_PB nf fb t w) : pf_PB nf fb t w' := by
  obtain ⟨h1, ⟨b, b1, b2, b3⟩, h3⟩ := h
  have ob := pf_fw_ob hf
  refine ⟨by rw [hf 181 17 (by omega) (by omega) (by omega), hf 181 18 (by omega) (by omega) (by omega)]; exact h1, ⟨b, b1, (hf 181 21 (by omega) (by omega) (by omega)).trans b2, pm_H_ob ob t tt _ _ b3⟩, fun f hl => ?_⟩
  obtain ⟨a, a1, a2, a3⟩ := h3 f hl
  exact ⟨a, a1, (ob _ _ (by omega) (by omega)).trans a2, pm_H_ob ob _ (tf f) _ _ a3⟩
theorem pm_lam_H {B : Nat} {w : fa_W} {fb : Nat → pt_T} (t : pt_T) (tt : pt_tw t) : ∀ (h : Int) (k k' : pk_K) (a : Nat), pn_can B t k k' → pf_T fb t → pm_H t h a w → ∀ f, B + k.1 ≤ f → f < B + k'.1 → ∃ c, c + pt_sz (fb f) ≤ a + pt_sz t ∧ w 189 f = ((c + pt_sz (fb f) - 1 : Nat) : Int) ∧ pm_H (fb f) (f : Int) c w := by
  induction t, tt using pt_indh with
  | num v => intro h k k' a hc _ H f h1 h2; cases hc; omega
  | var v x => intro h k k' a hc _ H f h1 h2; cases hc; omega
  | glo g x => intro h k k' a hc _ H f h1 h2; cases hc; omega
  | dead d => intro h k k' a hc _ H f h1 h2; cases hc.2; omega
  | lam f0 x b tb ih =>
    intro h k k' a hc hT H f h1 h2
    obtain ⟨e, k1, c1, rfl⟩ := hc
    have sz : pt_sz (pt_lam f0 x b) = pt_sz b + 1 := rfl
    by_cases z : f = f0
    · rw [z, hT.2, sz]
      exact ⟨a, by omega, H.2.2.2.1, H.1⟩
    · obtain ⟨c, q1, q2⟩ := ih _ _ _ _ c1 hT.1 H.1 f (by dsimp only; omega) h2
      exact ⟨c, by omega, q2⟩
  | ife ta tb tc wa wb wc iha ihb ihc =>
    intro h k k' a hc hT H f h1 h2
    obtain ⟨k1, k2, k3, c1, c2, c3, rfl⟩ := hc
    have sz : pt_sz (pt_ife ta tb tc) = pt_sz ta + pt_sz tb + pt_sz tc + 1 := rfl
    by_cases z : f < B + k1.1
    · obtain ⟨c, q1, q2⟩ := iha _ _ _ _ c1 hT.1 H.1 f h1 z
      exact ⟨c, by omega, q2⟩
    · by_cases y : f < B + k2.1
      · obtain ⟨c, q1, q2⟩ := ihb _ _ _ _ c2 hT.2.1 H.2.1 f (by omega) y
        exact ⟨c, by omega, q2⟩
      · obtain ⟨c, q1, q2⟩ := ihc _ _ _ _ c3 hT.2.2 H.2.2.1 f (by omega) h2
        exact ⟨c, by omega, q2⟩
  | lt v x ta tb wa wb iha ihb =>
    intro h k k' a hc hT H f h1 h2
    obtain ⟨k1, k2, c1, _, c2, rfl⟩ := hc
    have sz : pt_sz (pt_let v x ta tb) = pt_sz ta + pt_sz tb + 1 := rfl
    by_cases z : f < B + k1.1
    · obtain ⟨c, q1, q2⟩ := iha _ _ _ _ c1 hT.1 H.1 f h1 z
      exact ⟨c, by omega, q2⟩
    · obtain ⟨c, q1, q2⟩ := ihb _ _ _ _ c2 hT.2 H.2.1 f (by dsimp only; omega) h2
      exact ⟨c, by omega, q2⟩
  | op s ta tb wa wb iha ihb =>
    intro h k k' a hc hT H f h1 h2
    obtain ⟨k1, k2, c1, c2, rfl⟩ := hc
    have sz : pt_sz (pt_op s ta tb) = pt_sz ta + pt_sz tb + 1 := rfl
    by_cases z : f < B + k1.1
    · obtain ⟨c, q1, q2⟩ := iha _ _ _ _ c1 hT.1 H.1 f h1 z
      exact ⟨c, by omega, q2⟩
    · obtain ⟨c, q1, q2⟩ := ihb _ _ _ _ c2 hT.2 H.2.1 f (by omega) h2
      exact ⟨c, by omega, q2⟩
  | site s ta tb wa wb iha ihb =>
    intro h k k' a hc hT H f h1 h2
    obtain ⟨k1, k2, c1, _, c2, rfl⟩ := hc
    have sz : pt_sz (pt_site s ta tb) = pt_sz ta + pt_sz tb + 1 := rfl
    by_cases z : f < B + k1.1
    · obtain ⟨c, q1, q2⟩ := iha _ _ _ _ c1 hT.1 H.1 f h1 z
      exact ⟨c, by omega, q2⟩
    · obtain ⟨c, q1, q2⟩ := ihb _ _ _ _ c2 hT.2 H.2.1 f (by dsimp only; omega) h2
      exact ⟨c, by omega, q2⟩
theorem pf_GT {gs : ps_G} {t : pt_T} {la li si : Nat} {fb : Nat → pt_T} {sb : pf_sT} (hG : pf_G gs t la li si fb sb) : ∀ g, g ≤ gs.length → pf_T fb (pn_tr gs t g) := fun g hg => by
  by_cases z : g < gs.length
  · rw [← hG.1 g z]; exact (hG.2.2.1 g (by omega)).1
  · rw [show g = gs.length by omega, pn_tr_len]; exact hG.2.2.2.1.2.1
theorem pf_PB_of {gs : ps_G} {t : pt_T} {la li si nd : Nat} {w : fa_W} {fb : Nat → pt_T} {sb : pf_sT} (hV : pn_V gs t la li si nd) (hG : pf_G gs t la li si fb sb) (hW : pm_Pw gs t la li si nd w) : pf_PB (gs.length + la) fb t w := by
  have hL := pm_Pw_L hV hW
  have hT := pf_GT hG
  obtain ⟨v1, v2, v3, v4, v5, v6, v7, k1, v8, v9⟩ := hV
  obtain ⟨w1, w2, w3, w4, w5, w6, w7, w8, b, w9, w10⟩ := hW
  have at' : ∀ g, g ≤ gs.length → pn_os gs t (List.range g) + pt_sz (pn_tr gs t g) ≤ nd := fun g hg => by
    have e := hL.2.2
    rw [pn_range_at (show g < gs.length + 1 by omega), pn_os_app] at e
    have : pn_os gs t (g :: List.range' (g + 1) (gs.length + 1 - g - 1)) = pt_sz (pn_tr gs t g) + pn_os gs t (List.range' (g + 1) (gs.length + 1 - g - 1)) := rfl
    omega
  have lat := fun g (hg : g ≤ gs.length) => pm_L_at _ 0 hL.1 _ g _ (pn_range_at (show g < gs.length + 1 by omega))
  have tw := pn_tr_tw v6 gs _ _ _ v8
  refine ⟨by rw [w2, w3]; rfl, ⟨b, by omega, by rw [w6, w9], w10⟩, fun f hf => ?_⟩
  by_cases z : f < gs.length
  · obtain ⟨l1, l2⟩ := lat f (by omega)
    have a1 := at' f (by omega)
    rw [Nat.zero_add] at l1 l2
    unfold pn_ow at l1
    rw [if_pos z] at l1
    rw [hG.1 f z]
    exact ⟨_, by omega, l2 z, l1⟩
  · obtain ⟨g, g1, ka, kb, g2, g3, g4⟩ := pn_lam_item gs _ _ _ _ v8 v9 f (by dsimp only; omega) (by dsimp only; exact hf)
    obtain ⟨l1, l2⟩ := lat g g1
    have a1 := at' g g1
    rw [Nat.zero_add] at l1
    obtain ⟨c, q1, q2, q3⟩ := pm_lam_H _ (tw g) _ _ _ _ g2 (hT g g1) l1 f g3 g4
    exact ⟨c, by omega, q2, q3⟩
theorem pf_pop_mono {a b : Nat} (h : ∀ k, a.testBit k = true → b.testBit k = true) : pf_pop a ≤ pf_pop b := by
  unfold pf_pop
  have : ∀ l : List Nat, (l.filter (fun k => a.testBit k)).length ≤ (l.filter (fun k => b.testBit k)).length := by
    intro l
    induction l with
    | nil => exact Nat.le_refl _
    | cons x q ih =>
      rw [List.filter_cons, List.filter_cons]
      cases ea : a.testBit x with
      | true =>
        rw [h x ea, if_pos rfl, if_pos rfl, List.length_cons, List.length_cons]
        omega
      | false =>
        rw [if_neg (by decide)]
        by_cases eb : b.testBit x = true
        · rw [if_pos eb, List.length_cons]; omega
        · rw [if_neg eb]; exact ih
  exact this _
theorem pf_sum_mono {F F' : Nat → Nat} (h : ∀ i, F i ≤ F' i) : ∀ n, pf_sum F n ≤ pf_sum F' n := by
  intro n
  induction n with
  | zero => exact Nat.le_refl _
  | succ n ih =>
    have := h n
    show pf_sum F n + F n ≤ pf_sum F' n + F' n
    omega
def pf_self (z z' : pf_s) : Prop := pf_sd z' (pf_b z.1) (pf_b z.2.1) (fun f => z.2.2.1.testBit f = true) (fun f => z.2.2.2.testBit f = true)
theorem pf_self_refl (z : pf_s) : pf_self z z := ⟨fun _ _ h => h, fun _ _ h => h, fun _ h => h, fun _ h => h⟩
theorem pf_self_Fi {z z' : pf_s} (h : pf_self z z') : pf_Fi z' ≤ pf_Fi z := by
  obtain ⟨h1, h2, h3, h4⟩ := h
  have a := pf_sum_mono (F := fun v => pf_pop (z'.1 v)) (F' := fun v => pf_pop (z.1 v)) (fun v => pf_pop_mono (h1 v)) 124
  have b := pf_sum_mono (F := fun v => pf_pop (z'.2.1 v)) (F' := fun v => pf_pop (z.2.1 v)) (fun v => pf_pop_mono (h2 v)) 24
  have c := pf_pop_mono h3
  have d := pf_pop_mono h4
  unfold pf_Fi
  omega
