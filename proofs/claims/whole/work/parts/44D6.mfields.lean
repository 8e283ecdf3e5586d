theorem pd_oc_W {nf nv ns : Nat} (t : pt_T) (tt : pt_tw t) : pf_W nf nv ns t → ∀ v ∈ pd_oc t, v < nv := by
  induction t, tt using pt_indh with
  | num v => intro W u k; cases k
  | var v x => intro W u k; rw [show u = v from List.mem_singleton.mp k]; exact W
  | glo g x => intro W u k; cases k
  | dead d => intro W u k; cases k
  | lam f x b tb ih => intro W u k; exact ih W.2 u k
  | ife a b c ta tb tc iha ihb ihc =>
    intro W u k
    rcases List.mem_append.mp k with k | k
    · exact iha W.1 u k
    · rcases List.mem_append.mp k with k | k
      · exact ihb W.2.1 u k
      · exact ihc W.2.2 u k
  | lt v x a b ta tb iha ihb =>
    intro W u k
    rcases List.mem_append.mp k with k | k
    · exact iha W.2.1 u k
    · exact ihb W.2.2 u k
  | op s a b ta tb iha ihb =>
    intro W u k
    rcases List.mem_append.mp k with k | k
    · exact iha W.1 u k
    · exact ihb W.2 u k
  | site s a b ta tb iha ihb =>
    intro W u k
    rcases List.mem_append.mp k with k | k
    · exact iha W.2.1 u k
    · exact ihb W.2.2 u k
/-- the FIELDS of a FUNCTION by the reference -/
theorem pm_fields {gs : ps_G} {t : pt_T} {la li si nd f : Nat} {fb : Nat → pt_T} {sb : pf_sT} {w : fa_W} (hV : pn_V gs t la li si nd) (hG : pf_G gs t la li si fb sb) (hW : pm_Pw gs t la li si nd w) (hf : f < gs.length + la) (h0 : w 214 f = 0) : ∃ w', fm_Mod_collects 900 (f : Int) (w 189 f) w = some w' ∧ pm_ff f w w' ∧ pm_FL f (pd_fl f (fb f)) w' := by
  obtain ⟨v1, v2, v3, v4, v5, v6, v7, k1, v8, v9⟩ := id hV
  have h24 : gs.length + la ≤ 24 := by omega
  have ho := pm_ho_of hV hW
  obtain ⟨_, _, hB⟩ := pf_PB_of hV hG hW
  obtain ⟨a, a1, a2, a3⟩ := hB f hf
  have tf := hG.2.1 f
  obtain ⟨gT, gW, _⟩ := hG.2.2.1 f hf
  have wif : pd_wi w f (f : Int) = true := by
    rw [pd_wi_eq h24 ho (by omega) (by omega), if_neg (by omega), if_pos rfl]
  have sp : pd_fl f (fb f) = (pd_oc (fb f)).foldl (pd_ad (fun v => pd_wi w f (w 193 v))) [] := pd_fold_cong _ _ (fun v hv => by
    obtain ⟨g, g1, g2, g3, g4⟩ := pd_where hV hG hf
    obtain ⟨_, bd⟩ := g2 v hv
    have inb : v ∈ pd_bl (fb f) → pd_wi w f (w 193 v) = true := fun k => by
      obtain ⟨y, hy⟩ := pd_bl_bn _ tf v k
      exact (pm_bn (f := f) h24 ho (fb f) tf _ _ a3 gW (by omega) (by omega) v y hy).2.2.2 wif
    have inf : v = f → pd_wi w f (w 193 v) = true := fun k => by rw [k, (ho f hf).2.2]; exact wif
    have out : pd_wi w f (w 193 v) = true → v = f ∨ v ∈ pd_bl (fb f) := fun q => by
      rcases bd with bd | ⟨bd, bl⟩
      · obtain ⟨a', i1⟩ := pm_items hW g1
        have tw := pn_tr_tw v6 gs _ _ _ v8 g
        obtain ⟨y, hy⟩ := pd_bl_bn _ tw v bd
        have Wg : pf_W (gs.length + la) (24 + li) si (pn_tr gs t g) := by
          by_cases c : g < gs.length
          · rw [← hG.1 g c]; exact (hG.2.2.1 g (by omega)).2.1
          · rw [show g = gs.length by omega, pn_tr_len]; exact hG.2.2.2.1.2.2.1
        rcases pm_bo h24 ho _ tw _ _ i1 Wg (pf_GT hG g g1) v y hy q with e | e
        · unfold pn_ow at e
          by_cases c : g < gs.length
          · rw [if_pos c, pd_wi_eq h24 ho (by omega) (by omega), if_neg (by omega)] at e
            by_cases e2 : (g : Int) = (f : Int)
            · have : g = f := by omega
              refine Or.inr ?_
              rw [← this, hG.1 g c]
              exact bd
            · rw [if_neg e2, Int.toNat_natCast] at e
              have hge : ∃ x v d, gs[g]? = some (x, v, d) := ⟨gs[g].1, gs[g].2.1, gs[g].2.2, List.getElem?_eq_getElem c⟩
              obtain ⟨x, v', d, hgs⟩ := hge
              obtain ⟨_, q1, _⟩ := pm_GH_at gs 0 0 hW.2.2.2.2.2.2.2.1 g x v' d hgs
              rw [Nat.zero_add] at q1
              rw [q1, pd_wi_eq h24 ho (by omega) (by omega), if_pos rfl] at e
              cases e
          · rw [if_neg c, pd_wi_eq h24 ho (by omega) (by omega), if_pos rfl] at e
            cases e
        · exact e
      · have vg : w 193 v = (g : Int) := by rw [bd]; exact (ho g (by omega)).2.2
        rw [vg, pd_wi_eq h24 ho (by omega) (by omega), if_neg (by omega)] at q
        by_cases e2 : (g : Int) = (f : Int)
        · exact Or.inl (by omega)
        · rw [if_neg e2, Int.toNat_natCast] at q
          have hge : ∃ x v d, gs[g]? = some (x, v, d) := ⟨gs[g].1, gs[g].2.1, gs[g].2.2, List.getElem?_eq_getElem bl⟩
          obtain ⟨x, v', d, hgs⟩ := hge
          obtain ⟨_, q1, _⟩ := pm_GH_at gs 0 0 hW.2.2.2.2.2.2.2.1 g x v' d hgs
          rw [Nat.zero_add] at q1
          rw [q1, pd_wi_eq h24 ho (by omega) (by omega), if_pos rfl] at q
          cases q
    show pd_in f (fb f) v = pd_wi w f (w 193 v)
    unfold pd_in
    by_cases c : v = f ∨ v ∈ pd_bl (fb f)
    · rw [decide_eq_true c, c.elim inf inb]
    · rw [decide_eq_false c]
      cases e : pd_wi w f (w 193 v) with
      | false => rfl
      | true => exact absurd (out e) c)
  rw [a2, sp]
  have vr : ∀ v ∈ pd_oc (fb f), v < 124 ∧ -1 ≤ w 193 v ∧ w 193 v < ((gs.length + la : Nat) : Int) := fun v hv => by
    obtain ⟨g, g1, g2, g3, g4⟩ := pd_where hV hG hf
    obtain ⟨_, bd⟩ := g2 v hv
    rcases bd with bd | ⟨bd, bl⟩
    · obtain ⟨a', i1⟩ := pm_items hW g1
      have tw := pn_tr_tw v6 gs _ _ _ v8 g
      obtain ⟨y, hy⟩ := pd_bl_bn _ tw v bd
      have Wg : pf_W (gs.length + la) (24 + li) si (pn_tr gs t g) := by
        by_cases c : g < gs.length
        · rw [← hG.1 g c]; exact (hG.2.2.1 g (by omega)).2.1
        · rw [show g = gs.length by omega, pn_tr_len]; exact hG.2.2.2.1.2.2.1
      have q := pm_bn (f := f) h24 ho _ tw _ _ i1 Wg (by unfold pn_ow; split <;> omega) (by unfold pn_ow; split <;> omega) v y hy
      have vl : v < 24 + li := pd_oc_W _ tf gW v hv
      exact ⟨by omega, q.2.1, q.2.2.1⟩
    · rw [bd, (ho g (by omega)).2.2]
      exact ⟨by omega, by omega, by omega⟩
  exact pm_collects (nv := 24 + li) (ns := si) h24 (show f < 24 by omega) (fb f) tf _ a 900 [] w gW a3 (by omega) (by omega) (fun v hv => ⟨(vr v hv).1, fun w' hw' => by
    have ho' : pm_ho (gs.length + la) w' := fun g hg => by
      rw [hw' 191 g (by omega) (by omega), hw' 193 g (by omega) (by omega)]; exact ho g hg
    have e193 : w' 193 v = w 193 v := hw' _ _ (by omega) (by omega)
    rw [e193, pm_isWithin h24 (by omega) ho' (vr v hv).2.1 (vr v hv).2.2]
    congr 1
    unfold pd_wi
    have : (fun g => w' 191 g) = fun g => w 191 g := funext fun g => hw' _ _ (by omega) (by omega)
    rw [this]⟩) (pm_ff_refl f w) List.nodup_nil (fun v hv => by cases hv) ⟨h0, fun i x q => by cases q⟩
