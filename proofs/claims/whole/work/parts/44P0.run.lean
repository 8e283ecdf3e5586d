/-! THE LAW'S STATE -/
def lw_ap (cl how : Nat) (f : Nat) : Bool := if how = 0 then true else cl.testBit f
/-- the RUN that is kept: none, or one of this program -/
def lw_C (gs : ps_G) (t : pt_T) (la : Nat) (fb : Nat → pt_T) (w : fa_W) : Prop := w 44 5 = -1 ∨ ∃ how cl : Nat, how ≤ 3 ∧ w 44 5 = (how : Int) ∧ bk_C gs la fb t cl ∧ px_rR (rv_E (rv_ev fb (lw_ap cl how) 100 t [] rv_0)) w
/-- the class's half -/
def lw_X (gs : ps_G) (t : pt_T) (la li si nd : Nat) (fb : Nat → pt_T) (sb : pf_sT) (mk : Nat) (bs tp : List Nat) (flt : Int) (w : fa_W) : Prop := (∃ ins os, px_SC (fa_sc (w 0 6)) gs t la li si nd ins os fb sb mk w) ∧ fa_sc (w 0 6) ≠ fa_sc (w 0 7) ∧ px_RL 3 bs w ∧ px_RL 1 tp w ∧ w 0 8 = flt ∧ w 45 1 = 7474 ∧ lw_C gs t la fb w
/-- the reference's half -/
def lw_M (gs : ps_G) (t : pt_T) (la li si nd : Nat) (fb : Nat → pt_T) (sb : pf_sT) (mk : Nat) (bs tp : List Nat) (flt : Int) (w : fa_W) : Prop := pm_IM gs t la li si nd fb sb mk w ∧ pm_KT gs t la li si nd w ∧ pm_O bs w ∧ (w 181 2 = (tp.length : Int) ∧ ∀ (i x : Nat), tp[i]? = some x → w 182 i = pm_sb (x : Int)) ∧ w 181 69 = flt
def lw_B (bs tp : List Nat) (flt : Int) : Prop := bs.length ≤ 7000 ∧ tp.length ≤ 400 ∧ (∀ x ∈ tp, x < 256) ∧ -1 ≤ flt ∧ flt ≤ 400
def lw_I (w : fa_W) : Prop := ∃ (gs : ps_G) (t : pt_T) (la li si nd : Nat) (fb : Nat → pt_T) (sb : pf_sT) (mk : Nat) (bs tp : List Nat) (flt : Int), pf_PR gs t la li si nd fb sb mk ∧ lw_B bs tp flt ∧ lw_X gs t la li si nd fb sb mk bs tp flt w ∧ lw_M gs t la li si nd fb sb mk bs tp flt w
theorem lw_RL {r : Nat} {l : List Nat} {w w' : fa_W} (h : px_RL r l w) (e1 : w' r 1 = w r 1) (e2 : ∀ j, w' (r + 1) j = w (r + 1) j) : px_RL r l w' := ⟨e1.trans h.1, fun i x q => (e2 i).trans (h.2 i x q)⟩
theorem lw_C_ob {gs : ps_G} {t : pt_T} {la : Nat} {fb : Nat → pt_T} {w w' : fa_W} (h : lw_C gs t la fb w) (e : ∀ i j, 44 ≤ i → i ≤ 54 → w' i j = w i j) : lw_C gs t la fb w' := by
  rcases h with h | ⟨how, cl, h1, h2, h3, h4, h5, h6, h7, h8, h9⟩
  · exact Or.inl ((e _ _ (by omega) (by omega)).trans h)
  · exact Or.inr ⟨how, cl, h1, (e _ _ (by omega) (by omega)).trans h2, h3, (e _ _ (by omega) (by omega)).trans h4, (e _ _ (by omega) (by omega)).trans h5, (e _ _ (by omega) (by omega)).trans h6, (e _ _ (by omega) (by omega)).trans h7, (e _ _ (by omega) (by omega)).trans h8, lw_RL h9 (e _ _ (by omega) (by omega)) (fun j => e _ _ (by omega) (by omega))⟩
theorem lw_X_ob {gs : ps_G} {t : pt_T} {la li si nd mk : Nat} {fb : Nat → pt_T} {sb : pf_sT} {bs tp : List Nat} {flt : Int} {w w' : fa_W} (hV : pn_V gs t la li si nd) (h : lw_X gs t la li si nd fb sb mk bs tp flt w) (e0 : ∀ i j, i ≤ 4 → w' i j = w i j) (e45 : ∀ i j, 44 ≤ i → i ≤ 54 → w' i j = w i j) (e : ∀ i j, fa_sc (w 0 6) + 1 ≤ i → i ≤ fa_sc (w 0 6) + 62 → w' i j = w i j) : lw_X gs t la li si nd fb sb mk bs tp flt w' := by
  obtain ⟨⟨ins, os, h1⟩, h2, h3, h4, h5, h6⟩ := h
  have e6 := e0 0 6 (by omega)
  have e7 := e0 0 7 (by omega)
  refine ⟨⟨ins, os, ?_⟩, ?_, lw_RL h3 (e0 _ _ (by omega)) (fun j => e0 _ _ (by omega)), lw_RL h4 (e0 _ _ (by omega)) (fun j => e0 _ _ (by omega)), (e0 _ _ (by omega)).trans h5, (e45 _ _ (by omega) (by omega)).trans h6.1, lw_C_ob h6.2 e45⟩
  · rw [e6]; exact px_SC_ob hV e h1
  · rw [e6, e7]; exact h2
/-- the same with another thing SHOWN -/
theorem lw_X_sh {gs : ps_G} {t : pt_T} {la li si nd mk : Nat} {fb : Nat → pt_T} {sb : pf_sT} {bs bs' tp : List Nat} {flt : Int} {w w' : fa_W} (hV : pn_V gs t la li si nd) (h : lw_X gs t la li si nd fb sb mk bs tp flt w) (e0 : ∀ i j, i ≤ 2 → w' i j = w i j) (e45 : ∀ i j, 44 ≤ i → i ≤ 54 → w' i j = w i j) (e : ∀ i j, fa_sc (w 0 6) + 1 ≤ i → i ≤ fa_sc (w 0 6) + 62 → w' i j = w i j) (hb : px_RL 3 bs' w') : lw_X gs t la li si nd fb sb mk bs' tp flt w' := by
  obtain ⟨⟨ins, os, h1⟩, h2, h3, h4, h5, h6⟩ := h
  have e6 := e0 0 6 (by omega)
  have e7 := e0 0 7 (by omega)
  refine ⟨⟨ins, os, ?_⟩, ?_, hb, lw_RL h4 (e0 _ _ (by omega)) (fun j => e0 _ _ (by omega)), (e0 _ _ (by omega)).trans h5, (e45 _ _ (by omega) (by omega)).trans h6.1, lw_C_ob h6.2 e45⟩
  · rw [e6]; exact px_SC_ob hV e h1
  · rw [e6, e7]; exact h2
theorem lw_IM_ob {gs : ps_G} {t : pt_T} {la li si nd mk : Nat} {fb : Nat → pt_T} {sb : pf_sT} {w w' : fa_W} (hV : pn_V gs t la li si nd) (hG : pf_G gs t la li si fb sb) (h : pm_IM gs t la li si nd fb sb mk w) (e : ∀ i j, 184 ≤ i → i ≤ 223 → i ≠ 197 → w' i j = w i j) (e1 : ∀ j, 16 ≤ j → j ≤ 64 → w' 181 j = w 181 j) : pm_IM gs t la li si nd fb sb mk w' := ⟨pm_AN_ob hV hG (fun i j p => e i j (by omega) (by omega) (by omega)) e1 h.1, pm_CD_ob hG.2.1 hG.2.2.2.1.1 (fun i j p q => e i j (by omega) (by omega) (by omega)) h.2⟩
theorem lw_M_ob {gs : ps_G} {t : pt_T} {la li si nd mk : Nat} {fb : Nat → pt_T} {sb : pf_sT} {bs tp : List Nat} {flt : Int} {w w' : fa_W} (hV : pn_V gs t la li si nd) (hG : pf_G gs t la li si fb sb) (h : lw_M gs t la li si nd fb sb mk bs tp flt w) (e : ∀ i j, 182 ≤ i → i ≤ 224 → w' i j = w i j) (e1 : ∀ j, 2 ≤ j → j ≤ 72 → w' 181 j = w 181 j) : lw_M gs t la li si nd fb sb mk bs tp flt w' := by
  obtain ⟨h1, h2, h3, h4, h5⟩ := h
  refine ⟨lw_IM_ob hV hG h1 (fun i j p q _ => e i j (by omega) (by omega)) (fun j p q => e1 j (by omega) (by omega)), pm_KT_ob (fun j => e _ _ (by omega) (by omega)) (e1 _ (by omega) (by omega)) h2, ⟨(e1 _ (by omega) (by omega)).trans h3.1, fun i x q => (e _ _ (by omega) (by omega)).trans (h3.2 i x q)⟩, ⟨(e1 _ (by omega) (by omega)).trans h4.1, fun i x q => (e _ _ (by omega) (by omega)).trans (h4.2 i x q)⟩, (e1 _ (by omega) (by omega)).trans h5⟩
/-- the same with another thing SHOWN -/
theorem lw_M_sh {gs : ps_G} {t : pt_T} {la li si nd mk : Nat} {fb : Nat → pt_T} {sb : pf_sT} {bs bs' tp : List Nat} {flt : Int} {w w' : fa_W} (hV : pn_V gs t la li si nd) (hG : pf_G gs t la li si fb sb) (h : lw_M gs t la li si nd fb sb mk bs tp flt w) (e : ∀ i j, 182 ≤ i → i ≤ 224 → i ≠ 197 → w' i j = w i j) (e1 : ∀ j, 2 ≤ j → j ≤ 72 → j ≠ 70 → w' 181 j = w 181 j) (hb : pm_O bs' w') : lw_M gs t la li si nd fb sb mk bs' tp flt w' := by
  obtain ⟨h1, h2, h3, h4, h5⟩ := h
  exact ⟨lw_IM_ob hV hG h1 (fun i j p q r => e i j (by omega) (by omega) r) (fun j p q => e1 j (by omega) (by omega) (by omega)), pm_KT_ob (fun j => e _ _ (by omega) (by omega) (by omega)) (e1 _ (by omega) (by omega) (by omega)) h2, hb, ⟨(e1 _ (by omega) (by omega) (by omega)).trans h4.1, fun i x q => (e _ _ (by omega) (by omega) (by omega)).trans (h4.2 i x q)⟩, (e1 _ (by omega) (by omega) (by omega)).trans h5⟩
/-- a call that gives a number and throws nothing: two halves make the whole -/
theorem lw_0 (w : fa_W) : ∀ i j, ¬ (i = 181 ∧ j = 0) → fa_st w 181 0 0 i j = w i j := fun i j p => fa_st_ne p
