theorem pm_Wk {c : Nat → Int} {n s : Nat} (hx : ps_TX c n) (hs : s ≤ n) (hn : n ≤ 40000) : (ps_le (c s) = false ∧ pm_W c n s = 0 ∧ ps_we c n s = s) ∨ (ps_le (c s) = true ∧ ps_tk c n s = 3 ∧ 1048576 < pm_W c n s ∧ pm_W c n s ≤ 1088576) ∨ (ps_le (c s) = true ∧ pk_vw 4 (ps_tv c n s) ∧ ps_tv c n s ≠ 0 ∧ pm_W c n s = pm_cv (ps_tv c n s) ∧ ((ps_kw (ps_tv c n s) = true ∧ ps_tk c n s = ps_tv c n s) ∨ (ps_kw (ps_tv c n s) = false ∧ ps_tk c n s = 2))) := by
  have q := ps_we_p hx s hs
  have hl : ∀ j, s ≤ j → j < s + (ps_we c n s - s) → 97 ≤ c j ∧ c j ≤ 122 := fun j h1 h2 => ps_le_in (q.2.2.2 j h1 (by omega))
  by_cases h : ps_le (c s) = true
  · right
    have hk : ps_we c n s ≠ s := by
      intro e
      rw [e, h] at q
      exact absurd q.2.2.1 (by decide)
    unfold ps_tk ps_tv pm_W
    rw [if_pos h, if_pos h]
    by_cases h4 : 4 < ps_we c n s - s
    · left
      rw [if_pos h4, if_pos h4]
      exact ⟨h, rfl, by omega, by omega⟩
    · right
      rw [if_neg h4, if_neg h4]
      refine ⟨h, pk_vw_wv _ 4 (by omega) hl, ?_, (pm_cvf_wv _ 4 (by omega) hl).symm, ?_⟩
      · have := ps_wv_len (c := c) (s := s) (k := ps_we c n s - s) (by omega) hl
        omega
      · by_cases hw : ps_kw (ps_wv c s (ps_we c n s - s)) = true
        · left; rw [if_pos hw]; exact ⟨hw, rfl⟩
        · right; rw [if_neg hw]; exact ⟨Bool.eq_false_iff.mpr hw, rfl⟩
  · left
    have h := Bool.eq_false_iff.mpr h
    have e : ps_we c n s = s := by
      by_cases e : ps_we c n s = s
      · exact e
      · have := q.2.2.2 s (Nat.le_refl _) (by omega)
        rw [h] at this
        cases this
    refine ⟨h, ?_, e⟩
    unfold pm_W
    rw [e, Nat.sub_self]
    rfl
theorem ps_tk_nle {c : Nat → Int} {n s : Nat} (h : ps_le (c s) = false) : ps_tk c n s < 93 ∧ ps_tk c n s ≠ 2 := by
  unfold ps_tk
  rw [h]
  show (if ps_di (c s) = true then _ else _) < 93 ∧ (if ps_di (c s) = true then _ else _) ≠ 2
  split
  · split <;> omega
  · refine ⟨ps_sg_lt _, ?_⟩
    unfold ps_sg
    split
    · omega
    · split <;> omega
theorem pk_kw_vw {v : Nat} (h : ps_kw v = true) : pk_vw 4 v ∧ 93 ≤ v := by
  unfold ps_kw at h
  have h := of_decide_eq_true h
  rcases h with h | h | h | h | h | h | h <;> subst h <;> refine ⟨?_, by omega⟩ <;> unfold pk_vw <;> unfold pk_vw <;> unfold pk_vw <;> unfold pk_vw <;> unfold pk_vw <;> decide
theorem pm_WK {c : Nat → Int} {n s K : Nat} (hx : ps_TX c n) (hs : s ≤ n) (hn : n ≤ 40000) (hK : ps_kw K = true) : pm_W c n s = pm_cv K ↔ ps_tk c n s = K := by
  have k := pk_kw_vw hK
  have kl := pm_cv_lt k.1
  have kp := pm_cv_pos k.1 (by omega)
  rcases pm_Wk hx hs hn with ⟨h1, h2, _⟩ | ⟨h1, h2, h3, h4⟩ | ⟨h1, h2, h3, h4, h5⟩
  · have := ps_tk_nle (n := n) h1
    constructor <;> intro h <;> omega
  · constructor <;> intro h <;> omega
  · rw [h4]
    constructor
    · intro h
      have e := pm_cvf_inj 4 _ _ h2 k.1 h
      rcases h5 with h5 | h5
      · exact h5.2.trans e
      · rw [e, hK] at h5; exact absurd h5.1 (by decide)
    · intro h
      rcases h5 with h5 | h5
      · rw [← h, h5.2]
      · omega
theorem pm_own {c : Nat → Int} {n s : Nat} (hx : ps_TX c n) (hs : s ≤ n) (hn : n ≤ 40000) (w : fa_W) : fm_Mod_isOwn ((pm_W c n s : Nat) : Int) w = decide (93 ≤ ps_tk c n s) := by
  have W1 := pm_WK (K := 6714734) hx hs hn rfl
  have W2 := pm_WK (K := 26982) hx hs hn rfl
  have W3 := pm_WK (K := 1952998766) hx hs hn rfl
  have W4 := pm_WK (K := 1701606245) hx hs hn rfl
  have W5 := pm_WK (K := 7103860) hx hs hn rfl
  have W6 := pm_WK (K := 26990) hx hs hn rfl
  have W7 := pm_WK (K := 1684365668) hx hs hn rfl
  rw [show pm_cv 6714734 = 4955 from rfl] at W1
  rw [show pm_cv 26982 = 249 from rfl] at W2
  rw [show pm_cv 1952998766 = 399641 from rfl] at W3
  rw [show pm_cv 1701606245 = 107681 from rfl] at W4
  rw [show pm_cv 7103860 = 8903 from rfl] at W5
  rw [show pm_cv 26990 = 257 from rfl] at W6
  rw [show pm_cv 1684365668 = 82408 from rfl] at W7
  have hb : pm_W c n s ≤ 1088576 := by
    rcases pm_Wk hx hs hn with ⟨h1, h2, _⟩ | ⟨h1, h2, h3, h4⟩ | ⟨h1, h2, h3, h4, h5⟩
    · omega
    · omega
    · have := pm_cv_lt h2; omega
  have hw : 93 ≤ ps_tk c n s → ps_tk c n s = 6714734 ∨ ps_tk c n s = 26982 ∨ ps_tk c n s = 1952998766 ∨ ps_tk c n s = 1701606245 ∨ ps_tk c n s = 7103860 ∨ ps_tk c n s = 26990 ∨ ps_tk c n s = 1684365668 := by
    intro h
    have := ps_tk_word h
    have k := this.2.2.1
    rw [← this.2.2.2.1] at k
    unfold ps_kw at k
    exact of_decide_eq_true k
  unfold fm_Mod_isOwn
  rw [pb_wr (by omega)]
  split
  · exact (decide_eq_true (by omega)).symm
  · split
    · exact (decide_eq_true (by omega)).symm
    · split
      · exact (decide_eq_true (by omega)).symm
      · split
        · exact (decide_eq_true (by omega)).symm
        · split
          · exact (decide_eq_true (by omega)).symm
          · split
            · exact (decide_eq_true (by omega)).symm
            · split
              · exact (decide_eq_true (by omega)).symm
              · refine (decide_eq_false (fun h => ?_)).symm
                have := hw h
                omega
theorem ps_tk_sign {c : Nat → Int} {n s k : Nat} (hk : k = 40 ∨ k = 41 ∨ k = 42 ∨ k = 43 ∨ k = 45 ∨ k = 46 ∨ k = 47 ∨ k = 59 ∨ k = 60 ∨ k = 61 ∨ k = 92) : ps_tk c n s = k ↔ c s = (k : Int) := by
  constructor
  · intro h
    unfold ps_tk at h
    split at h
    · split at h
      · omega
      · split at h
        · rename_i hw
          have := pk_kw_vw hw
          omega
        · omega
    · split at h
      · split at h <;> omega
      · unfold ps_sg at h
        split at h
        · omega
        · split at h <;> omega
  · intro h
    unfold ps_tk ps_le ps_di ps_sg
    rw [h, if_neg (by simp; omega), if_neg (by simp; omega), if_pos (by omega)]
    rfl
/-! what the small methods leave: only the place and two scratch numbers have changed; or it has failed -/
def pm_lx (w w' : fa_W) (p : Nat) : Prop := w' 181 26 = (p : Int) ∧ ∀ o k, (o ≠ 181 ∨ (k ≠ 26 ∧ k ≠ 27 ∧ k ≠ 34)) → w' o k = w o k
def pm_fl (w w' : fa_W) (q : Nat) : Prop := w' 181 28 = (q : Int) ∧ (∀ o k, (o ≠ 181 ∨ (k ≠ 26 ∧ k ≠ 27 ∧ k ≠ 28 ∧ k ≠ 34)) → w' o k = w o k) ∧ w' 181 26 = (q : Int)
def pm_po (n : Nat) (w : fa_W) : Prop := ∃ p0 : Nat, w 181 26 = (p0 : Int) ∧ p0 ≤ n
theorem pm_po_fl {n q : Nat} {w w' : fa_W} (h : pm_fl w w' q) (hq : q ≤ n) : pm_po n w' := ⟨q, h.2.2, hq⟩
theorem pm_po_s {n : Nat} {w : fa_W} {o k : Nat} {v : Int} (h : pm_po n w) (hk : o ≠ 181 ∨ k ≠ 26) : pm_po n (fa_st w o k v) := by
  obtain ⟨p0, h1, h2⟩ := h
  exact ⟨p0, by rw [fa_st_ne (by omega)]; exact h1, h2⟩
theorem pm_fails {w : fa_W} (h : w 181 28 = -1) (q : Int) : fm_Mod_fails q w = (-1, fa_st w 181 28 q) := by
  unfold fm_Mod_fails
  rw [h, pb_wr1, if_pos rfl]
  rfl
theorem pm_hf {w : fa_W} (h : w 181 28 = -1) : fm_Mod_hasFailed w = false := by
  unfold fm_Mod_hasFailed
  rw [h, pb_wr1, if_pos rfl]
theorem pm_hft {w : fa_W} {q : Nat} (h : w 181 28 = (q : Int)) (hq : q ≤ 40000) : fm_Mod_hasFailed w = true := by
  unfold fm_Mod_hasFailed
  rw [h, pb_wr (by omega), if_neg (by omega)]
theorem pm_takes {c : Nat → Int} {n : Nat} {w : fa_W} (ht : pm_tx c n w) {p : Nat} (hp : w 181 26 = (p : Int)) (hn : p ≤ n) {k : Nat} (hk : k = 40 ∨ k = 41 ∨ k = 42 ∨ k = 43 ∨ k = 45 ∨ k = 46 ∨ k = 47 ∨ k = 59 ∨ k = 60 ∨ k = 61 ∨ k = 92) : fm_Mod_takes (k : Int) w = if ps_tk c n (ps_sk c n p) = k then some (true, fa_st (pm_bl w (ps_sk c n p)) 181 26 ((ps_sk c n p + 1 : Nat) : Int)) else some (false, pm_bl w (ps_sk c n p)) := by
  have q := ps_sk_p ht.1 p hn
  unfold fm_Mod_takes
  rw [pm_blanks ht hp hn]
  show (fm_Mod_isAt (k : Int) (k : Int) (pm_bl w (ps_sk c n p))).bind _ = _
  rw [pm_isAt (pm_tx_bl ht _) (pm_bl_26 w _) q.2.1 (by omega) (by omega) (by omega)]
  show (if decide ((k : Int) ≤ c (ps_sk c n p) ∧ c (ps_sk c n p) ≤ (k : Int)) = true then some (true, fa_st (pm_bl w (ps_sk c n p)) 181 26 (pm_bl w (ps_sk c n p) 181 26 + 1)) else some (false, pm_bl w (ps_sk c n p))) = _
  have s := ps_tk_sign (c := c) (n := n) (s := ps_sk c n p) hk
  rw [pm_bl_26]
  by_cases h : ps_tk c n (ps_sk c n p) = k
  · rw [if_pos h, if_pos (decide_eq_true (by have := s.mp h; omega))]
    rfl
  · rw [if_neg h, if_neg]
    intro d
    have d := of_decide_eq_true d
    exact h (s.mpr (by omega))
theorem pm_asks {c : Nat → Int} {n : Nat} {w : fa_W} (ht : pm_tx c n w) {p : Nat} (hp : w 181 26 = (p : Int)) (hn : p ≤ n) (hf : w 181 28 = -1) {k : Nat} (hk : k = 40 ∨ k = 41 ∨ k = 42 ∨ k = 43 ∨ k = 45 ∨ k = 46 ∨ k = 47 ∨ k = 59 ∨ k = 60 ∨ k = 61 ∨ k = 92) : pb_ok (fm_Mod_asks (k : Int) w) (fun w' => (ps_tk c n (ps_sk c n p) = k ∧ pm_lx w w' (ps_sk c n p + 1)) ∨ (ps_tk c n (ps_sk c n p) ≠ k ∧ pm_fl w w' (ps_sk c n p))) := by
  unfold fm_Mod_asks
  rw [pm_hf hf, pm_takes ht hp hn hk]
  by_cases h : ps_tk c n (ps_sk c n p) = k
  · rw [if_pos h]
    refine pb_some (Or.inl ⟨h, by (try dsimp only); exact fa_st_eq _ _ _ _, fun o j hj => ?_⟩)
    try dsimp only
    rw [fa_st_ne (by omega), pm_bl_ne _ _ (by omega)]
  · rw [if_neg h]
    have e : pm_bl w (ps_sk c n p) 181 28 = -1 := by rw [pm_bl_ne _ _ (by omega), hf]
    show pb_ok (fa_l2 (fm_Mod_fails (pm_bl w (ps_sk c n p) 181 27) (pm_bl w (ps_sk c n p))) fun v8 w9 => some w9) _
    rw [pm_fails e, pm_bl_27]
    refine pb_some (Or.inr ⟨h, by (try dsimp only); exact fa_st_eq _ _ _ _, fun o j hj => ?_, by (try dsimp only); (repeat rw [fa_st_ne (by decide)]); exact pm_bl_26 _ _⟩)
    try dsimp only
    rw [fa_st_ne (by omega), pm_bl_ne _ _ (by omega)]
theorem pm_asksWord {c : Nat → Int} {n : Nat} {w : fa_W} (ht : pm_tx c n w) {p : Nat} (hp : w 181 26 = (p : Int)) (hn : p ≤ n) (hf : w 181 28 = -1) {K : Nat} (hK : ps_kw K = true) : pb_ok (fm_Mod_asksWord ((pm_cv K : Nat) : Int) w) (fun w' => (ps_tk c n (ps_sk c n p) = K ∧ pm_lx w w' (ps_te c n (ps_sk c n p))) ∨ (ps_tk c n (ps_sk c n p) ≠ K ∧ pm_fl w w' (ps_sk c n p))) := by
  have q := ps_sk_p ht.1 p hn
  have tn := ht.2.1
  have kv := pk_kw_vw hK
  have kl := pm_cv_lt kv.1
  have hW := pm_WK (s := ps_sk c n p) ht.1 q.2.1 tn hK
  have hb : pm_W c n (ps_sk c n p) ≤ 1088576 := by
    rcases pm_Wk ht.1 q.2.1 tn with ⟨h1, h2, _⟩ | ⟨h1, h2, h3, h4⟩ | ⟨h1, h2, h3, h4, h5⟩
    · omega
    · omega
    · have := pm_cv_lt h2; omega
  unfold fm_Mod_asksWord fm_Mod_takesWord
  rw [pm_hf hf, pm_word ht hp hn, if_neg (by decide)]
  show pb_ok (fa_bd (if fa_wr ((pm_W c n (ps_sk c n p) : Nat) : Int) = fa_wr ((pm_cv K : Nat) : Int) then _ else _) _) _
  rw [pb_wr (by omega), pb_wr (by omega)]
  by_cases h : ps_tk c n (ps_sk c n p) = K
  · have wd := ps_word_len ht.1 (s := ps_sk c n p) (by omega)
    have we := ps_tk_word (c := c) (n := n) (s := ps_sk c n p) (by omega)
    have wp := ps_we_p ht.1 (ps_sk c n p) q.2.1
    rw [if_pos (by rw [hW.mpr h])]
    refine pb_some (Or.inl ⟨h, ?_, fun o j hj => ?_⟩)
    · try dsimp only
      rw [fa_st_eq, fa_st_ne (by omega), fa_st_eq, pm_bl_26, we.2.2.2.2]
      omega
    · try dsimp only
      rw [fa_st_ne (by omega), fa_st_ne (by omega), pm_bl_ne _ _ (by omega)]
  · rw [if_neg (by intro e; exact h (hW.mp (by omega)))]
    have e : (fa_st (pm_bl w (ps_sk c n p)) 181 34 ((ps_we c n (ps_sk c n p) - ps_sk c n p : Nat) : Int)) 181 28 = -1 := by rw [fa_st_ne (by omega), pm_bl_ne _ _ (by omega), hf]
    show pb_ok (fa_l2 (fm_Mod_fails _ _) fun v8 w9 => some w9) _
    rw [pm_fails e]
    dsimp only
    rw [fa_st_ne (by omega), pm_bl_27]
    refine pb_some (Or.inr ⟨h, by (try dsimp only); exact fa_st_eq _ _ _ _, fun o j hj => ?_, by (try dsimp only); (repeat rw [fa_st_ne (by decide)]); exact pm_bl_26 _ _⟩)
    try dsimp only
    rw [fa_st_ne (by omega), fa_st_ne (by omega), pm_bl_ne _ _ (by omega)]
theorem pm_gives {c : Nat → Int} {n : Nat} {w : fa_W} (ht : pm_tx c n w) {p : Nat} (hp : w 181 26 = (p : Int)) (hn : p ≤ n) (hf : w 181 28 = -1) : pb_ok (fm_Mod_gives w) (fun r => (ps_tk c n (ps_sk c n p) = 2 ∧ r.1 = ((pm_cv (ps_tv c n (ps_sk c n p)) : Nat) : Int) ∧ pm_lx w r.2 (ps_te c n (ps_sk c n p)) ∧ r.2 181 34 = ((ps_te c n (ps_sk c n p) - ps_sk c n p : Nat) : Int)) ∨ (ps_tk c n (ps_sk c n p) ≠ 2 ∧ pm_fl w r.2 (ps_sk c n p))) := by
  have q := ps_sk_p ht.1 p hn
  have tn := ht.2.1
  have own := pm_own (s := ps_sk c n p) ht.1 q.2.1 tn
  have hb : pm_W c n (ps_sk c n p) ≤ 1088576 := by
    rcases pm_Wk ht.1 q.2.1 tn with ⟨h1, h2, _⟩ | ⟨h1, h2, h3, h4⟩ | ⟨h1, h2, h3, h4, h5⟩
    · omega
    · omega
    · have := pm_cv_lt h2; omega
  unfold fm_Mod_gives
  rw [pm_hf hf, pm_word ht hp hn]
  have e : (fa_st (pm_bl w (ps_sk c n p)) 181 34 ((ps_we c n (ps_sk c n p) - ps_sk c n p : Nat) : Int)) 181 28 = -1 := by rw [fa_st_ne (by omega), pm_bl_ne _ _ (by omega), hf]
  have bad : ps_tk c n (ps_sk c n p) ≠ 2 → pb_ok (fm_Mod_gives_j31 (fa_st (pm_bl w (ps_sk c n p)) 181 34 ((ps_we c n (ps_sk c n p) - ps_sk c n p : Nat) : Int))) (fun r => (ps_tk c n (ps_sk c n p) = 2 ∧ r.1 = ((pm_cv (ps_tv c n (ps_sk c n p)) : Nat) : Int) ∧ pm_lx w r.2 (ps_te c n (ps_sk c n p)) ∧ r.2 181 34 = ((ps_te c n (ps_sk c n p) - ps_sk c n p : Nat) : Int)) ∨ (ps_tk c n (ps_sk c n p) ≠ 2 ∧ pm_fl w r.2 (ps_sk c n p))) := by
    intro h2
    unfold fm_Mod_gives_j31
    rw [pm_fails e, fa_st_ne (by omega), pm_bl_27]
    refine pb_some (Or.inr ⟨h2, by (try dsimp only); exact fa_st_eq _ _ _ _, fun o j hj => ?_, by (try dsimp only); (repeat rw [fa_st_ne (by decide)]); exact pm_bl_26 _ _⟩)
    try dsimp only
    rw [fa_st_ne (by omega), fa_st_ne (by omega), pm_bl_ne _ _ (by omega)]
  show pb_ok (if fa_wr ((pm_W c n (ps_sk c n p) : Nat) : Int) = 0 then _ else if 1048576 < fa_wr ((pm_W c n (ps_sk c n p) : Nat) : Int) then _ else if fm_Mod_isOwn ((pm_W c n (ps_sk c n p) : Nat) : Int) _ = true then _ else _) _
  rw [pb_wr (by omega), own]
  rcases pm_Wk ht.1 q.2.1 tn with ⟨h1, h2, h3⟩ | ⟨h1, h2, h3, h4⟩ | ⟨h1, h2, h3, h4, h5⟩
  · rw [if_pos (by omega)]
    exact bad (ps_tk_nle h1).2
  · rw [if_neg (by omega), if_pos (by omega)]
    exact bad (by omega)
  · have l1 := pm_cv_lt h2
    have l2 := pm_cv_pos h2 h3
    rw [if_neg (by omega), if_neg (by omega)]
    rcases h5 with ⟨h5, h6⟩ | ⟨h5, h6⟩
    · rw [if_pos (decide_eq_true (by have := pk_kw_vw h5; omega))]
      exact bad (by have := pk_kw_vw h5; omega)
    · rw [if_neg (by rw [h6]; decide)]
      have wp := ps_we_p ht.1 (ps_sk c n p) q.2.1
      have t2 := ps_kw_tk2 h6
      refine pb_some (Or.inl ⟨h6, ?_, ⟨?_, fun o j hj => ?_⟩, ?_⟩)
      · show ((pm_W c n (ps_sk c n p) : Nat) : Int) = _
        rw [h4]
      · try dsimp only
        rw [fa_st_eq, fa_st_ne (by omega), fa_st_eq, pm_bl_26, t2.2.2.2.2]
        omega
      · try dsimp only
        rw [fa_st_ne (by omega), fa_st_ne (by omega), pm_bl_ne _ _ (by omega)]
      · try dsimp only
        rw [fa_st_ne (by omega), fa_st_eq, t2.2.2.2.2]
theorem pm_atomAhead {c : Nat → Int} {n : Nat} {w : fa_W} (ht : pm_tx c n w) {p : Nat} (hp : w 181 26 = (p : Int)) (hn : p ≤ n) : pb_ok (fm_Mod_isAtomAhead w) (fun r => r.1 = ps_sa c n (ps_sk c n p) ∧ pm_lx w r.2 (ps_sk c n p)) := by
  have q := ps_sk_p ht.1 p hn
  have tn := ht.2.1
  have own := pm_own (s := ps_sk c n p) ht.1 q.2.1 tn
  have hD := pm_WK (s := ps_sk c n p) (K := 1684365668) ht.1 q.2.1 tn rfl
  rw [show pm_cv 1684365668 = 82408 from rfl] at hD
  have hb : pm_W c n (ps_sk c n p) ≤ 1088576 := by
    rcases pm_Wk ht.1 q.2.1 tn with ⟨h1, h2, _⟩ | ⟨h1, h2, h3, h4⟩ | ⟨h1, h2, h3, h4, h5⟩
    · omega
    · omega
    · have := pm_cv_lt h2; omega
  unfold fm_Mod_isAtomAhead
  rw [pm_word ht hp hn]
  have lx : pm_lx w (fa_st (pm_bl w (ps_sk c n p)) 181 34 ((ps_we c n (ps_sk c n p) - ps_sk c n p : Nat) : Int)) (ps_sk c n p) := by
    refine ⟨by rw [fa_st_ne (by omega), pm_bl_26], fun o j hj => ?_⟩
    try dsimp only
    rw [fa_st_ne (by omega), pm_bl_ne _ _ (by omega)]
  have j23 : ps_le (c (ps_sk c n p)) = false ∨ 93 ≤ ps_tk c n (ps_sk c n p) ∧ ps_tk c n (ps_sk c n p) ≠ 1684365668 → pb_ok (fm_Mod_isAtomAhead_j23 (fa_st (pm_bl w (ps_sk c n p)) 181 34 ((ps_we c n (ps_sk c n p) - ps_sk c n p : Nat) : Int))) (fun r => r.1 = ps_sa c n (ps_sk c n p) ∧ pm_lx w r.2 (ps_sk c n p)) := by
    intro hc
    unfold fm_Mod_isAtomAhead_j23
    rw [pm_isAt (pm_tx_st (pm_tx_bl ht _) (by omega)) lx.1 q.2.1 (by omega) (by omega) (by omega), pm_isAt (pm_tx_st (pm_tx_bl ht _) (by omega)) lx.1 q.2.1 (by omega) (by omega) (by omega)]
    have s := ps_tk_sign (c := c) (n := n) (s := ps_sk c n p) (k := 40) (by omega)
    show pb_ok (if decide (40 ≤ c (ps_sk c n p) ∧ c (ps_sk c n p) ≤ 40) = true then some (true, _) else if decide (48 ≤ c (ps_sk c n p) ∧ c (ps_sk c n p) ≤ 57) = true then some (true, _) else some (false, _)) _
    have hle : ps_le (c (ps_sk c n p)) = true → 97 ≤ c (ps_sk c n p) := fun h => (ps_le_in h).1
    have kwl : 93 ≤ ps_tk c n (ps_sk c n p) → ps_le (c (ps_sk c n p)) = true := fun h => (ps_tk_word h).1
    split
    · rename_i h
      have h := of_decide_eq_true h
      refine pb_some ⟨?_, lx⟩
      show true = _
      unfold ps_sa
      exact (decide_eq_true (Or.inr (Or.inr (Or.inr (Or.inl (s.mpr (by omega))))))).symm
    · rename_i h
      have h : ¬ (40 ≤ c (ps_sk c n p) ∧ c (ps_sk c n p) ≤ 40) := fun d => h (decide_eq_true d)
      split
      · rename_i h1
        have h1 := of_decide_eq_true h1
        refine pb_some ⟨?_, lx⟩
        show true = _
        unfold ps_sa
        have d : ps_di (c (ps_sk c n p)) = true := by unfold ps_di; exact decide_eq_true h1
        have l : ps_le (c (ps_sk c n p)) = false := by unfold ps_le; exact decide_eq_false (by omega)
        have : ps_tk c n (ps_sk c n p) = 1 ∨ ps_tk c n (ps_sk c n p) = 3 := by
          unfold ps_tk
          rw [l, d]
          show (if 4 < _ then 3 else 1) = 1 ∨ (if 4 < _ then 3 else 1) = 3
          split <;> omega
        rcases this with t | t
        · exact (decide_eq_true (Or.inl t)).symm
        · exact (decide_eq_true (Or.inr (Or.inr (Or.inr (Or.inr ⟨t, Or.inr d⟩))))).symm
      · rename_i h1
        have h1 : ¬ (48 ≤ c (ps_sk c n p) ∧ c (ps_sk c n p) ≤ 57) := fun d => h1 (decide_eq_true d)
        refine pb_some ⟨?_, lx⟩
        show false = _
        unfold ps_sa
        refine (decide_eq_false (fun hs => ?_)).symm
        have d : ps_di (c (ps_sk c n p)) = false := by unfold ps_di; exact decide_eq_false h1
        rcases hs with t | t | t | t | t
        · have := (ps_num ht.1 t).2.1; rw [d] at this; cases this
        · rcases hc with l | l
          · exact (ps_tk_nle l).2 t
          · omega
        · rcases hc with l | l
          · have := (ps_tk_nle (n := n) l).1; omega
          · exact l.2 t
        · have := s.mp t; omega
        · rcases hc with l | l
          · rw [l, d] at t; rcases t.2 with t | t <;> cases t
          · omega
  show pb_ok (if fa_wr ((pm_W c n (ps_sk c n p) : Nat) : Int) = 82408 then some (true, _) else if fa_wr ((pm_W c n (ps_sk c n p) : Nat) : Int) = 0 then _ else if fm_Mod_isOwn ((pm_W c n (ps_sk c n p) : Nat) : Int) _ = true then _ else some (true, _)) _
  rw [pb_wr (by omega), own]
  split
  · rename_i h
    refine pb_some ⟨?_, lx⟩
    show true = _
    unfold ps_sa
    exact (decide_eq_true (Or.inr (Or.inr (Or.inl (hD.mp (by omega)))))).symm
  · rename_i h
    split
    · rename_i h0
      refine j23 (Or.inl ?_)
      rcases pm_Wk ht.1 q.2.1 tn with ⟨h1, h2, h3⟩ | ⟨h1, h2, h3, h4⟩ | ⟨h1, h2, h3, h4, h5⟩
      · exact h1
      · omega
      · have := pm_cv_pos h2 h3; omega
    · rename_i h0
      split
      · rename_i ho
        have ho := of_decide_eq_true ho
        exact j23 (Or.inr ⟨ho, fun e => h (by have := hD.mpr e; omega)⟩)
      · rename_i ho
        have ho : ¬ 93 ≤ ps_tk c n (ps_sk c n p) := fun d => ho (decide_eq_true d)
        refine pb_some ⟨?_, lx⟩
        show true = _
        unfold ps_sa
        refine (decide_eq_true ?_).symm
        rcases pm_Wk ht.1 q.2.1 tn with ⟨h1, h2, h3⟩ | ⟨h1, h2, h3, h4⟩ | ⟨h1, h2, h3, h4, h5⟩
        · omega
        · exact Or.inr (Or.inr (Or.inr (Or.inr ⟨h2, Or.inl h1⟩)))
        · rcases h5 with ⟨h5, h6⟩ | ⟨h5, h6⟩
          · have := pk_kw_vw h5; omega
          · exact Or.inr (Or.inl h6)
