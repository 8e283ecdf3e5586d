/-! PHASE B. The reference's words: what its reader's small methods do, over the text as it is told -/
theorem pb_st_st (w : fa_W) (o k : Nat) (a b : Int) : fa_st (fa_st w o k a) o k b = fa_st w o k b := by
  funext o' k'
  unfold fa_st
  split <;> rfl
theorem pb_st_id {w : fa_W} {o k : Nat} {a : Int} (h : w o k = a) : fa_st w o k a = w := by
  funext o' k'
  unfold fa_st
  split
  · rename_i q; rw [q.1, q.2, h]
  · rfl
theorem pb_st_comm (w : fa_W) {o k o2 k2 : Nat} (a b : Int) (h : ¬ (o = o2 ∧ k = k2)) : fa_st (fa_st w o k a) o2 k2 b = fa_st (fa_st w o2 k2 b) o k a := by
  funext o' k'
  unfold fa_st
  by_cases h1 : o' = o2 ∧ k' = k2
  · by_cases h2 : o' = o ∧ k' = k
    · exact absurd ⟨h2.1.symm.trans h1.1, h2.2.symm.trans h1.2⟩ h
    · rw [if_pos h1, if_neg h2, if_pos h1]
  · by_cases h2 : o' = o ∧ k' = k
    · rw [if_neg h1, if_pos h2, if_pos h2]
    · rw [if_neg h1, if_neg h2, if_neg h2, if_neg h1]
def pm_sb (x : Int) : Int := if x < 128 then x else x - 256
def pm_tx (c : Nat → Int) (n : Nat) (w : fa_W) : Prop := ps_TX c n ∧ n ≤ 40000 ∧ w 181 25 = (n : Int) ∧ ∀ k, k < n → w 196 k = pm_sb (c k)
theorem pm_tx_of {c : Nat → Int} {n : Nat} {w w' : fa_W} (h : pm_tx c n w) (h1 : w' 181 25 = w 181 25) (h2 : ∀ k, w' 196 k = w 196 k) : pm_tx c n w' := ⟨h.1, h.2.1, by rw [h1]; exact h.2.2.1, fun k hk => by rw [h2]; exact h.2.2.2 k hk⟩
theorem pm_tx_st {c : Nat → Int} {n : Nat} {w : fa_W} (h : pm_tx c n w) {k : Nat} {v : Int} (hk : k ≠ 25) : pm_tx c n (fa_st w 181 k v) := pm_tx_of h (fa_st_ne (fun q => hk q.2.symm)) (fun j => fa_st_ne (fun q => by omega))
theorem pm_isAt {c : Nat → Int} {n : Nat} {w : fa_W} (ht : pm_tx c n w) {p : Nat} (hp : w 181 26 = (p : Int)) (hn : p ≤ n) {lo hi : Int} (h1 : 0 < lo) (h2 : hi < 128) (h3 : lo ≤ hi) : fm_Mod_isAt lo hi w = some (decide (lo ≤ c p ∧ c p ≤ hi)) := by
  have tn := ht.2.1
  unfold fm_Mod_isAt
  rw [ht.2.2.1, hp, pb_wr (n := p) (by omega), pb_wr (n := n) (by omega)]
  by_cases hpn : (n : Int) ≤ p
  · rw [if_pos hpn, ht.1.1 p (by omega)]
    congr 1
    symm
    exact decide_eq_false (by omega)
  · have hb := ht.1.2 p (by omega)
    rw [if_neg hpn, pb_ix (by omega) (by omega)]
    show (if fa_wr (w 196 p) < fa_wr lo then some false else (if fa_wr hi < fa_wr (w 196 p) then some false else some true)) = _
    have es : fa_wr (pm_sb (c p)) = pm_sb (c p) := fa_wr_id (by unfold pm_sb; split <;> omega) (by unfold pm_sb; split <;> omega)
    rw [ht.2.2.2 p (by omega), es, fa_wr_id (x := lo) (by omega) (by omega), fa_wr_id (x := hi) (by omega) (by omega)]
    unfold pm_sb
    split
    · split
      · congr 1; symm; exact decide_eq_false (by omega)
      · split
        · congr 1; symm; exact decide_eq_false (by omega)
        · congr 1; symm; exact decide_eq_true (by omega)
    · rw [if_pos (by omega)]
      congr 1; symm; exact decide_eq_false (by omega)
def pm_bl (w : fa_W) (s : Nat) : fa_W := fa_st (fa_st w 181 26 (s : Int)) 181 27 (s : Int)
theorem pm_blanks_l {c : Nat → Int} {n : Nat} : ∀ (d : Nat) (f p : Nat) (w : fa_W), pm_tx c n w → w 181 26 = (p : Int) → p + d = n → d < f → fm_Mod_blanks_l0 f w = some (pm_bl w (ps_run ps_bl c d p)) := by
  intro d
  induction d with
  | zero =>
    intro f p w ht hp hd hf
    obtain ⟨f, rfl⟩ : ∃ z, f = z + 1 := ⟨f - 1, by omega⟩
    unfold fm_Mod_blanks_l0
    rw [pm_isAt ht hp (by omega) (by omega) (by omega) (by omega), pm_isAt ht hp (by omega) (by omega) (by omega) (by omega), ht.1.1 p (by omega)]
    show some (fa_st w 181 27 (w 181 26)) = _
    rw [hp]
    unfold pm_bl
    show _ = some (fa_st (fa_st w 181 26 (p : Int)) 181 27 (p : Int))
    rw [pb_st_id hp]
  | succ d ih =>
    intro f p w ht hp hd hf
    obtain ⟨f, rfl⟩ : ∃ z, f = z + 1 := ⟨f - 1, by omega⟩
    unfold fm_Mod_blanks_l0
    rw [pm_isAt ht hp (by omega) (by omega) (by omega) (by omega), pm_isAt ht hp (by omega) (by omega) (by omega) (by omega)]
    have step : ps_bl (c p) = true → fm_Mod_blanks_l0 f (fa_st w 181 26 (w 181 26 + 1)) = some (pm_bl w (ps_run ps_bl c (d + 1) p)) := by
      intro hb
      have e : w 181 26 + 1 = ((p + 1 : Nat) : Int) := by rw [hp]; omega
      rw [e, ih f (p + 1) (fa_st w 181 26 ((p + 1 : Nat) : Int)) (pm_tx_st ht (by omega)) (fa_st_eq _ _ _ _) (by omega) (by omega)]
      unfold pm_bl
      rw [pb_st_st]
      have e2 : ps_run ps_bl c (d + 1) p = ps_run ps_bl c d (p + 1) := by
        show (if ps_bl (c p) = true then _ else _) = _
        rw [if_pos hb]
      rw [e2]
    show (if decide (9 ≤ c p ∧ c p ≤ 10) = true then fm_Mod_blanks_l0 f (fa_st w 181 26 (w 181 26 + 1)) else (if decide (32 ≤ c p ∧ c p ≤ 32) = true then fm_Mod_blanks_l0 f (fa_st w 181 26 (w 181 26 + 1)) else some (fa_st w 181 27 (w 181 26)))) = _
    split
    · rename_i h
      have h := of_decide_eq_true h
      exact step (by unfold ps_bl; exact decide_eq_true (by omega))
    · rename_i h
      have h : ¬ (9 ≤ c p ∧ c p ≤ 10) := fun q => h (decide_eq_true q)
      split
      · rename_i h2
        have h2 := of_decide_eq_true h2
        exact step (by unfold ps_bl; exact decide_eq_true (by omega))
      · rename_i h2
        have h2 : ¬ (32 ≤ c p ∧ c p ≤ 32) := fun q => h2 (decide_eq_true q)
        have hb : ps_bl (c p) = false := by unfold ps_bl; exact decide_eq_false (by omega)
        have e2 : ps_run ps_bl c (d + 1) p = p := by
          show (if ps_bl (c p) = true then _ else _) = _
          rw [hb]; rfl
        rw [e2, hp]
        unfold pm_bl
        rw [pb_st_id hp]
theorem pm_blanks {c : Nat → Int} {n : Nat} {w : fa_W} (ht : pm_tx c n w) {p : Nat} (hp : w 181 26 = (p : Int)) (hn : p ≤ n) : fm_Mod_blanks w = some (pm_bl w (ps_sk c n p)) := by
  have tn := ht.2.1
  exact pm_blanks_l (n - p) fa_FU p w ht hp (by omega) (by unfold fa_FU; omega)
theorem pm_bl_26 (w : fa_W) (s : Nat) : pm_bl w s 181 26 = (s : Int) := by
  unfold pm_bl
  rw [fa_st_ne (by omega), fa_st_eq]
theorem pm_bl_27 (w : fa_W) (s : Nat) : pm_bl w s 181 27 = (s : Int) := by
  unfold pm_bl
  rw [fa_st_eq]
theorem pm_bl_ne (w : fa_W) (s : Nat) {o k : Nat} (h : o ≠ 181 ∨ (k ≠ 26 ∧ k ≠ 27)) : pm_bl w s o k = w o k := by
  unfold pm_bl
  rw [fa_st_ne (by omega), fa_st_ne (by omega)]
theorem pm_tx_bl {c : Nat → Int} {n : Nat} {w : fa_W} (h : pm_tx c n w) (s : Nat) : pm_tx c n (pm_bl w s) := pm_tx_st (pm_tx_st h (by omega)) (by omega)
/-! words in the reference's numbers -/
def pm_cw (c : Nat → Int) (s : Nat) : Nat → Nat
  | 0 => 0
  | k + 1 => 27 * pm_cw c s k + ((c (s + k)).toNat - 96)
def pm_cvf : Nat → Nat → Nat
  | 0, _ => 0
  | f + 1, v => if v = 0 then 0 else 27 * pm_cvf f (v / 256) + (v % 256 - 96)
def pm_cv (v : Nat) : Nat := pm_cvf 4 v
theorem pm_cvf_wv {c : Nat → Int} {s : Nat} : ∀ k f, k ≤ f → (∀ j, s ≤ j → j < s + k → 97 ≤ c j ∧ c j ≤ 122) → pm_cvf f (ps_wv c s k) = pm_cw c s k := by
  intro k
  induction k with
  | zero =>
    intro f _ _
    cases f with
    | zero => rfl
    | succ f => rfl
  | succ k ih =>
    intro f hf hl
    obtain ⟨g, rfl⟩ : ∃ g, f = g + 1 := ⟨f - 1, by omega⟩
    have h0 := hl (s + k) (by omega) (by omega)
    have i := ih g (by omega) (fun j h1 h2 => hl j h1 (by omega))
    show (if 256 * ps_wv c s k + (c (s + k)).toNat = 0 then 0 else 27 * pm_cvf g ((256 * ps_wv c s k + (c (s + k)).toNat) / 256) + ((256 * ps_wv c s k + (c (s + k)).toNat) % 256 - 96)) = 27 * pm_cw c s k + ((c (s + k)).toNat - 96)
    have e : (256 * ps_wv c s k + (c (s + k)).toNat) / 256 = ps_wv c s k := by omega
    have e2 : (256 * ps_wv c s k + (c (s + k)).toNat) % 256 = (c (s + k)).toNat := by omega
    rw [if_neg (by omega), e, e2, i]
theorem pm_cvf_inj : ∀ f v u, pk_vw f v → pk_vw f u → pm_cvf f v = pm_cvf f u → v = u := by
  intro f
  induction f with
  | zero => intro v u hv hu _; exact hv.trans hu.symm
  | succ f ih =>
    intro v u hv hu h
    unfold pm_cvf at h
    rcases hv with rfl | hv
    · rcases hu with rfl | hu
      · rfl
      · rw [if_pos rfl, if_neg (by omega)] at h; omega
    · rcases hu with rfl | hu
      · rw [if_pos rfl, if_neg (by omega)] at h; omega
      · rw [if_neg (by omega), if_neg (by omega)] at h
        have := ih (v / 256) (u / 256) hv.2.2 hu.2.2 (by omega)
        omega
theorem pm_cvf_lt : ∀ f v, pk_vw f v → pm_cvf f v < 27 ^ f := by
  intro f
  induction f with
  | zero => intro v _; exact Nat.one_pos
  | succ f ih =>
    intro v hv
    unfold pm_cvf
    rw [Nat.pow_succ]
    rcases hv with rfl | hv
    · rw [if_pos rfl]; have := Nat.pow_pos (n := f) (show 0 < 27 by omega); omega
    · rw [if_neg (by omega)]
      have := ih (v / 256) hv.2.2
      omega
theorem pm_cv_inj {v u : Nat} (hv : pk_nm v) (hu : pk_nm u) (h : pm_cv v = pm_cv u) : v = u := pm_cvf_inj 4 v u hv.1 hu.1 h
theorem pm_cv_lt {v : Nat} (hv : pk_vw 4 v) : pm_cv v < 531441 := pm_cvf_lt 4 v hv
theorem pm_cv_pos {v : Nat} (hv : pk_vw 4 v) (h : v ≠ 0) : 0 < pm_cv v := by
  unfold pm_cv pm_cvf
  rw [if_neg h]
  rcases hv with hv | hv
  · exact absurd hv h
  · omega
/-- the word ahead as the reference tells it -/
def pm_W (c : Nat → Int) (n s : Nat) : Nat := if 4 < ps_we c n s - s then 1048576 + (ps_we c n s - s) else pm_cw c s (ps_we c n s - s)
theorem pm_cw_lt {c : Nat → Int} {s : Nat} : ∀ k, (∀ j, s ≤ j → j < s + k → 97 ≤ c j ∧ c j ≤ 122) → pm_cw c s k < 27 ^ k := by
  intro k
  induction k with
  | zero => intro _; exact Nat.one_pos
  | succ k ih =>
    intro hl
    have := ih (fun j h1 h2 => hl j h1 (by omega))
    have h0 := hl (s + k) (by omega) (by omega)
    rw [Nat.pow_succ]
    show 27 * pm_cw c s k + ((c (s + k)).toNat - 96) < _
    omega
theorem pm_word_l {c : Nat → Int} {n s : Nat} {w : fa_W} (ht : pm_tx c n w) (hs : w 181 26 = (s : Int)) (hn : s ≤ n) : ∀ (d j f : Nat), j + d = ps_we c n s - s → d < f → fm_Mod_wordAhead_l11 f ((s + j : Nat) : Int) ((pm_cw c s (min j 4) : Nat) : Int) w = some (((pm_W c n s : Nat) : Int), fa_st w 181 34 ((ps_we c n s - s : Nat) : Int)) := by
  have tn := ht.2.1
  have q := ps_we_p ht.1 s hn
  have hl : ∀ j, s ≤ j → j < ps_we c n s → 97 ≤ c j ∧ c j ≤ 122 := fun j h1 h2 => ps_le_in (q.2.2.2 j h1 h2)
  intro d
  induction d with
  | zero =>
    intro j f hj hf
    obtain ⟨f, rfl⟩ : ∃ z, f = z + 1 := ⟨f - 1, by omega⟩
    have ej : s + j = ps_we c n s := by omega
    have jn : fm_Mod_wordAhead_j74 ((s + j : Nat) : Int) ((pm_cw c s (min j 4) : Nat) : Int) w = some (((pm_W c n s : Nat) : Int), fa_st w 181 34 ((ps_we c n s - s : Nat) : Int)) := by
      unfold fm_Mod_wordAhead_j74
      have e : ((s + j : Nat) : Int) - w 181 26 = ((ps_we c n s - s : Nat) : Int) := by rw [hs, ej]; omega
      rw [e]
      show (if fa_wr (fa_st w 181 34 ((ps_we c n s - s : Nat) : Int) 181 34) ≤ 4 then some (((pm_cw c s (min j 4) : Nat) : Int), fa_st w 181 34 ((ps_we c n s - s : Nat) : Int)) else some (1048576 + (fa_st w 181 34 ((ps_we c n s - s : Nat) : Int) 181 34), fa_st w 181 34 ((ps_we c n s - s : Nat) : Int))) = _
      rw [fa_st_eq, pb_wr (by omega)]
      unfold pm_W
      split
      · rw [if_neg (by omega)]
        have : min j 4 = ps_we c n s - s := by omega
        rw [this]
      · rw [if_pos (by omega)]
        congr 1
    unfold fm_Mod_wordAhead_l11
    rw [ht.2.2.1, pb_wr (n := s + j) (by omega), pb_wr (n := n) (by omega)]
    split
    · exact jn
    · have hb := ht.1.2 (s + j) (by omega)
      have hnl := q.2.2.1
      rw [← ej] at hnl
      rw [pb_ix (by omega) (by omega)]
      show (if fa_wr (w 196 (s + j)) < 97 then fm_Mod_wordAhead_j74 _ _ w else (if 122 < fa_wr (w 196 (s + j)) then fm_Mod_wordAhead_j74 _ _ w else _)) = _
      have es : fa_wr (pm_sb (c (s + j))) = pm_sb (c (s + j)) := fa_wr_id (by unfold pm_sb; split <;> omega) (by unfold pm_sb; split <;> omega)
      rw [ht.2.2.2 (s + j) (by omega), es]
      split
      · exact jn
      · split
        · exact jn
        · exfalso
          rename_i h1 h2
          unfold ps_le at hnl
          have := of_decide_eq_false hnl
          unfold pm_sb at h1 h2
          split at h1 <;> omega
  | succ d ih =>
    intro j f hj hf
    obtain ⟨f, rfl⟩ : ∃ z, f = z + 1 := ⟨f - 1, by omega⟩
    have hc := hl (s + j) (by omega) (by omega)
    unfold fm_Mod_wordAhead_l11
    rw [ht.2.2.1, pb_wr (n := s + j) (by omega), pb_wr (n := n) (by omega), if_neg (by omega), pb_ix (by omega) (by omega)]
    show (if fa_wr (w 196 (s + j)) < 97 then fm_Mod_wordAhead_j74 _ _ w else (if 122 < fa_wr (w 196 (s + j)) then fm_Mod_wordAhead_j74 _ _ w else (if 4 ≤ fa_wr (((s + j : Nat) : Int) - w 181 26) then fm_Mod_wordAhead_l11 f (((s + j : Nat) : Int) + 1) _ w else fm_Mod_wordAhead_l11 f (((s + j : Nat) : Int) + 1) ((((27 * ((pm_cw c s (min j 4) : Nat) : Int)) + (w 196 (s + j))) - 97) + 1) w))) = _
    have esb : pm_sb (c (s + j)) = c (s + j) := by unfold pm_sb; rw [if_pos (by omega)]
    have es : fa_wr (c (s + j)) = c (s + j) := fa_wr_id (by omega) (by omega)
    have ed : fa_wr (((s + j : Nat) : Int) - w 181 26) = (j : Int) := by
      rw [hs, show ((s + j : Nat) : Int) - (s : Int) = ((j : Nat) : Int) by omega]
      exact pb_wr (by omega)
    have e1 : ((s + j : Nat) : Int) + 1 = ((s + (j + 1) : Nat) : Int) := by omega
    rw [ht.2.2.2 (s + j) (by omega), esb, es, if_neg (by omega), if_neg (by omega), ed, e1]
    split
    · have i := ih (j + 1) f (by omega) (by omega)
      rw [show min (j + 1) 4 = min j 4 by omega] at i
      exact i
    · have i := ih (j + 1) f (by omega) (by omega)
      rw [show min (j + 1) 4 = (min j 4) + 1 by omega] at i
      have e3 : ((pm_cw c s (min j 4 + 1) : Nat) : Int) = 27 * ((pm_cw c s (min j 4) : Nat) : Int) + c (s + j) - 97 + 1 := by
        show ((27 * pm_cw c s (min j 4) + ((c (s + min j 4)).toNat - 96) : Nat) : Int) = _
        rw [show min j 4 = j by omega]
        omega
      rw [e3] at i
      exact i
theorem pm_word {c : Nat → Int} {n : Nat} {w : fa_W} (ht : pm_tx c n w) {p : Nat} (hp : w 181 26 = (p : Int)) (hn : p ≤ n) : fm_Mod_wordAhead w = some (((pm_W c n (ps_sk c n p) : Nat) : Int), fa_st (pm_bl w (ps_sk c n p)) 181 34 ((ps_we c n (ps_sk c n p) - ps_sk c n p : Nat) : Int)) := by
  have tn := ht.2.1
  have q := ps_sk_p ht.1 p hn
  unfold fm_Mod_wordAhead
  rw [pm_blanks ht hp hn]
  show fm_Mod_wordAhead_l11 fa_FU (pm_bl w (ps_sk c n p) 181 26) 0 (pm_bl w (ps_sk c n p)) = _
  rw [pm_bl_26]
  have := pm_word_l (pm_tx_bl ht (ps_sk c n p)) (pm_bl_26 w _) q.2.1 (ps_we c n (ps_sk c n p) - ps_sk c n p) 0 fa_FU (by omega) (by have := ps_we_p ht.1 _ q.2.1; unfold fa_FU; omega)
  exact this
