/-! what is written can be read: places of a text -/
def pr_ws (c : Nat → Int) (p : Nat) (bs : List Nat) : Prop := ∀ (j x : Nat), bs[j]? = some x → c (p + j) = (x : Int)
theorem pr_ws_app {c : Nat → Int} {p : Nat} {a b : List Nat} (h : pr_ws c p (a ++ b)) : pr_ws c p a ∧ pr_ws c (p + a.length) b := by
  constructor
  · intro j x q
    have hj : j < a.length := by
      by_cases z : j < a.length
      · exact z
      · rw [List.getElem?_eq_none (by omega)] at q; cases q
    exact h j x (by rw [List.getElem?_append_left hj]; exact q)
  · intro j x q
    have := h (a.length + j) x (by rw [List.getElem?_append_right (by omega), Nat.add_sub_cancel_left]; exact q)
    rw [← Nat.add_assoc] at this
    exact this
theorem pr_ws_1 {c : Nat → Int} {p x : Nat} {b : List Nat} (h : pr_ws c p (x :: b)) : c p = (x : Int) ∧ pr_ws c (p + 1) b := by
  refine ⟨h 0 x rfl, fun j y q => ?_⟩
  have := h (j + 1) y q
  rw [show p + (j + 1) = p + 1 + j by omega] at this
  exact this
theorem pr_run0 {q : Int → Bool} {c : Nat → Int} {f p : Nat} (h : q (c p) = false) : ps_run q c f p = p := by
  cases f with
  | zero => rfl
  | succ f =>
    show (if q (c p) = true then _ else p) = p
    rw [if_neg (by rw [h]; decide)]
theorem pr_run1 {q : Int → Bool} {c : Nat → Int} {n p : Nat} (hp : p < n) (h : q (c p) = true) : ps_run q c (n - p) p = ps_run q c (n - (p + 1)) (p + 1) := by
  obtain ⟨f, hf⟩ : ∃ f, n - p = f + 1 := ⟨n - p - 1, by omega⟩
  rw [hf, show n - (p + 1) = f by omega]
  show (if q (c p) = true then _ else p) = _
  rw [if_pos h]
theorem pr_runN {q : Int → Bool} {c : Nat → Int} {n : Nat} : ∀ (d p : Nat), p + d ≤ n → (∀ j, p ≤ j → j < p + d → q (c j) = true) → q (c (p + d)) = false → ps_run q c (n - p) p = p + d := by
  intro d
  induction d with
  | zero => intro p _ _ h; exact pr_run0 h
  | succ d ih =>
    intro p hp h1 h2
    rw [pr_run1 (by omega) (h1 p (Nat.le_refl _) (by omega)), ih (p + 1) (by omega) (fun j a b => h1 j (by omega) (by omega)) (by rw [show p + 1 + d = p + (d + 1) by omega]; exact h2)]
    omega
/-- a sign -/
def pr_sig (s : Nat) : Prop := s = 40 ∨ s = 41 ∨ s = 42 ∨ s = 43 ∨ s = 45 ∨ s = 46 ∨ s = 47 ∨ s = 59 ∨ s = 60 ∨ s = 61 ∨ s = 92
theorem pr_sg {c : Nat → Int} {n p s : Nat} (hs : pr_sig s) (h : c p = (s : Int)) : ps_sk c n p = p ∧ ps_tk c n p = s ∧ ps_te c n p = p + 1 := by
  have hb : ps_bl (c p) = false := by
    rw [h]; unfold ps_bl; rcases hs with h | h | h | h | h | h | h | h | h | h | h <;> subst h <;> decide
  have hl : ps_le (c p) = false := by
    rw [h]; unfold ps_le; rcases hs with h | h | h | h | h | h | h | h | h | h | h <;> subst h <;> decide
  have hd : ps_di (c p) = false := by
    rw [h]; unfold ps_di; rcases hs with h | h | h | h | h | h | h | h | h | h | h <;> subst h <;> decide
  refine ⟨pr_run0 hb, ?_, ?_⟩
  · unfold ps_tk
    rw [hl, hd, if_neg (by decide), if_neg (by decide), h]
    rcases hs with h | h | h | h | h | h | h | h | h | h | h <;> subst h <;> decide
  · unfold ps_te
    rw [hl, hd, if_neg (by decide), if_neg (by decide)]
/-- a blank ahead -/
theorem pr_bl {c : Nat → Int} {n p : Nat} (hp : p < n) (h : c p = ((32 : Nat) : Int)) : ps_sk c n p = ps_sk c n (p + 1) := by
  unfold ps_sk
  exact pr_run1 hp (by rw [h]; decide)
theorem pr_nb {c : Nat → Int} {n p : Nat} (h : ps_bl (c p) = false) : ps_sk c n p = p := pr_run0 h
/-! words -/
theorem pr_nm_le : ∀ (f v : Nat), pk_vw f v → ∀ x ∈ pw_nmr f v, 97 ≤ x ∧ x ≤ 122 := by
  intro f
  induction f with
  | zero => intro v _ x hx; cases hx
  | succ f ih =>
    intro v h x hx
    change x ∈ (if v = 0 then [] else pw_nmr f (v / 256) ++ [v % 256]) at hx
    by_cases z : v = 0
    · rw [if_pos z] at hx; cases hx
    · rw [if_neg z] at hx
      rcases h with h | ⟨h1, h2, h3⟩
      · exact (z h).elim
      · rcases List.mem_append.mp hx with q | q
        · exact ih _ h3 x q
        · have := List.mem_singleton.mp q
          omega
theorem pr_wv : ∀ (f v : Nat), pk_vw f v → ∀ (c : Nat → Int) (p : Nat), pr_ws c p (pw_nmr f v) → ps_wv c p (pw_nmr f v).length = v := by
  intro f
  induction f with
  | zero => intro v h c p _; exact h.symm
  | succ f ih =>
    intro v h c p hw
    have e : pw_nmr (f + 1) v = if v = 0 then [] else pw_nmr f (v / 256) ++ [v % 256] := rfl
    by_cases z : v = 0
    · rw [e, if_pos z]; exact z.symm
    · rw [e, if_neg z] at hw ⊢
      rcases h with h | ⟨h1, h2, h3⟩
      · exact (z h).elim
      · obtain ⟨a, b⟩ := pr_ws_app hw
        rw [List.length_append, List.length_singleton]
        show 256 * ps_wv c p (pw_nmr f (v / 256)).length + (c (p + (pw_nmr f (v / 256)).length)).toNat = v
        rw [ih _ h3 c p a, (pr_ws_1 b).1]
        show 256 * (v / 256) + v % 256 = v
        omega
theorem pr_nm_pos {v : Nat} (hn : v ≠ 0) : 0 < (pw_nm v).length := by
  show 0 < (if v = 0 then [] else pw_nmr 3 (v / 256) ++ [v % 256]).length
  rw [if_neg hn, List.length_append, List.length_singleton]
  omega
/-- a word that no letter follows -/
theorem pr_word {c : Nat → Int} {n p v : Nat} (hv : pk_vw 4 v) (hn : v ≠ 0) (hw : pr_ws c p (pw_nm v)) (hp : p + (pw_nm v).length ≤ n) (he : ps_le (c (p + (pw_nm v).length)) = false) : ps_sk c n p = p ∧ ps_tk c n p = (if ps_kw v = true then v else 2) ∧ ps_tv c n p = v ∧ ps_te c n p = p + (pw_nm v).length := by
  have l4 := pw_nmr_len 4 v
  have l0 := pr_nm_pos hn
  have hall : ∀ j, p ≤ j → j < p + (pw_nm v).length → ps_le (c j) = true := fun j a b => by
    have hj : j - p < (pw_nm v).length := by omega
    have := hw (j - p) _ (List.getElem?_eq_getElem hj)
    rw [show p + (j - p) = j by omega] at this
    have r := pr_nm_le 4 v hv _ (List.getElem_mem hj)
    unfold ps_le
    rw [this]
    exact decide_eq_true (by omega)
  have h0 := hall p (Nat.le_refl _) (by omega)
  have hwe : ps_we c n p = p + (pw_nm v).length := pr_runN _ p hp hall he
  have hb : ps_bl (c p) = false := by
    have := ps_le_in h0
    unfold ps_bl
    exact decide_eq_false (by omega)
  have ewv : ps_wv c p (p + (pw_nm v).length - p) = v := by
    rw [Nat.add_sub_cancel_left]
    exact pr_wv 4 v hv c p hw
  have l4' : (pw_nm v).length ≤ 4 := l4
  refine ⟨pr_run0 hb, ?_, ?_, ?_⟩
  · unfold ps_tk
    rw [if_pos h0, hwe, if_neg (by omega), ewv]
  · unfold ps_tv
    rw [if_pos h0, hwe, ewv]
  · unfold ps_te
    rw [if_pos h0, hwe]
/-- a number that no digit follows -/
theorem pr_num {c : Nat → Int} {n p v : Nat} (hv : v ≤ 9999) (hw : pr_ws c p (pw_nu v)) (hp : p + (pw_nu v).length ≤ n) (he : ps_di (c (p + (pw_nu v).length)) = false) : ps_sk c n p = p ∧ ps_tk c n p = 1 ∧ ps_tv c n p = v ∧ ps_te c n p = p + (pw_nu v).length := by
  obtain ⟨l0, l4⟩ := pw_nu_len v
  have dig : ∀ x ∈ pw_nu v, 48 ≤ x ∧ x ≤ 57 := by
    intro x hx
    unfold pw_nu at hx
    by_cases c1 : v < 10
    · rw [if_pos c1] at hx
      simp only [List.mem_cons, List.not_mem_nil, or_false] at hx
      omega
    · rw [if_neg c1] at hx
      by_cases c2 : v < 100
      · rw [if_pos c2] at hx
        simp only [List.mem_cons, List.not_mem_nil, or_false] at hx
        omega
      · rw [if_neg c2] at hx
        by_cases c3 : v < 1000
        · rw [if_pos c3] at hx
          simp only [List.mem_cons, List.not_mem_nil, or_false] at hx
          omega
        · rw [if_neg c3] at hx
          simp only [List.mem_cons, List.not_mem_nil, or_false] at hx
          omega
  have hall : ∀ j, p ≤ j → j < p + (pw_nu v).length → ps_di (c j) = true := fun j a b => by
    have hj : j - p < (pw_nu v).length := by omega
    have := hw (j - p) _ (List.getElem?_eq_getElem hj)
    rw [show p + (j - p) = j by omega] at this
    have r := dig _ (List.getElem_mem hj)
    unfold ps_di
    rw [this]
    exact decide_eq_true (by omega)
  have h0 := hall p (Nat.le_refl _) (by omega)
  have h0' : 48 ≤ c p ∧ c p ≤ 57 := by unfold ps_di at h0; exact of_decide_eq_true h0
  have hde : ps_de c n p = p + (pw_nu v).length := pr_runN _ p hp hall he
  have hb : ps_bl (c p) = false := by
    unfold ps_bl
    exact decide_eq_false (by omega)
  have hl : ps_le (c p) = false := by
    unfold ps_le
    exact decide_eq_false (by omega)
  have edv : ps_dv c p (p + (pw_nu v).length - p) = v := by
    rw [Nat.add_sub_cancel_left]
    unfold pw_nu at hw ⊢
    by_cases c1 : v < 10
    · rw [if_pos c1] at hw ⊢
      have a := (pr_ws_1 hw).1
      show 10 * 0 + ((c (p + 0)).toNat - 48) = v
      rw [Nat.add_zero, a]
      omega
    · rw [if_neg c1] at hw ⊢
      by_cases c2 : v < 100
      · rw [if_pos c2] at hw ⊢
        obtain ⟨a, hw⟩ := pr_ws_1 hw
        have b := (pr_ws_1 hw).1
        show 10 * (10 * 0 + ((c (p + 0)).toNat - 48)) + ((c (p + 1)).toNat - 48) = v
        rw [Nat.add_zero, a, b]
        omega
      · rw [if_neg c2] at hw ⊢
        by_cases c3 : v < 1000
        · rw [if_pos c3] at hw ⊢
          obtain ⟨a, hw⟩ := pr_ws_1 hw
          obtain ⟨b, hw⟩ := pr_ws_1 hw
          have d := (pr_ws_1 hw).1
          show 10 * (10 * (10 * 0 + ((c (p + 0)).toNat - 48)) + ((c (p + 1)).toNat - 48)) + ((c (p + 1 + 1)).toNat - 48) = v
          rw [Nat.add_zero, a, b, d]
          omega
        · rw [if_neg c3] at hw ⊢
          obtain ⟨a, hw⟩ := pr_ws_1 hw
          obtain ⟨b, hw⟩ := pr_ws_1 hw
          obtain ⟨d, hw⟩ := pr_ws_1 hw
          have e := (pr_ws_1 hw).1
          show 10 * (10 * (10 * (10 * 0 + ((c (p + 0)).toNat - 48)) + ((c (p + 1)).toNat - 48)) + ((c (p + 1 + 1)).toNat - 48)) + ((c (p + 1 + 1 + 1)).toNat - 48) = v
          rw [Nat.add_zero, a, b, d, e]
          omega
  refine ⟨pr_run0 hb, ?_, ?_, ?_⟩
  · unfold ps_tk
    rw [hl, if_neg (by decide), if_pos h0, hde, if_neg (by omega)]
  · unfold ps_tv
    rw [hl, if_neg (by decide), hde, edv]
  · unfold ps_te
    rw [hl, if_neg (by decide), if_pos h0, hde]
/-! LAMBDAS' numbers as a reader gives them -/
def pr_ru (G v : Nat) : Nat := if v < G then v else if v < 24 then v - G + 6 else v
def pr_tr (G : Nat) : pt_T → pt_T := pt_rec pt_num (fun v x => pt_var (pr_ru G v) x) pt_glo pt_dead (fun f x _ b => pt_lam (pr_ru G f) x b) (fun _ _ _ a b c => pt_ife a b c) (fun v x _ _ a b => pt_let v x a b) (fun s _ _ a b => pt_op s a b) (fun s _ _ a b => pt_site s a b) (pt_num 0)
theorem pr_lk (G : Nat) : ∀ (sc : List (Nat × Nat)) (x : Nat), ps_lk (sc.map (fun b => (pr_ru G b.1, b.2))) x = (ps_lk sc x).map (pr_ru G) := by
  intro sc
  induction sc with
  | nil => intro x; rfl
  | cons b r ih =>
    intro x
    show (if b.2 = x then some (pr_ru G b.1) else ps_lk (r.map _) x) = (if b.2 = x then some b.1 else ps_lk r x).map _
    by_cases e : b.2 = x
    · rw [if_pos e, if_pos e]; rfl
    · rw [if_neg e, if_neg e]; exact ih x
theorem pr_rb {G v : Nat} (hG : G ≤ 6) (hv : v < G + 18 ∨ 24 ≤ v) : pk_rb G (pr_ru G v) = v := by
  unfold pk_rb pr_ru pk_rf
  by_cases c1 : v < G
  · rw [if_pos c1, if_pos (by omega), if_pos (by omega)]
  · rw [if_neg c1]
    by_cases c2 : v < 24
    · rw [if_pos c2, if_pos (by omega), if_neg (by omega)]
      omega
    · rw [if_neg c2, if_neg c2]
