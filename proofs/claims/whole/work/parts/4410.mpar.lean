theorem pb_bds {A B C : Type} (a : A) (b : B) (f : A → B → Option C) : fa_bd (some (a, b)) f = f a b := rfl
theorem pm_fr_st {la li si nd sl : Nat} {w w1 : fa_W} {o k : Nat} {v : Int} (h : pm_fr la li si nd sl w w1) (hk : (o = 181 ∧ ¬ (k ≤ 15 ∨ k = 17 ∨ (21 ≤ k ∧ k ≤ 25) ∨ k = 31 ∨ k = 32 ∨ 36 ≤ k)) ∨ (184 ≤ o ∧ o ≤ 188 ∧ nd ≤ k) ∨ ((o = 194 ∨ o = 195) ∧ si ≤ k) ∨ ((o = 189 ∨ o = 191) ∧ 6 + la ≤ k) ∨ ((o = 192 ∨ o = 193) ∧ ¬ pk_lb k la li) ∨ (o = 198 ∧ sl ≤ k)) : pm_fr la li si nd sl w (fa_st w1 o k v) := by
  obtain ⟨b1, b2, b3, b4, b5, b6⟩ := h
  refine ⟨⟨fun i j q => (fa_st_ne (by omega)).trans (b1.1 i j q), fun j q => (fa_st_ne (by omega)).trans (b1.2 j q)⟩, fun i j a b q => (fa_st_ne (by omega)).trans (b2 i j a b q), fun i j a q => (fa_st_ne (by omega)).trans (b3 i j a q), fun i j a q => (fa_st_ne (by omega)).trans (b4 i j a q), fun i j a q => (fa_st_ne ?_).trans (b5 i j a q), fun j q => (fa_st_ne (by omega)).trans (b6 j q)⟩
  intro z
  unfold pk_lb at hk q
  omega
theorem pm_fo_st {w w1 : fa_W} {o k : Nat} {v : Int} (h : pm_fo w w1) (hk : (o = 181 ∧ ¬ (k ≤ 15 ∨ k = 17 ∨ (21 ≤ k ∧ k ≤ 25) ∨ k = 31 ∨ k = 32 ∨ 36 ≤ k)) ∨ (184 ≤ o ∧ o ≤ 189) ∨ (191 ≤ o ∧ o ≤ 195) ∨ o = 198) : pm_fo w (fa_st w1 o k v) := ⟨fun i j q => (fa_st_ne (by omega)).trans (h.1 i j q), fun j q => (fa_st_ne (by omega)).trans (h.2 j q)⟩
theorem pm_fr_lx {la li si nd sl p : Nat} {w w1 w2 : fa_W} (h : pm_fr la li si nd sl w w1) (l : pm_lx w1 w2 p) : pm_fr la li si nd sl w w2 := pm_fr_tr h (pm_lx_fr l) (Nat.le_refl _) (Nat.le_refl _) (Nat.le_refl _) (Nat.le_refl _) (Nat.le_refl _)
def pm_nw (w : fa_W) (nd : Nat) (K a b c v : Int) : fa_W := fa_st (fa_st (fa_st (fa_st (fa_st (fa_st w 184 nd K) 185 nd a) 186 nd b) 187 nd c) 188 nd v) 181 16 ((nd + 1 : Nat) : Int)
theorem pm_node {w : fa_W} {nd : Nat} (hf : w 181 28 = -1) (h : w 181 16 = (nd : Int)) (hn : nd ≤ 100) (K a b c v : Int) : fm_Mod_node K a b c v w = some ((nd : Int), pm_nw w nd K a b c v) := by
  unfold fm_Mod_node
  rw [pm_hf hf, if_neg (by decide), h, pb_ix (by omega) (by omega)]
  have e1 : fa_st w 184 nd K 181 16 = (nd : Int) := by rw [fa_st_ne (by omega), h]
  have e2 : fa_st (fa_st w 184 nd K) 185 nd a 181 16 = (nd : Int) := by rw [fa_st_ne (by omega), e1]
  have e3 : fa_st (fa_st (fa_st w 184 nd K) 185 nd a) 186 nd b 181 16 = (nd : Int) := by rw [fa_st_ne (by omega), e2]
  have e4 : fa_st (fa_st (fa_st (fa_st w 184 nd K) 185 nd a) 186 nd b) 187 nd c 181 16 = (nd : Int) := by rw [fa_st_ne (by omega), e3]
  have e5 : fa_st (fa_st (fa_st (fa_st (fa_st w 184 nd K) 185 nd a) 186 nd b) 187 nd c) 188 nd v 181 16 = (nd : Int) := by rw [fa_st_ne (by omega), e4]
  simp only [Option.bind_some, fa_let, e1, e2, e3, e4, e5, pb_ix (show nd < 101 by omega) (show 101 ≤ 55000 by omega)]
  congr 1
  rw [fa_st_eq]
  refine Prod.ext ?_ rfl
  dsimp only
  omega
theorem pm_node_f {w : fa_W} {z : Nat} (hf : w 181 28 = (z : Int)) (hz : z ≤ 40000) (K a b c v : Int) : fm_Mod_node K a b c v w = some (-1, w) := by
  unfold fm_Mod_node
  rw [pm_hft hf hz]
  rfl
theorem pm_nw_181 (w : fa_W) (nd : Nat) (K a b c v : Int) {k : Nat} (hk : k ≠ 16) : pm_nw w nd K a b c v 181 k = w 181 k := by
  unfold pm_nw
  repeat rw [fa_st_ne (by omega)]
theorem pm_nw_o (w : fa_W) (nd : Nat) (K a b c v : Int) {o k : Nat} (hk : 189 ≤ o ∨ (o ≠ 181 ∧ k ≠ nd)) : pm_nw w nd K a b c v o k = w o k := by
  unfold pm_nw
  repeat rw [fa_st_ne (by omega)]
theorem pm_nw_fr {la li si nd sl m : Nat} {w w1 : fa_W} (h : pm_fr la li si nd sl w w1) (hm : nd ≤ m) (K a b c v : Int) : pm_fr la li si nd sl w (pm_nw w1 m K a b c v) := by
  unfold pm_nw
  refine pm_fr_st (pm_fr_st (pm_fr_st (pm_fr_st (pm_fr_st (pm_fr_st h ?_) ?_) ?_) ?_) ?_) ?_ <;> omega
theorem pm_begins {w : fa_W} {th : Nat} (hf : w 181 28 = -1) (h : w 181 35 = (th : Int)) (ht : th ≤ 100) (a : Int) : fm_Mod_begins a w = if th = 100 then (false, fa_st w 181 28 a) else (true, fa_st w 181 35 ((th + 1 : Nat) : Int)) := by
  unfold fm_Mod_begins
  rw [pm_hf hf, h, pb_wr (by omega), pm_fails hf]
  by_cases e : th = 100
  · rw [if_pos e, if_neg (by decide), if_pos (by omega)]
    rfl
  · rw [if_neg e, if_neg (by decide), if_neg (by omega)]
    rfl
theorem pm_opens {w : fa_W} {ne : Nat} {fr : Bool} (hf : w 181 28 = -1) (h : w 181 29 = (ne : Int)) (ht : ne ≤ 40000) (hr : w 181 31 ≠ 0 ↔ fr = true) (a : Int) : fm_Mod_opens a w = if ne = 20 ∧ fr = false then (false, fa_st w 181 28 a) else (true, fa_st w 181 29 ((ne + 1 : Nat) : Int)) := by
  unfold fm_Mod_opens fm_Mod_opens_j33
  rw [pm_hf hf, h, pb_wr (by omega), pm_fails hf, if_neg (by decide)]
  by_cases e : ne = 20
  · rw [if_pos (by omega)]
    cases fr with
    | true =>
      rw [if_pos (decide_eq_true (hr.mpr rfl)), if_neg (by intro q; cases q.2)]
      rfl
    | false =>
      rw [if_neg (by intro q; have := hr.mp (of_decide_eq_true q); cases this), if_pos ⟨e, rfl⟩]
      rfl
  · rw [if_neg (by omega), if_neg (by intro q; exact e q.1)]
    rfl
theorem pm_S_up {c : Nat → Int} {n : Nat} {fr : Bool} {gl : List Nat} {sc : List (Nat × Nat)} {ow : Int} {ne p th la lt si nd : Nat} {ins : List Nat} {w : fa_W} (h : pm_S c n fr (gl, sc, ow, ne) (p, th, la, ins, lt, si, nd) w) {ow' : Int} {ne' p' th' la' lt' si' nd' : Nat} {ins' : List Nat} {w' : fa_W} (e196 : ∀ k, w' 196 k = w 196 k) (e190 : ∀ k, w' 190 k = w 190 k) (e198 : ∀ k, k < sc.length → w' 198 k = w 198 k) (e192 : ∀ b ∈ sc, w' 192 b.1 = w 192 b.1) (e25 : w' 181 25 = w 181 25) (e31 : w' 181 31 = w 181 31) (e17 : w' 181 17 = w 181 17) (e33 : w' 181 33 = w 181 33) (hpt : ∃ p0 : Nat, w' 181 26 = (p0 : Int) ∧ p0 ≤ n ∧ ps_sk c n p0 = ps_sk c n p') (e28 : w' 181 28 = -1) (e16 : w' 181 16 = (nd' : Int)) (e35 : w' 181 35 = (th' : Int)) (e18 : w' 181 18 = (la' : Int)) (e19 : w' 181 19 = (ins'.length : Int)) (e20 : w' 181 20 = (si' : Int)) (e29 : w' 181 29 = (ne' : Int)) (e30 : w' 181 30 = ow') : pm_S c n fr (gl, sc, ow', ne') (p', th', la', ins', lt', si', nd') w' := by
  obtain ⟨h1, h2, h3, h4, h5, h6, h7, h8, h9, h10, h11, h12, h13, h14, h15⟩ := h
  exact ⟨pm_tx_of h1 e25 e196, hpt, e28, e16, e35, e18, e19, e20, e29, e30, by rw [e31]; exact h11, by rw [e17]; exact h12, fun k x q => by rw [e190]; exact h13 k x q, by rw [e33]; exact h14, pm_sc_of sc e198 e192 h15⟩
/-- one more name in scope -/
theorem pm_S_push {c : Nat → Int} {n : Nat} {fr : Bool} {gl : List Nat} {sc : List (Nat × Nat)} {ow : Int} {ne : Nat} {S : ps_S} {w : fa_W} (h : pm_S c n fr (gl, sc, ow, ne) S w) {v x : Nat} {hm : Int} (hv : v < 124) (hl : sc.length < 124) (hne : ∀ b ∈ sc, b.1 ≠ v) : ∃ w', fm_Mod_sees (v : Int) ((pm_cv x : Nat) : Int) hm w = some ((v : Int), w') ∧ pm_S c n fr (gl, (v, x) :: sc, ow, ne) S w' ∧ w' 192 v = ((pm_cv x : Nat) : Int) ∧ w' 193 v = hm ∧ ∀ o k, ¬ ((o = 192 ∨ o = 193) ∧ k = v) → ¬ (o = 198 ∧ k = sc.length) → ¬ (o = 181 ∧ k = 33) → w' o k = w o k := by
  obtain ⟨p, th, la, ins, lt, si, nd⟩ := S
  obtain ⟨h1, h2, h3, h4, h5, h6, h7, h8, h9, h10, h11, h12, h13, h14, h15⟩ := h
  have e1 : fa_st (fa_st w 192 v ((pm_cv x : Nat) : Int)) 193 v hm 181 33 = (sc.length : Int) := by rw [fa_st_ne (by omega), fa_st_ne (by omega)]; exact h14
  have e2 : fa_st (fa_st (fa_st w 192 v ((pm_cv x : Nat) : Int)) 193 v hm) 198 sc.length (v : Int) 181 33 + 1 = ((sc.length + 1 : Nat) : Int) := by rw [fa_st_ne (by omega), e1]; omega
  have keep : ∀ o k, ¬ ((o = 192 ∨ o = 193) ∧ k = v) → ¬ (o = 198 ∧ k = sc.length) → ¬ (o = 181 ∧ k = 33) → fa_st (fa_st (fa_st (fa_st w 192 v ((pm_cv x : Nat) : Int)) 193 v hm) 198 sc.length (v : Int)) 181 33 ((sc.length + 1 : Nat) : Int) o k = w o k := by
    intro o k q1 q2 q3
    rw [fa_st_ne (by omega), fa_st_ne (by omega), fa_st_ne (by omega), fa_st_ne (by omega)]
  refine ⟨fa_st (fa_st (fa_st (fa_st w 192 v ((pm_cv x : Nat) : Int)) 193 v hm) 198 sc.length (v : Int)) 181 33 ((sc.length + 1 : Nat) : Int), ?_, ?_, ?_, ?_, keep⟩
  · unfold fm_Mod_sees
    simp only [pb_ix hv (show 124 ≤ 55000 by omega), Option.bind_some, fa_let, e1, pb_ix hl (show 124 ≤ 55000 by omega), e2]
  · refine ⟨pm_tx_of h1 (keep 181 25 (by omega) (by omega) (by omega)) (fun k => keep 196 k (by omega) (by omega) (by omega)), ?_, ?_, ?_, ?_, ?_, ?_, ?_, ?_, ?_, ?_, ?_, ?_, ?_, ?_⟩
    · rw [keep 181 26 (by omega) (by omega) (by omega)]; exact h2
    · rw [keep 181 28 (by omega) (by omega) (by omega)]; exact h3
    · rw [keep 181 16 (by omega) (by omega) (by omega)]; exact h4
    · rw [keep 181 35 (by omega) (by omega) (by omega)]; exact h5
    · rw [keep 181 18 (by omega) (by omega) (by omega)]; exact h6
    · rw [keep 181 19 (by omega) (by omega) (by omega)]; exact h7
    · rw [keep 181 20 (by omega) (by omega) (by omega)]; exact h8
    · rw [keep 181 29 (by omega) (by omega) (by omega)]; exact h9
    · rw [keep 181 30 (by omega) (by omega) (by omega)]; exact h10
    · rw [keep 181 31 (by omega) (by omega) (by omega)]; exact h11
    · rw [keep 181 17 (by omega) (by omega) (by omega)]; exact h12
    · intro k y q
      rw [keep 190 k (by omega) (by omega) (by omega)]; exact h13 k y q
    · rw [fa_st_eq]; rfl
    · refine ⟨?_, ?_, pm_sc_of sc (fun k hk => keep 198 k (by omega) (by omega) (by omega)) (fun b hb => keep 192 b.1 (by have := hne b hb; omega) (by omega) (by omega)) h15⟩
      · rw [fa_st_ne (by omega), fa_st_eq]
      · rw [fa_st_ne (by omega), fa_st_ne (by omega), fa_st_ne (by omega), fa_st_eq]
  · rw [fa_st_ne (by omega), fa_st_ne (by omega), fa_st_ne (by omega), fa_st_eq]
  · rw [fa_st_ne (by omega), fa_st_ne (by omega), fa_st_eq]
/-- what the reference's reader answers, as the spec's -/
def pm_R (c : Nat → Int) (n : Nat) (fr : Bool) : ps_E → ps_S → fa_W → ps_R → Int × fa_W → Prop
  | _, _, _, none, _ => False
  | _, _, w, some (.error z), q => z ≤ n ∧ q.2 181 28 = (z : Int) ∧ pm_fo w q.2 ∧ pm_po n q.2
  | (gl, sc, ow, ne), (_, _, la, ins, _, si, nd), w, some (.ok (t, s')), q => q.1 = ((s'.2.2.2.2.2.2 - 1 : Nat) : Int) ∧ pm_S c n fr (gl, sc, ow, ne) s' q.2 ∧ pm_H t ow nd q.2 ∧ pm_fr la ins.length si nd sc.length w q.2
theorem pm_R_er {c : Nat → Int} {n : Nat} {fr : Bool} {e : ps_E} {s : ps_S} {w : fa_W} {z : Nat} {q : Int × fa_W} (h1 : z ≤ n) (h2 : q.2 181 28 = (z : Int)) (h3 : pm_fo w q.2) (h4 : pm_po n q.2) : pm_R c n fr e s w (ps_er z) q := ⟨h1, h2, h3, h4⟩
def pm_RC (c : Nat → Int) (n : Nat) (fr : Bool) (rs : ps_E → ps_S → ps_R) (rm : fa_W → Option (Int × fa_W)) : Prop := ∀ e s w, ps_SI n e s → pm_S c n fr e s w → rs e s ≠ none → pb_ok (rm w) (pm_R c n fr e s w (rs e s))
theorem pm_lam_R {c : Nat → Int} {n : Nat} {fr : Bool} {rs : ps_E → ps_S → ps_R} {rm : fa_W → Option (Int × fa_W)} (hx : ps_TX c n) (hn : n ≤ 40000) (hp : ps_RC n rs) (hr : pm_RC c n fr rs rm) {e : ps_E} {s : ps_S} {w : fa_W} (hs : ps_SI n e s) (hS : pm_S c n fr e s w) (hpt : w 181 26 = (ps_sk c n s.1 : Int)) (hk : ps_tk c n (ps_sk c n s.1) = 92) (hne : ps_lam c n fr rs e s ≠ none) : pb_ok (fm_Mod_lambda_b rm w) (pm_R c n fr e s w (ps_lam c n fr rs e s)) := by
  obtain ⟨gl, sc, ow, ne⟩ := e
  obtain ⟨p, th, la, ins, lt, si, nd⟩ := s
  have hS0 := hS
  obtain ⟨a1, a2, a3, a4, a5, a6, a7, a8, a9, a10, a11, a12, a13, a14, a15, a16, a17⟩ := id hs
  obtain ⟨h1, h2, h3, h4, h5, h6, h7, h8, h9, h10, h11, h12, h13, h14, h15⟩ := hS
  dsimp only at hpt hk
  have z0 := ps_sign hx a1 (by omega) (by omega) hk
  dsimp only [ps_lam] at hne ⊢
  unfold fm_Mod_lambda_b
  rw [hpt, h6, pb_wr (by omega)]
  dsimp only [fa_let]
  by_cases c1 : la = 18
  · rw [if_pos (Or.inl c1)]
    rw [if_pos (by omega), pm_fails h3]
    exact pb_some (pm_R_er (by omega) (by dsimp only; exact fa_st_eq _ _ _ _) (pm_fo_st (pm_fo_refl w) (by omega)) (pm_po_s (pm_po_S hS0) (Or.inr (by decide))))
  rw [if_neg (by omega), pm_begins h3 h5 a2]
  by_cases c2 : th = 100
  · rw [if_pos (Or.inr (Or.inl c2)), if_pos c2]
    exact pb_some (pm_R_er (by omega) (by dsimp only; exact fa_st_eq _ _ _ _) (pm_fo_st (pm_fo_refl w) (by omega)) (pm_po_s (pm_po_S hS0) (Or.inr (by decide))))
  rw [if_neg c2]
  dsimp only [fa_l2]
  rw [if_pos rfl, pm_opens (ne := ne) (fr := fr) (by rw [fa_st_ne (by omega)]; exact h3) (by rw [fa_st_ne (by omega)]; exact h9) (by omega) (by rw [fa_st_ne (by omega)]; exact h11)]
  by_cases c3 : ne = 20 ∧ fr = false
  · rw [if_pos (Or.inr (Or.inr c3)), if_pos c3]
    exact pb_some (pm_R_er (by omega) (by dsimp only; exact fa_st_eq _ _ _ _) (pm_fo_st (pm_fo_st (pm_fo_refl w) (by omega)) (by omega)) (pm_po_s (pm_po_s (pm_po_S hS0) (Or.inr (by decide))) (Or.inr (by decide))))
  have cc : ¬ (la = 18 ∨ th = 100 ∨ ne = 20 ∧ fr = false) := by
    intro q
    rcases q with q | q | q
    · exact c1 q
    · exact c2 q
    · exact c3 q
  rw [if_neg cc] at hne ⊢
  rw [if_neg c3]
  dsimp only
  rw [if_pos rfl]
  have eA : fa_st (fa_st w 181 35 ((th + 1 : Nat) : Int)) 181 29 ((ne + 1 : Nat) : Int) 181 18 = (la : Int) := by
    rw [fa_st_ne (by omega), fa_st_ne (by omega)]; exact h6
  rw [eA]
  have eB : fa_st (fa_st (fa_st w 181 35 ((th + 1 : Nat) : Int)) 181 29 ((ne + 1 : Nat) : Int)) 181 18 ((la : Int) + 1) 181 26 = ((ps_sk c n p : Nat) : Int) := by
    rw [fa_st_ne (by omega), fa_st_ne (by omega), fa_st_ne (by omega)]; exact hpt
  rw [eB, show (6 + (la : Int)) = ((6 + la : Nat) : Int) by omega, show ((la : Int) + 1) = ((la + 1 : Nat) : Int) by omega, show ((ps_sk c n p : Nat) : Int) + 1 = ((ps_sk c n p + 1 : Nat) : Int) by omega]
  generalize hw4 : fa_st (fa_st (fa_st (fa_st w 181 35 ((th + 1 : Nat) : Int)) 181 29 ((ne + 1 : Nat) : Int)) 181 18 ((la + 1 : Nat) : Int)) 181 26 ((ps_sk c n p + 1 : Nat) : Int) = w4
  have k4 : ∀ o k, ¬ (o = 181 ∧ (k = 35 ∨ k = 29 ∨ k = 18 ∨ k = 26)) → w4 o k = w o k := by
    intro o k q
    rw [← hw4, fa_st_ne (by omega), fa_st_ne (by omega), fa_st_ne (by omega), fa_st_ne (by omega)]
  have v35 : w4 181 35 = ((th + 1 : Nat) : Int) := by rw [← hw4, fa_st_ne (by omega), fa_st_ne (by omega), fa_st_ne (by omega), fa_st_eq]
  have v29 : w4 181 29 = ((ne + 1 : Nat) : Int) := by rw [← hw4, fa_st_ne (by omega), fa_st_ne (by omega), fa_st_eq]
  have v18 : w4 181 18 = ((la + 1 : Nat) : Int) := by rw [← hw4, fa_st_ne (by omega), fa_st_eq]
  have v26 : w4 181 26 = ((ps_sk c n p + 1 : Nat) : Int) := by rw [← hw4, fa_st_eq]
  have f4 : pm_fr la ins.length si nd sc.length w w4 := by
    rw [← hw4]
    refine pm_fr_st (pm_fr_st (pm_fr_st (pm_fr_st (pm_fr_refl _ _ _ _ _ _) ?_) ?_) ?_) ?_ <;> omega
  clear hw4
  have t4 : pm_tx c n w4 := pm_tx_of h1 (k4 181 25 (by omega)) (fun k => k4 196 k (by omega))
  refine pb_bdm (pm_gives t4 v26 (by omega) (by rw [k4 181 28 (by omega)]; exact h3)) (fun v15 w5 g => ?_)
  dsimp only at g
  rcases g with ⟨g1, g2, g3, _⟩ | ⟨g1, g2⟩
  · dsimp only [ps_nm] at hne ⊢
    rw [if_pos g1] at hne ⊢
    have z1 := ps_name hx g1
    have t5 : pm_tx c n w5 := pm_tx_of t4 (g3.2 181 25 (by omega)) (fun k => g3.2 196 k (by omega))
    have h28 : w5 181 28 = -1 := by rw [g3.2 181 28 (by omega), k4 181 28 (by omega)]; exact h3
    refine pb_bindm (pm_asks (k := 46) t5 g3.1 z1.2.2.2 h28 (by omega)) (fun w6 q => ?_)
    rcases q with ⟨q1, q2⟩ | ⟨q1, q2⟩
    · dsimp only [ps_ex] at hne ⊢
      rw [if_pos q1] at hne ⊢
      have si1 := ps_lam_si hx hs hk c1 c2 g1 q1
      have k6 : ∀ o k, ¬ (o = 181 ∧ (k = 35 ∨ k = 29 ∨ k = 18 ∨ k = 26 ∨ k = 27 ∨ k = 34)) → w6 o k = w o k := fun o k r => (q2.2 o k (by omega)).trans ((g3.2 o k (by omega)).trans (k4 o k (by omega)))
      have f6 := pm_fr_lx (pm_fr_lx f4 g3) q2
      rw [pm_hf (by rw [k6 181 28 (by omega)]; exact h3), if_neg (by decide), pb_ix (show 6 + la < 24 by omega) (by omega)]
      dsimp only [Option.bind_some]
      rw [k6 181 30 (by omega), h10]
      have u8 : ∀ o k, ¬ (o = 181 ∧ k = 30) → ¬ (o = 191 ∧ k = 6 + la) → fa_st (fa_st w6 191 (6 + la) ow) 181 30 ((6 + la : Nat) : Int) o k = w6 o k := by
        intro o k r1 r2
        rw [fa_st_ne (by omega), fa_st_ne (by omega)]
      have sg := ps_sign hx z1.2.2.2 (by omega) (by omega) q1
      have S8 : pm_S c n fr (gl, sc, ((6 + la : Nat) : Int), ne + 1) (ps_te c n (ps_sk c n (ps_te c n (ps_sk c n (ps_sk c n p + 1)))), th + 1, la + 1, ins, lt, si, nd) (fa_st (fa_st w6 191 (6 + la) ow) 181 30 ((6 + la : Nat) : Int)) := by
        refine pm_S_up hS0 (fun k => ?_) (fun k => ?_) (fun k _ => ?_) (fun b _ => ?_) ?_ ?_ ?_ ?_ ⟨ps_sk c n (ps_te c n (ps_sk c n (ps_sk c n p + 1))) + 1, ?_, by omega, by rw [sg.2.2]⟩ ?_ ?_ ?_ ?_ ?_ ?_ ?_ ?_
        · rw [u8 _ _ (by omega) (by omega), k6 _ _ (by omega)]
        · rw [u8 _ _ (by omega) (by omega), k6 _ _ (by omega)]
        · rw [u8 _ _ (by omega) (by omega), k6 _ _ (by omega)]
        · rw [u8 _ _ (by omega) (by omega), k6 _ _ (by omega)]
        · rw [u8 _ _ (by omega) (by omega), k6 _ _ (by omega)]
        · rw [u8 _ _ (by omega) (by omega), k6 _ _ (by omega)]
        · rw [u8 _ _ (by omega) (by omega), k6 _ _ (by omega)]
        · rw [u8 _ _ (by omega) (by omega), k6 _ _ (by omega)]
        · rw [u8 _ _ (by omega) (by omega), q2.1]
        · rw [u8 _ _ (by omega) (by omega), k6 _ _ (by omega), h3]
        · rw [u8 _ _ (by omega) (by omega), k6 _ _ (by omega), h4]
        · rw [u8 _ _ (by omega) (by omega), q2.2 _ _ (by omega), g3.2 _ _ (by omega), v35]
        · rw [u8 _ _ (by omega) (by omega), q2.2 _ _ (by omega), g3.2 _ _ (by omega), v18]
        · rw [u8 _ _ (by omega) (by omega), k6 _ _ (by omega), h7]
        · rw [u8 _ _ (by omega) (by omega), k6 _ _ (by omega), h8]
        · rw [u8 _ _ (by omega) (by omega), q2.2 _ _ (by omega), g3.2 _ _ (by omega), v29]
        · rw [fa_st_eq]
      have nv : ∀ b ∈ sc, b.1 ≠ 6 + la := by
        intro b hb
        have := (a12 b hb).1
        unfold pk_lb at this
        omega
      obtain ⟨w9, e9, S9, n9, m9, k9⟩ := pm_S_push (x := ps_tv c n (ps_sk c n (ps_sk c n p + 1))) (hm := ((6 + la : Nat) : Int)) S8 (by omega) (by omega) nv
      rw [g2, e9, pb_bds]
      have f9 : pm_fr la ins.length si nd sc.length w w9 := by
        have f8 : pm_fr la ins.length si nd sc.length w (fa_st (fa_st w6 191 (6 + la) ow) 181 30 ((6 + la : Nat) : Int)) := pm_fr_st (pm_fr_st f6 (by omega)) (by omega)
        obtain ⟨b1, b2, b3, b4, b5, b6⟩ := f8
        refine ⟨⟨fun o k r => (k9 o k (by omega) (by omega) (by omega)).trans (b1.1 o k r), fun k r => (k9 _ k (by omega) (by omega) (by omega)).trans (b1.2 k r)⟩, fun o k r s t => (k9 o k (by omega) (by omega) (by omega)).trans (b2 o k r s t), fun o k r s => (k9 o k (by omega) (by omega) (by omega)).trans (b3 o k r s), fun o k r s => (k9 o k (by omega) (by omega) (by omega)).trans (b4 o k r s), fun o k r s => (k9 o k ?_ (by omega) (by omega)).trans (b5 o k r s), fun k r => (k9 198 k (by omega) (by omega) (by omega)).trans (b6 k r)⟩
        unfold pk_lb at s
        omega
      have hne' : rs (gl, (6 + la, ps_tv c n (ps_sk c n (ps_sk c n p + 1))) :: sc, ((6 + la : Nat) : Int), ne + 1) (ps_te c n (ps_sk c n (ps_te c n (ps_sk c n (ps_sk c n p + 1)))), th + 1, la + 1, ins, lt, si, nd) ≠ none := by
        intro r
        rw [r] at hne
        exact hne rfl
      refine pb_bdm (hr _ _ _ si1 S9 hne') (fun v29' w10 g' => ?_)
      cases hq : rs (gl, (6 + la, ps_tv c n (ps_sk c n (ps_sk c n p + 1))) :: sc, ((6 + la : Nat) : Int), ne + 1) (ps_te c n (ps_sk c n (ps_te c n (ps_sk c n (ps_sk c n p + 1)))), th + 1, la + 1, ins, lt, si, nd) with
      | none => exact absurd hq hne'
      | some r =>
        rw [hq] at g'
        cases r with
        | error z =>
          obtain ⟨y1, y2, y3, y4e⟩ := g'
          dsimp only at y2 y3 y4e
          rw [pm_node_f (z := z) (by rw [fa_st_ne (by omega), fa_st_ne (by omega), fa_st_ne (by omega), fa_st_ne (by omega)]; exact y2) (by omega)]
          refine pb_some (pm_R_er y1 ?_ ?_ (pm_po_s (pm_po_s (pm_po_s (pm_po_s y4e (Or.inl (by decide))) (Or.inr (by decide))) (Or.inr (by decide))) (Or.inr (by decide))))
          · dsimp only
            rw [fa_st_ne (by omega), fa_st_ne (by omega), fa_st_ne (by omega), fa_st_ne (by omega)]; exact y2
          · dsimp only
            exact pm_fo_st (pm_fo_st (pm_fo_st (pm_fo_st (pm_fo_tr f9.1 y3) (by omega)) (by omega)) (by omega)) (by omega)
        | ok y =>
          obtain ⟨t, S2⟩ := y
          have po := hp _ _ _ _ si1 hq
          obtain ⟨p2, th2, la2, ins2, lt2, si2, nd2⟩ := S2
          obtain ⟨b1, b2, b3, b4, b5, b6, b7, b8, b9, b10, b11, b12, b13, b14, b15, b16, b17⟩ := po
          obtain ⟨y1, y2, y3, y4⟩ := g'
          dsimp only at y1 y2 y3 y4
          have y2' := y2
          obtain ⟨i1, i2, i3, i4, i5, i6, i7, i8, i9, i10, i11, i12, i13, i14, i15⟩ := y2
          have cm := pk_can_mono t b15 _ _ b17
          dsimp only at cm
          have sz := pt_sz_pos t
          have j33 : fa_st w10 189 (6 + la) v29' 181 33 - 1 = (sc.length : Int) := by
            rw [fa_st_ne (by omega), i14, List.length_cons]; omega
          have j30 : fa_st w6 191 (6 + la) ow 181 30 = ow := by
            rw [fa_st_ne (by omega), k6 181 30 (by omega), h10]
          have j29 : fa_st (fa_st (fa_st w10 189 (6 + la) v29') 181 33 (sc.length : Int)) 181 30 ow 181 29 - 1 = (ne : Int) := by
            rw [fa_st_ne (by omega), fa_st_ne (by omega), fa_st_ne (by omega), i9]; omega
          rw [j33, j30, j29]
          generalize hw14 : fa_st (fa_st (fa_st (fa_st w10 189 (6 + la) v29') 181 33 (sc.length : Int)) 181 30 ow) 181 29 (ne : Int) = w14
          have k14 : ∀ o k, ¬ (o = 181 ∧ (k = 33 ∨ k = 30 ∨ k = 29)) → ¬ (o = 189 ∧ k = 6 + la) → w14 o k = w10 o k := by
            intro o k r1 r2
            rw [← hw14, fa_st_ne (by omega), fa_st_ne (by omega), fa_st_ne (by omega), fa_st_ne (by omega)]
          have x33 : w14 181 33 = (sc.length : Int) := by rw [← hw14, fa_st_ne (by omega), fa_st_ne (by omega), fa_st_eq]
          have x30 : w14 181 30 = ow := by rw [← hw14, fa_st_ne (by omega), fa_st_eq]
          have x29 : w14 181 29 = (ne : Int) := by rw [← hw14, fa_st_eq]
          have x189 : w14 189 (6 + la) = v29' := by rw [← hw14, fa_st_ne (by omega), fa_st_ne (by omega), fa_st_ne (by omega), fa_st_eq]
          have f14 : pm_fr la ins.length si nd sc.length w w14 := by
            rw [← hw14]
            exact pm_fr_st (pm_fr_st (pm_fr_st (pm_fr_st (pm_fr_tr f9 y4 (by omega) (by omega) (by omega) (by omega) (by rw [List.length_cons]; omega)) (by omega)) (by omega)) (by omega)) (by omega)
          clear hw14
          rw [pm_node (nd := nd2) (by rw [k14 _ _ (by omega) (by omega)]; exact i3) (by rw [k14 _ _ (by omega) (by omega)]; exact i4) (by omega)]
          refine pb_some ⟨?_, ?_, ?_, pm_nw_fr f14 (by omega) _ _ _ _ _⟩
          · dsimp only; omega
          · have hu : pm_S c n fr (gl, (6 + la, ps_tv c n (ps_sk c n (ps_sk c n p + 1))) :: sc, ((6 + la : Nat) : Int), ne + 1) (p2, th2, la2, ins2, lt2, si2, nd2) w10 := y2'
            have nn : ∀ o k, (189 ≤ o ∨ (o = 181 ∧ k ≠ 16)) → pm_nw w14 nd2 4 ((6 + la : Nat) : Int) ((6 + la : Nat) : Int) (-1) 0 o k = w14 o k := by
              intro o k r
              rcases r with r | ⟨rfl, r⟩
              · exact pm_nw_o _ _ _ _ _ _ _ (Or.inl r)
              · exact pm_nw_181 _ _ _ _ _ _ _ r
            refine ⟨pm_tx_of i1 ?_ (fun k => ?_), ?_, ?_, ?_, ?_, ?_, ?_, ?_, ?_, ?_, ?_, ?_, ?_, ?_, ?_⟩
            · dsimp only; rw [nn _ _ (by omega), k14 _ _ (by omega) (by omega)]
            · dsimp only; rw [nn _ _ (by omega), k14 _ _ (by omega) (by omega)]
            · dsimp only; rw [nn _ _ (by omega), k14 _ _ (by omega) (by omega)]; exact i2
            · dsimp only; rw [nn _ _ (by omega), k14 _ _ (by omega) (by omega)]; exact i3
            · dsimp only; unfold pm_nw; rw [fa_st_eq]
            · dsimp only; rw [nn _ _ (by omega), k14 _ _ (by omega) (by omega)]; exact i5
            · dsimp only; rw [nn _ _ (by omega), k14 _ _ (by omega) (by omega)]; exact i6
            · dsimp only; rw [nn _ _ (by omega), k14 _ _ (by omega) (by omega)]; exact i7
            · dsimp only; rw [nn _ _ (by omega), k14 _ _ (by omega) (by omega)]; exact i8
            · dsimp only; rw [nn _ _ (by omega)]; exact x29
            · dsimp only; rw [nn _ _ (by omega)]; exact x30
            · dsimp only; rw [nn _ _ (by omega), k14 _ _ (by omega) (by omega)]; exact i11
            · dsimp only; rw [nn _ _ (by omega), k14 _ _ (by omega) (by omega)]; exact i12
            · intro k x r
              dsimp only; rw [nn _ _ (by omega), k14 _ _ (by omega) (by omega)]; exact i13 k x r
            · dsimp only; rw [nn _ _ (by omega)]; exact x33
            · exact pm_sc_of sc (fun k _ => by dsimp only; rw [nn _ _ (by omega), k14 _ _ (by omega) (by omega)]) (fun b _ => by dsimp only; rw [nn _ _ (by omega), k14 _ _ (by omega) (by omega)]) i15.2.2
          · have e2 : nd + pt_sz t = nd2 := by omega
            have lf : pk_lb (6 + la) (la + 1) ins.length := Or.inl (by omega)
            refine ⟨pm_H_tr t b15 gl _ _ (la + 1, ins.length, si, nd) (la2, ins2.length, si2, nd2) w10 _ 6 (by omega) (by omega) b17 b16 (fun b hb => ?_) ?_ y3, ?_, ?_, ?_, ?_, ?_, ?_⟩
            · rcases List.mem_cons.mp hb with rfl | hb
              · exact lf
              · exact pk_lb_mono (a12 b hb).1 (by dsimp only; omega) (Nat.le_refl _)
            · refine ⟨fun o j r1 r2 r3 r4 => ?_, fun o j r1 r2 r3 => ?_, fun o j r1 r2 r3 => ?_, fun o j r1 r2 _ => ?_, fun j _ => ?_⟩
              · dsimp only at r4 ⊢; rw [pm_nw_o _ _ _ _ _ _ _ (by omega), k14 _ _ (by omega) (by omega)]
              · dsimp only; rw [pm_nw_o _ _ _ _ _ _ _ (by omega), k14 _ _ (by omega) (by omega)]
              · dsimp only at r2 ⊢; rw [pm_nw_o _ _ _ _ _ _ _ (by omega), k14 _ _ (by omega) (by omega)]
              · dsimp only; rw [pm_nw_o _ _ _ _ _ _ _ (by omega), k14 _ _ (by omega) (by omega)]
              · dsimp only; rw [pm_nw_o _ _ _ _ _ _ _ (by omega), k14 _ _ (by omega) (by omega)]
            · dsimp only; rw [e2]; unfold pm_nw; rw [fa_st_ne (by omega), fa_st_ne (by omega), fa_st_ne (by omega), fa_st_ne (by omega), fa_st_ne (by omega), fa_st_eq]
            · dsimp only; rw [e2]; unfold pm_nw; rw [fa_st_ne (by omega), fa_st_ne (by omega), fa_st_ne (by omega), fa_st_ne (by omega), fa_st_eq]
            · dsimp only; rw [pm_nw_o _ _ _ _ _ _ _ (by omega), x189, y1, e2]
            · dsimp only
              rw [pm_nw_o _ _ _ _ _ _ _ (by omega), k14 _ _ (by omega) (by omega), y4.2.2.2.1 191 _ (by omega) (by omega), k9 _ _ (by omega) (by omega) (by omega), fa_st_ne (by omega), fa_st_eq]
            · dsimp only
              rw [pm_nw_o _ _ _ _ _ _ _ (by omega), k14 _ _ (by omega) (by omega), y4.2.2.2.2.1 192 _ (by omega) lf, n9]
            · dsimp only
              rw [pm_nw_o _ _ _ _ _ _ _ (by omega), k14 _ _ (by omega) (by omega), y4.2.2.2.2.1 193 _ (by omega) lf, m9]
    · dsimp only [ps_ex] at hne ⊢
      rw [if_neg q1]
      have qp := ps_sk_p hx _ z1.2.2.2
      rw [pm_hft q2.1 (by omega), if_pos rfl]
      exact pb_some (pm_R_er (by omega) q2.1 (pm_fo_tr (pm_fr_lx f4 g3).1 (pm_fl_fo q2)) (pm_po_fl q2 (by omega)))
  · have qp := ps_sk_p hx (ps_sk c n p + 1) (by omega)
    unfold fm_Mod_asks
    rw [pm_hft g2.1 (by omega), if_pos rfl]
    dsimp only [Option.bind_some]
    rw [pm_hft g2.1 (by omega), if_pos rfl]
    dsimp only [ps_nm]
    rw [if_neg g1]
    exact pb_some (pm_R_er (by omega) g2.1 (pm_fo_tr f4.1 (pm_fl_fo g2)) (pm_po_fl g2 (by omega)))
