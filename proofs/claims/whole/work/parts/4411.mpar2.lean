theorem pm_asks_f {w : fa_W} {z : Nat} (h : w 181 28 = (z : Int)) (hz : z ≤ 40000) (k : Int) : fm_Mod_asks k w = some w := by
  unfold fm_Mod_asks
  rw [pm_hft h hz, if_pos rfl]
theorem pm_asksWord_f {w : fa_W} {z : Nat} (h : w 181 28 = (z : Int)) (hz : z ≤ 40000) (k : Int) : fm_Mod_asksWord k w = some w := by
  unfold fm_Mod_asksWord
  rw [pm_hft h hz, if_pos rfl]
theorem pm_S_node {c : Nat → Int} {n : Nat} {fr : Bool} {gl : List Nat} {sc : List (Nat × Nat)} {ow : Int} {ne p th la lt si nd : Nat} {ins : List Nat} {w : fa_W} (h : pm_S c n fr (gl, sc, ow, ne) (p, th, la, ins, lt, si, nd) w) (K a b d v : Int) : pm_S c n fr (gl, sc, ow, ne) (p, th, la, ins, lt, si, nd + 1) (pm_nw w nd K a b d v) := by
  have hh := h
  obtain ⟨h1, h2, h3, h4, h5, h6, h7, h8, h9, h10, h11, h12, h13, h14, h15⟩ := hh
  have nn : ∀ o k, (189 ≤ o ∨ (o = 181 ∧ k ≠ 16)) → pm_nw w nd K a b d v o k = w o k := by
    intro o k r
    rcases r with r | ⟨rfl, r⟩
    · exact pm_nw_o _ _ _ _ _ _ _ (Or.inl r)
    · exact pm_nw_181 _ _ _ _ _ _ _ r
  refine pm_S_up h (fun k => nn _ _ (by omega)) (fun k => nn _ _ (by omega)) (fun k _ => nn _ _ (by omega)) (fun b _ => nn _ _ (by omega)) (nn _ _ (by omega)) (nn _ _ (by omega)) (nn _ _ (by omega)) (nn _ _ (by omega)) ?_ ?_ ?_ ?_ ?_ ?_ ?_ ?_ ?_
  · rw [nn _ _ (by omega)]; exact h2
  · rw [nn _ _ (by omega)]; exact h3
  · unfold pm_nw; rw [fa_st_eq]
  · rw [nn _ _ (by omega)]; exact h5
  · rw [nn _ _ (by omega)]; exact h6
  · rw [nn _ _ (by omega)]; exact h7
  · rw [nn _ _ (by omega)]; exact h8
  · rw [nn _ _ (by omega)]; exact h9
  · rw [nn _ _ (by omega)]; exact h10
theorem pm_nw_k (w : fa_W) (nd : Nat) (K a b d v : Int) : pm_nw w nd K a b d v 184 nd = K ∧ pm_nw w nd K a b d v 185 nd = a ∧ pm_nw w nd K a b d v 186 nd = b ∧ pm_nw w nd K a b d v 187 nd = d ∧ pm_nw w nd K a b d v 188 nd = v := by
  unfold pm_nw
  refine ⟨?_, ?_, ?_, ?_, ?_⟩
  · rw [fa_st_ne (by omega), fa_st_ne (by omega), fa_st_ne (by omega), fa_st_ne (by omega), fa_st_ne (by omega), fa_st_eq]
  · rw [fa_st_ne (by omega), fa_st_ne (by omega), fa_st_ne (by omega), fa_st_ne (by omega), fa_st_eq]
  · rw [fa_st_ne (by omega), fa_st_ne (by omega), fa_st_ne (by omega), fa_st_eq]
  · rw [fa_st_ne (by omega), fa_st_ne (by omega), fa_st_eq]
  · rw [fa_st_ne (by omega), fa_st_eq]
theorem pm_H_fr {t : pt_T} (tt : pt_tw t) {gl : List Nat} {sc : List (Nat × Nat)} {h : Int} {la li si nd la' li' si' nd' sl : Nat} {w w' : fa_W} (hc : pk_can t (la, li, si, nd) (la', li', si', nd')) (hw : pk_wfs t gl sc) (hs : ∀ b ∈ sc, pk_lb b.1 la li) (hf : pm_fr la' li' si' nd' sl w w') (H : pm_H t h nd w) : pm_H t h nd w' := pm_H_tr t tt gl sc h (la, li, si, nd) (la', li', si', nd') w w' 6 (by omega) (by omega) hc hw hs (pm_fr_ht hf) H
/-- the place alone has moved -/
theorem pm_S_lx {c : Nat → Int} {n : Nat} {fr : Bool} {e : ps_E} {p th la lt si nd : Nat} {ins : List Nat} {w w' : fa_W} (h : pm_S c n fr e (p, th, la, ins, lt, si, nd) w) {p' q : Nat} (l : pm_lx w w' q) (hq : q ≤ n) (hs : ps_sk c n q = ps_sk c n p') : pm_S c n fr e (p', th, la, ins, lt, si, nd) w' := by
  obtain ⟨gl, sc, ow, ne⟩ := e
  have hh := h
  obtain ⟨h1, h2, h3, h4, h5, h6, h7, h8, h9, h10, h11, h12, h13, h14, h15⟩ := hh
  refine pm_S_up h (fun k => l.2 _ _ (by omega)) (fun k => l.2 _ _ (by omega)) (fun k _ => l.2 _ _ (by omega)) (fun b _ => l.2 _ _ (by omega)) (l.2 _ _ (by omega)) (l.2 _ _ (by omega)) (l.2 _ _ (by omega)) (l.2 _ _ (by omega)) ⟨q, l.1, hq, hs⟩ ?_ ?_ ?_ ?_ ?_ ?_ ?_ ?_ <;> rw [l.2 _ _ (by omega)] <;> assumption
/-- how a thing that opens begins -/
theorem pm_S_open {c : Nat → Int} {n : Nat} {fr : Bool} {gl : List Nat} {sc : List (Nat × Nat)} {ow : Int} {ne p th la lt si nd : Nat} {ins : List Nat} {w : fa_W} (h : pm_S c n fr (gl, sc, ow, ne) (p, th, la, ins, lt, si, nd) w) : pm_S c n fr (gl, sc, ow, ne + 1) (p, th + 1, la, ins, lt, si, nd) (fa_st (fa_st w 181 35 ((th + 1 : Nat) : Int)) 181 29 ((ne + 1 : Nat) : Int)) ∧ pm_fr la ins.length si nd sc.length w (fa_st (fa_st w 181 35 ((th + 1 : Nat) : Int)) 181 29 ((ne + 1 : Nat) : Int)) := by
  have hh := h
  obtain ⟨h1, h2, h3, h4, h5, h6, h7, h8, h9, h10, h11, h12, h13, h14, h15⟩ := hh
  have nn : ∀ o k, ¬ (o = 181 ∧ (k = 35 ∨ k = 29)) → fa_st (fa_st w 181 35 ((th + 1 : Nat) : Int)) 181 29 ((ne + 1 : Nat) : Int) o k = w o k := by
    intro o k r
    rw [fa_st_ne (by omega), fa_st_ne (by omega)]
  refine ⟨pm_S_up h (fun k => nn _ _ (by omega)) (fun k => nn _ _ (by omega)) (fun k _ => nn _ _ (by omega)) (fun b _ => nn _ _ (by omega)) (nn _ _ (by omega)) (nn _ _ (by omega)) (nn _ _ (by omega)) (nn _ _ (by omega)) ?_ ?_ ?_ ?_ ?_ ?_ ?_ ?_ ?_, pm_fr_st (pm_fr_st (pm_fr_refl _ _ _ _ _ _) (by omega)) (by omega)⟩
  · rw [nn _ _ (by omega)]; exact h2
  · rw [nn _ _ (by omega)]; exact h3
  · rw [nn _ _ (by omega)]; exact h4
  · rw [fa_st_ne (by omega), fa_st_eq]
  · rw [nn _ _ (by omega)]; exact h6
  · rw [nn _ _ (by omega)]; exact h7
  · rw [nn _ _ (by omega)]; exact h8
  · rw [fa_st_eq]
  · rw [nn _ _ (by omega)]; exact h10
/-- how it ends -/
theorem pm_S_close {c : Nat → Int} {n : Nat} {fr : Bool} {gl : List Nat} {sc : List (Nat × Nat)} {ow : Int} {ne : Nat} {S : ps_S} {w : fa_W} (h : pm_S c n fr (gl, sc, ow, ne + 1) S w) : w 181 29 - 1 = (ne : Int) ∧ pm_S c n fr (gl, sc, ow, ne) S (fa_st w 181 29 (ne : Int)) := by
  obtain ⟨p, th, la, ins, lt, si, nd⟩ := S
  have hh := h
  obtain ⟨h1, h2, h3, h4, h5, h6, h7, h8, h9, h10, h11, h12, h13, h14, h15⟩ := hh
  have nn : ∀ o k, ¬ (o = 181 ∧ k = 29) → fa_st w 181 29 (ne : Int) o k = w o k := by
    intro o k r
    rw [fa_st_ne (by omega)]
  refine ⟨by rw [h9]; omega, pm_S_up h (fun k => nn _ _ (by omega)) (fun k => nn _ _ (by omega)) (fun k _ => nn _ _ (by omega)) (fun b _ => nn _ _ (by omega)) (nn _ _ (by omega)) (nn _ _ (by omega)) (nn _ _ (by omega)) (nn _ _ (by omega)) ?_ ?_ ?_ ?_ ?_ ?_ ?_ ?_ ?_⟩
  · rw [nn _ _ (by omega)]; exact h2
  · rw [nn _ _ (by omega)]; exact h3
  · rw [nn _ _ (by omega)]; exact h4
  · rw [nn _ _ (by omega)]; exact h5
  · rw [nn _ _ (by omega)]; exact h6
  · rw [nn _ _ (by omega)]; exact h7
  · rw [nn _ _ (by omega)]; exact h8
  · rw [fa_st_eq]
  · rw [nn _ _ (by omega)]; exact h10
theorem pm_fr_w {la li si nd sl la1 li1 si1 nd1 sl1 : Nat} {w w1 w2 : fa_W} (h1 : pm_fr la li si nd sl w w1) (h2 : pm_fr la1 li1 si1 nd1 sl1 w1 w2) (a1 : la ≤ la1 ∧ li ≤ li1 ∧ si ≤ si1 ∧ nd ≤ nd1 ∧ sl ≤ sl1) : pm_fr la li si nd sl w w2 := pm_fr_tr h1 h2 a1.1 a1.2.1 a1.2.2.1 a1.2.2.2.1 a1.2.2.2.2
def pk_ge (k k' : pk_K) : Prop := k.1 ≤ k'.1 ∧ k.2.1 ≤ k'.2.1 ∧ k.2.2.1 ≤ k'.2.2.1 ∧ k.2.2.2 ≤ k'.2.2.2
theorem pk_ge_refl (k : pk_K) : pk_ge k k := ⟨Nat.le_refl _, Nat.le_refl _, Nat.le_refl _, Nat.le_refl _⟩
theorem pk_ge_tr {k k1 k2 : pk_K} (h : pk_ge k k1) (g : pk_ge k1 k2) : pk_ge k k2 := ⟨Nat.le_trans h.1 g.1, Nat.le_trans h.2.1 g.2.1, Nat.le_trans h.2.2.1 g.2.2.1, Nat.le_trans h.2.2.2 g.2.2.2⟩
theorem pm_fr_k {la li si nd sl la1 li1 si1 nd1 sl1 : Nat} {w w1 w2 : fa_W} (h1 : pm_fr la li si nd sl w w1) (h2 : pm_fr la1 li1 si1 nd1 sl1 w1 w2) (a : pk_ge (la, li, si, nd) (la1, li1, si1, nd1)) (b : sl ≤ sl1) : pm_fr la li si nd sl w w2 := pm_fr_tr h1 h2 a.1 a.2.1 a.2.2.1 a.2.2.2 b
def pm_in (k : Nat) : Bool := decide (¬ (k ≤ 15 ∨ k = 17 ∨ (21 ≤ k ∧ k ≤ 25) ∨ k = 31 ∨ k = 32 ∨ 36 ≤ k))
theorem pm_fr_s {la li si nd sl : Nat} {w w1 : fa_W} {k : Nat} {v : Int} (h : pm_fr la li si nd sl w w1) (hk : pm_in k = true) : pm_fr la li si nd sl w (fa_st w1 181 k v) := pm_fr_st h (Or.inl ⟨rfl, of_decide_eq_true hk⟩)
theorem pm_fo_s {w w1 : fa_W} {k : Nat} {v : Int} (h : pm_fo w w1) (hk : pm_in k = true) : pm_fo w (fa_st w1 181 k v) := pm_fo_st h (Or.inl ⟨rfl, of_decide_eq_true hk⟩)
theorem ps_PO_x {n : Nat} {gl : List Nat} {sc : List (Nat × Nat)} {ow : Int} {ne p th la lt si nd p' th' la' lt' si' nd' : Nat} {ins ins' : List Nat} {t : pt_T} (h : ps_PO n (gl, sc, ow, ne) (p, th, la, ins, lt, si, nd) t (p', th', la', ins', lt', si', nd')) : p' ≤ n ∧ pt_tw t ∧ pk_wfs t gl sc ∧ pk_can t (la, ins.length, si, nd) (la', ins'.length, si', nd') ∧ pk_ge (la, ins.length, si, nd) (la', ins'.length, si', nd') ∧ nd + pt_sz t = nd' := by
  obtain ⟨b1, b2, b3, b4, b5, b6, b7, b8, b9, b10, b11, b12, b13, b14, b15, b16, b17⟩ := h
  have m := pk_can_mono t b15 _ _ b17
  dsimp only at m
  exact ⟨b1, b15, b16, b17, ⟨m.1, m.2.1, m.2.2.1, by dsimp only; omega⟩, m.2.2.2.symm⟩
theorem ps_SI_x {n : Nat} {gl : List Nat} {sc : List (Nat × Nat)} {ow : Int} {ne p th la lt si nd : Nat} {ins : List Nat} (h : ps_SI n (gl, sc, ow, ne) (p, th, la, ins, lt, si, nd)) : p ≤ n ∧ th ≤ 100 ∧ nd ≤ 100 ∧ ne ≤ n ∧ ∀ b ∈ sc, pk_lb b.1 la ins.length := by
  obtain ⟨a1, a2, a3, a4, a5, a6, a7, a8, a9, a10, a11, a12, a13, a14, a15, a16, a17⟩ := h
  exact ⟨a1, a2, by omega, by omega, fun b hb => (a12 b hb).1⟩
theorem pk_lbs {sc : List (Nat × Nat)} {la li si nd la1 li1 si1 nd1 : Nat} (h : ∀ b ∈ sc, pk_lb b.1 la li) (a : pk_ge (la, li, si, nd) (la1, li1, si1, nd1)) : ∀ b ∈ sc, pk_lb b.1 la1 li1 := fun b hb => pk_lb_mono (h b hb) a.1 a.2.1
theorem ps_sk_sk {c : Nat → Int} {n p : Nat} (hx : ps_TX c n) (hp : p ≤ n) : ps_sk c n (ps_sk c n p) = ps_sk c n p := by
  have z := (ps_sk_p hx p hp).2.2.1
  unfold ps_sk
  cases hd : n - ps_run ps_bl c (n - p) p with
  | zero => rfl
  | succ d =>
    show (if ps_bl (c (ps_run ps_bl c (n - p) p)) = true then _ else _) = _
    rw [if_neg (by unfold ps_sk at z; rw [z]; decide)]
/-- the two tests ahead of what opens -/
theorem pm_open2 {c : Nat → Int} {n : Nat} {fr : Bool} {gl : List Nat} {sc : List (Nat × Nat)} {ow : Int} {ne p th la lt si nd s : Nat} {ins : List Nat} {w : fa_W} (hn : n ≤ 40000) (hsn : s ≤ n) (hs : ps_SI n (gl, sc, ow, ne) (p, th, la, ins, lt, si, nd)) (hS : pm_S c n fr (gl, sc, ow, ne) (p, th, la, ins, lt, si, nd) w) (F : fa_W → Option (Int × fa_W)) (R : ps_R) (hR : (th = 100 ∨ ne = 20 ∧ fr = false) → R = ps_er s) (hg : th ≠ 100 → ¬ (ne = 20 ∧ fr = false) → pm_S c n fr (gl, sc, ow, ne + 1) (p, th + 1, la, ins, lt, si, nd) (fa_st (fa_st w 181 35 ((th + 1 : Nat) : Int)) 181 29 ((ne + 1 : Nat) : Int)) → pm_fr la ins.length si nd sc.length w (fa_st (fa_st w 181 35 ((th + 1 : Nat) : Int)) 181 29 ((ne + 1 : Nat) : Int)) → pb_ok (F (fa_st (fa_st w 181 35 ((th + 1 : Nat) : Int)) 181 29 ((ne + 1 : Nat) : Int))) (pm_R c n fr (gl, sc, ow, ne) (p, th, la, ins, lt, si, nd) w R)) : pb_ok (fa_l2 (fm_Mod_begins (s : Int) w) fun v3 w4 => if v3 = true then (fa_l2 (fm_Mod_opens (s : Int) w4) fun v7 w8 => if v7 = true then F w8 else some (-1, w8)) else some (-1, w4)) (pm_R c n fr (gl, sc, ow, ne) (p, th, la, ins, lt, si, nd) w R) := by
  obtain ⟨x1, x2, x3, x4, x5⟩ := ps_SI_x hs
  obtain ⟨So, fo⟩ := pm_S_open hS
  obtain ⟨h1, h2, h3, h4, h5, h6, h7, h8, h9, h10, h11, h12, h13, h14, h15⟩ := id hS
  rw [pm_begins h3 h5 x2]
  by_cases c2 : th = 100
  · rw [if_pos c2, hR (Or.inl c2)]
    exact pb_some (pm_R_er hsn (by dsimp only; exact fa_st_eq _ _ _ _) (pm_fo_s (pm_fo_refl w) rfl) (pm_po_s (pm_po_S hS) (Or.inr (by decide))))
  rw [if_neg c2]
  dsimp only [fa_l2]
  rw [if_pos rfl, pm_opens (ne := ne) (fr := fr) (by rw [fa_st_ne (by omega)]; exact h3) (by rw [fa_st_ne (by omega)]; exact h9) (by omega) (by rw [fa_st_ne (by omega)]; exact h11)]
  by_cases c3 : ne = 20 ∧ fr = false
  · rw [if_pos c3, hR (Or.inr c3)]
    exact pb_some (pm_R_er hsn (by dsimp only; exact fa_st_eq _ _ _ _) (pm_fo_s (pm_fo_s (pm_fo_refl w) rfl) rfl) (pm_po_s (pm_po_s (pm_po_S hS) (Or.inr (by decide))) (Or.inr (by decide))))
  rw [if_neg c3]
  dsimp only
  rw [if_pos rfl]
  exact hg c2 c3 So fo
theorem pm_cho_R {c : Nat → Int} {n : Nat} {fr : Bool} {rs : ps_E → ps_S → ps_R} {rm : fa_W → Option (Int × fa_W)} (hx : ps_TX c n) (hn : n ≤ 40000) (hp : ps_RC n rs) (hr : pm_RC c n fr rs rm) (hF : ∀ (w : fa_W) (z : Nat), w 181 28 = (z : Int) → z ≤ 40000 → rm w = some (-1, w)) {e : ps_E} {s : ps_S} {w : fa_W} (hs : ps_SI n e s) (hS : pm_S c n fr e s w) (hpt : w 181 26 = (ps_sk c n s.1 : Int)) (hk : ps_tk c n (ps_sk c n s.1) = 26982) (hne : ps_cho c n fr rs e s ≠ none) : pb_ok (fm_Mod_choice_b rm w) (pm_R c n fr e s w (ps_cho c n fr rs e s)) := by
  obtain ⟨gl, sc, ow, ne⟩ := e
  obtain ⟨p, th, la, ins, lt, si, nd⟩ := s
  dsimp only at hpt hk
  obtain ⟨a1, a2, a3, a4, lb0⟩ := ps_SI_x hs
  have z0 : ps_te c n (ps_sk c n p) ≤ n := (ps_word_len hx (s := ps_sk c n p) (by omega)).1
  have z0' := (ps_sk_p hx p a1).2.1
  have sks := ps_sk_sk hx a1
  dsimp only [ps_cho] at hne ⊢
  unfold fm_Mod_choice_b
  rw [hpt]
  dsimp only [fa_let]
  refine pm_open2 hn z0' hs hS _ _ (fun q => if_pos q) (fun c2 c3 So fo => ?_)
  have cc : ¬ (th = 100 ∨ ne = 20 ∧ fr = false) := fun q => q.elim c2 c3
  rw [if_neg cc] at hne ⊢
  have wd : (fa_st (fa_st w 181 35 ((th + 1 : Nat) : Int)) 181 29 ((ne + 1 : Nat) : Int)) 181 26 = ((ps_sk c n p : Nat) : Int) := by rw [fa_st_ne (by decide), fa_st_ne (by decide)]; exact hpt
  generalize fa_st (fa_st w 181 35 ((th + 1 : Nat) : Int)) 181 29 ((ne + 1 : Nat) : Int) = w4 at So fo wd ⊢
  refine pb_bindm (pm_asksWord (K := 26982) So.1 wd z0' So.2.2.1 rfl) (fun w5 q => ?_)
  rw [sks] at q
  rcases q with ⟨_, q2⟩ | ⟨q1, _⟩
  rotate_left
  · exact absurd hk q1
  have S5 := pm_S_lx (p' := ps_te c n (ps_sk c n p)) So q2 z0 rfl
  have f5 := pm_fr_lx fo q2
  have i1 : ps_SI n (gl, sc, ow, ne + 1) (ps_te c n (ps_sk c n p), th + 1, la, ins, lt, si, nd) := ps_word_si hx (d := 1) hs hk (by decide) (Or.inr c2) (Nat.le_refl 1)
  clear cc c3 So fo wd z0 z0' a1 a2 a3 a4
  -- once it has failed
  have bad3 : ∀ (u1 u2 u3 : Int) (w' : fa_W) (z : Nat), z ≤ n → w' 181 28 = (z : Int) → pm_fo w w' → pm_po n w' → pb_ok (fa_bd (fm_Mod_node 5 u1 u2 u3 0 (fa_st w' 181 29 ((w' 181 29) - 1))) fun v27 w28 => some (v27, w28)) (pm_R c n fr (gl, sc, ow, ne) (p, th, la, ins, lt, si, nd) w (ps_er z)) := by
    intro u1 u2 u3 w' z hz hf ho hpo
    rw [pm_node_f (z := z) (by rw [fa_st_ne (by decide)]; exact hf) (Nat.le_trans hz hn)]
    exact pb_some (pm_R_er hz (by dsimp only; rw [fa_st_ne (by decide)]; exact hf) (pm_fo_s ho rfl) (pm_po_s hpo (Or.inr (by decide))))
  have bad2 : ∀ (u1 u2 : Int) (w' : fa_W) (z : Nat), z ≤ n → w' 181 28 = (z : Int) → pm_fo w w' → pm_po n w' → pb_ok ((fm_Mod_asksWord 107681 w').bind fun w21 => fa_bd (rm w21) fun v23 w24 => fa_bd (fm_Mod_node 5 u1 u2 v23 0 (fa_st w24 181 29 ((w24 181 29) - 1))) fun v27 w28 => some (v27, w28)) (pm_R c n fr (gl, sc, ow, ne) (p, th, la, ins, lt, si, nd) w (ps_er z)) := by
    intro u1 u2 w' z hz hf ho hpo
    rw [pm_asksWord_f hf (Nat.le_trans hz hn)]
    dsimp only [Option.bind_some]
    rw [hF w' z hf (Nat.le_trans hz hn), pb_bds]
    exact bad3 u1 u2 _ w' z hz hf ho hpo
  have bad1 : ∀ (u1 : Int) (w' : fa_W) (z : Nat), z ≤ n → w' 181 28 = (z : Int) → pm_fo w w' → pm_po n w' → pb_ok ((fm_Mod_asksWord 399641 w').bind fun w16 => fa_bd (rm w16) fun v18 w19 => (fm_Mod_asksWord 107681 w19).bind fun w21 => fa_bd (rm w21) fun v23 w24 => fa_bd (fm_Mod_node 5 u1 v18 v23 0 (fa_st w24 181 29 ((w24 181 29) - 1))) fun v27 w28 => some (v27, w28)) (pm_R c n fr (gl, sc, ow, ne) (p, th, la, ins, lt, si, nd) w (ps_er z)) := by
    intro u1 w' z hz hf ho hpo
    rw [pm_asksWord_f hf (Nat.le_trans hz hn)]
    dsimp only [Option.bind_some]
    rw [hF w' z hf (Nat.le_trans hz hn), pb_bds]
    exact bad2 u1 _ w' z hz hf ho hpo
  have n1 : rs (gl, sc, ow, ne + 1) (ps_te c n (ps_sk c n p), th + 1, la, ins, lt, si, nd) ≠ none := by
    intro r
    rw [r] at hne
    exact hne rfl
  refine pb_bdm (hr _ _ _ i1 S5 n1) (fun v1 w6 g => ?_)
  cases hq : rs (gl, sc, ow, ne + 1) (ps_te c n (ps_sk c n p), th + 1, la, ins, lt, si, nd) with
  | none => exact absurd hq n1
  | some r =>
  rw [hq] at g hne
  cases r with
  | error z => exact bad1 v1 w6 z g.1 g.2.1 (pm_fo_tr f5.1 g.2.2.1) g.2.2.2
  | ok y =>
  obtain ⟨ta, S1⟩ := y
  have o1 := hp _ _ _ _ i1 hq
  have j1 := ps_PO_SI i1 o1
  obtain ⟨p1, th1, la1, ins1, lt1, si1, nd1⟩ := S1
  obtain ⟨b1, b2, b3, b4, b5, b6⟩ := ps_PO_x o1
  obtain ⟨y1, y2, y3, y4⟩ := g
  dsimp only at y1 y2 y3 y4
  dsimp only [ps_bd, ps_ex] at hne ⊢
  obtain ⟨pt1, e26, l26, s26⟩ := y2.2.1
  refine pb_bindm (pm_asksWord (K := 1952998766) y2.1 e26 l26 y2.2.2.1 rfl) (fun w7 q => ?_)
  rw [s26] at q
  have f6 := pm_fr_k f5 y4 (pk_ge_refl _) (Nat.le_refl _)
  have zs1 := (ps_sk_p hx p1 b1).2.1
  rcases q with ⟨q1, q3⟩ | ⟨q1, q3⟩
  rotate_left
  · rw [if_neg q1]
    rw [hF w7 _ q3.1 (Nat.le_trans zs1 hn), pb_bds]
    exact bad2 v1 _ w7 _ zs1 q3.1 (pm_fo_tr f6.1 (pm_fl_fo q3)) (pm_po_fl q3 zs1)
  rw [if_pos q1] at hne ⊢
  have i2 : ps_SI n (gl, sc, ow, ne + 1) (ps_te c n (ps_sk c n p1), th1, la1, ins1, lt1, si1, nd1) := ps_word_si hx (d := 0) j1 q1 (by decide) (Or.inl rfl) (by decide)
  have S7 := pm_S_lx (p' := ps_te c n (ps_sk c n p1)) y2 q3 i2.1 rfl
  have f7 := pm_fr_lx f6 q3
  have n2 : rs (gl, sc, ow, ne + 1) (ps_te c n (ps_sk c n p1), th1, la1, ins1, lt1, si1, nd1) ≠ none := by
    intro r
    rw [r] at hne
    exact hne rfl
  refine pb_bdm (hr _ _ _ i2 S7 n2) (fun v2 w8 g => ?_)
  cases hq2 : rs (gl, sc, ow, ne + 1) (ps_te c n (ps_sk c n p1), th1, la1, ins1, lt1, si1, nd1) with
  | none => exact absurd hq2 n2
  | some r =>
  rw [hq2] at g hne
  cases r with
  | error z => exact bad2 v1 v2 w8 z g.1 g.2.1 (pm_fo_tr f7.1 g.2.2.1) g.2.2.2
  | ok y =>
  obtain ⟨tb, S2⟩ := y
  have o2 := hp _ _ _ _ i2 hq2
  have j2 := ps_PO_SI i2 o2
  obtain ⟨p2, th2, la2, ins2, lt2, si2, nd2⟩ := S2
  obtain ⟨d1, d2, d3, d4, d5, d6⟩ := ps_PO_x o2
  obtain ⟨x1, x2, x3, x4⟩ := g
  dsimp only at x1 x2 x3 x4
  dsimp only at hne ⊢
  obtain ⟨pt2, f26, m26, t26⟩ := x2.2.1
  refine pb_bindm (pm_asksWord (K := 1701606245) x2.1 f26 m26 x2.2.2.1 rfl) (fun w9 q => ?_)
  rw [t26] at q
  have f8 := pm_fr_k f7 x4 b5 (Nat.le_refl _)
  have zs2 := (ps_sk_p hx p2 d1).2.1
  rcases q with ⟨u1, u3⟩ | ⟨u1, u3⟩
  rotate_left
  · rw [if_neg u1]
    rw [hF w9 _ u3.1 (Nat.le_trans zs2 hn), pb_bds]
    exact bad3 v1 v2 _ w9 _ zs2 u3.1 (pm_fo_tr f8.1 (pm_fl_fo u3)) (pm_po_fl u3 zs2)
  rw [if_pos u1] at hne ⊢
  have i3 : ps_SI n (gl, sc, ow, ne + 1) (ps_te c n (ps_sk c n p2), th2, la2, ins2, lt2, si2, nd2) := ps_word_si hx (d := 0) j2 u1 (by decide) (Or.inl rfl) (by decide)
  have S9 := pm_S_lx (p' := ps_te c n (ps_sk c n p2)) x2 u3 i3.1 rfl
  have f9 := pm_fr_lx f8 u3
  have n3 : rs (gl, sc, ow, ne + 1) (ps_te c n (ps_sk c n p2), th2, la2, ins2, lt2, si2, nd2) ≠ none := by
    intro r
    rw [r] at hne
    exact hne rfl
  refine pb_bdm (hr _ _ _ i3 S9 n3) (fun v3 w10 g => ?_)
  cases hq3 : rs (gl, sc, ow, ne + 1) (ps_te c n (ps_sk c n p2), th2, la2, ins2, lt2, si2, nd2) with
  | none => exact absurd hq3 n3
  | some r =>
  rw [hq3] at g hne
  cases r with
  | error z => exact bad3 v1 v2 v3 w10 z g.1 g.2.1 (pm_fo_tr f9.1 g.2.2.1) g.2.2.2
  | ok y =>
  obtain ⟨tc, S3⟩ := y
  have o3 := hp _ _ _ _ i3 hq3
  have j3 := ps_PO_SI i3 o3
  obtain ⟨p3, th3, la3, ins3, lt3, si3, nd3⟩ := S3
  obtain ⟨r1, r2, r3, r4, r5, r6⟩ := ps_PO_x o3
  obtain ⟨v1', v2', v3', v4'⟩ := g
  dsimp only at v1' v2' v3' v4'
  have l2 := pk_ge_tr b5 d5
  have l3 := pk_ge_tr l2 r5
  have f10 := pm_fr_k f9 v4' l2 (Nat.le_refl _)
  obtain ⟨cl1, cl2⟩ := pm_S_close v2'
  have f11 : pm_fr la ins.length si nd sc.length w (fa_st w10 181 29 (ne : Int)) := pm_fr_s f10 rfl
  have g11 : pm_fr la3 ins3.length si3 nd3 sc.length w10 (fa_st w10 181 29 (ne : Int)) := pm_fr_s (pm_fr_refl _ _ _ _ _ _) rfl
  rw [cl1]
  generalize fa_st w10 181 29 (ne : Int) = w11 at cl2 f11 g11 ⊢
  rw [pm_node (nd := nd3) cl2.2.2.1 cl2.2.2.2.1 (ps_SI_x j3).2.2.1]
  have g12 := pm_nw_fr g11 (Nat.le_refl nd3) 5 v1 v2 v3 0
  refine pb_some ⟨rfl, pm_S_node cl2 _ _ _ _ _, ?_, pm_nw_fr f11 l3.2.2.2 _ _ _ _ _⟩
  have k := pm_nw_k w11 nd3 5 v1 v2 v3 0
  have lb1 := pk_lbs lb0 b5
  have lb2 := pk_lbs lb1 d5
  have fB : pm_fr la2 ins2.length si2 nd2 sc.length w8 w10 := pm_fr_k (pm_fr_lx (pm_fr_refl la2 ins2.length si2 nd2 sc.length _) u3) v4' (pk_ge_refl _) (Nat.le_refl _)
  have fA : pm_fr la1 ins1.length si1 nd1 sc.length w6 w10 := pm_fr_k (pm_fr_k (pm_fr_lx (pm_fr_refl _ _ _ _ _ _) q3) x4 (pk_ge_refl _) (Nat.le_refl _)) fB d5 (Nat.le_refl _)
  refine ⟨?_, ?_, ?_, ?_, ?_, ?_, ?_⟩
  · exact pm_H_fr b2 b4 b3 lb0 (pm_fr_k fA g12 (pk_ge_tr d5 r5) (Nat.le_refl _)) y3
  · rw [b6]; exact pm_H_fr d2 d4 d3 lb1 (pm_fr_k fB g12 r5 (Nat.le_refl _)) x3
  · rw [b6, d6]; exact pm_H_fr r2 r4 r3 lb2 g12 v3'
  · rw [b6, d6, r6]; exact k.1
  · rw [b6, d6, r6]; exact k.2.1.trans y1
  · rw [b6, d6, r6]; exact k.2.2.1.trans x1
  · rw [b6, d6, r6]; exact k.2.2.2.1.trans v1'
