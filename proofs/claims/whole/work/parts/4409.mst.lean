/-! PHASE B. The reference's reader: its state as the spec's, the tree that lies in its arrays, what stays as it was -/
def pm_sc : List (Nat × Nat) → fa_W → Prop
  | [], _ => True
  | b :: r, w => w 198 r.length = (b.1 : Int) ∧ w 192 b.1 = ((pm_cv b.2 : Nat) : Int) ∧ pm_sc r w
def pm_S (c : Nat → Int) (n : Nat) (fr : Bool) : ps_E → ps_S → fa_W → Prop
  | (gl, sc, ow, ne), (p, th, la, ins, _, si, nd), w => pm_tx c n w ∧ (∃ p0 : Nat, w 181 26 = (p0 : Int) ∧ p0 ≤ n ∧ ps_sk c n p0 = ps_sk c n p) ∧ w 181 28 = -1 ∧ w 181 16 = (nd : Int) ∧ w 181 35 = (th : Int) ∧ w 181 18 = (la : Int) ∧ w 181 19 = (ins.length : Int) ∧ w 181 20 = (si : Int) ∧ w 181 29 = (ne : Int) ∧ w 181 30 = ow ∧ (w 181 31 ≠ 0 ↔ fr = true) ∧ w 181 17 = (gl.length : Int) ∧ (∀ k x, gl[k]? = some x → w 190 k = ((pm_cv x : Nat) : Int)) ∧ w 181 33 = (sc.length : Int) ∧ pm_sc sc w
def pm_H : pt_T → Int → Nat → fa_W → Prop := pt_rec
  (fun v _ a w => w 184 a = 0 ∧ w 188 a = (v : Int))
  (fun v x _ a w => w 184 a = 1 ∧ w 185 a = (v : Int) ∧ w 192 v = ((pm_cv x : Nat) : Int))
  (fun g x _ a w => w 184 a = 2 ∧ w 185 a = (g : Int) ∧ w 190 g = ((pm_cv x : Nat) : Int))
  (fun d _ a w => w 184 a = 3 ∧ d = a)
  (fun f x b rb h a w => rb (f : Int) a w ∧ w 184 (a + pt_sz b) = 4 ∧ w 185 (a + pt_sz b) = (f : Int) ∧ w 189 f = ((a + pt_sz b - 1 : Nat) : Int) ∧ w 191 f = h ∧ w 192 f = ((pm_cv x : Nat) : Int) ∧ w 193 f = (f : Int))
  (fun ta tb tc ra rb rc h a w => ra h a w ∧ rb h (a + pt_sz ta) w ∧ rc h (a + pt_sz ta + pt_sz tb) w ∧ w 184 (a + pt_sz ta + pt_sz tb + pt_sz tc) = 5 ∧ w 185 (a + pt_sz ta + pt_sz tb + pt_sz tc) = ((a + pt_sz ta - 1 : Nat) : Int) ∧ w 186 (a + pt_sz ta + pt_sz tb + pt_sz tc) = ((a + pt_sz ta + pt_sz tb - 1 : Nat) : Int) ∧ w 187 (a + pt_sz ta + pt_sz tb + pt_sz tc) = ((a + pt_sz ta + pt_sz tb + pt_sz tc - 1 : Nat) : Int))
  (fun v x ta tb ra rb h a w => ra h a w ∧ rb h (a + pt_sz ta) w ∧ w 184 (a + pt_sz ta + pt_sz tb) = 6 ∧ w 185 (a + pt_sz ta + pt_sz tb) = ((a + pt_sz ta - 1 : Nat) : Int) ∧ w 186 (a + pt_sz ta + pt_sz tb) = ((a + pt_sz ta + pt_sz tb - 1 : Nat) : Int) ∧ w 187 (a + pt_sz ta + pt_sz tb) = (v : Int) ∧ w 192 v = ((pm_cv x : Nat) : Int) ∧ w 193 v = h)
  (fun s ta tb ra rb h a w => ra h a w ∧ rb h (a + pt_sz ta) w ∧ w 184 (a + pt_sz ta + pt_sz tb) = 7 ∧ w 185 (a + pt_sz ta + pt_sz tb) = ((a + pt_sz ta - 1 : Nat) : Int) ∧ w 186 (a + pt_sz ta + pt_sz tb) = ((a + pt_sz ta + pt_sz tb - 1 : Nat) : Int) ∧ w 188 (a + pt_sz ta + pt_sz tb) = (s : Int))
  (fun s ta tb ra rb h a w => ra h a w ∧ rb h (a + pt_sz ta) w ∧ w 184 (a + pt_sz ta + pt_sz tb) = 8 ∧ w 185 (a + pt_sz ta + pt_sz tb) = ((a + pt_sz ta - 1 : Nat) : Int) ∧ w 186 (a + pt_sz ta + pt_sz tb) = ((a + pt_sz ta + pt_sz tb - 1 : Nat) : Int) ∧ w 188 (a + pt_sz ta + pt_sz tb) = (s : Int) ∧ w 194 s = ((a + pt_sz ta + pt_sz tb : Nat) : Int) ∧ w 195 s = h)
  (fun _ _ _ => False)
/-- what the reader never touches -/
def pm_fo (w w' : fa_W) : Prop := (∀ o k, (o ≤ 180 ∨ o = 182 ∨ o = 183 ∨ o = 190 ∨ o = 196 ∨ o = 197 ∨ 199 ≤ o) → w' o k = w o k) ∧ ∀ k, (k ≤ 15 ∨ k = 17 ∨ (21 ≤ k ∧ k ≤ 25) ∨ k = 31 ∨ k = 32 ∨ 36 ≤ k) → w' 181 k = w 181 k
def pm_fr (la li si nd sl : Nat) (w w' : fa_W) : Prop := pm_fo w w' ∧ (∀ o k, 184 ≤ o → o ≤ 188 → k < nd → w' o k = w o k) ∧ (∀ o k, o = 194 ∨ o = 195 → k < si → w' o k = w o k) ∧ (∀ o k, o = 189 ∨ o = 191 → k < 6 + la → w' o k = w o k) ∧ (∀ o v, o = 192 ∨ o = 193 → pk_lb v la li → w' o v = w o v) ∧ ∀ k, k < sl → w' 198 k = w 198 k
theorem pm_fo_refl (w : fa_W) : pm_fo w w := ⟨fun _ _ _ => rfl, fun _ _ => rfl⟩
theorem pm_fo_tr {w w1 w2 : fa_W} (h1 : pm_fo w w1) (h2 : pm_fo w1 w2) : pm_fo w w2 := ⟨fun o k h => (h2.1 o k h).trans (h1.1 o k h), fun k h => (h2.2 k h).trans (h1.2 k h)⟩
theorem pm_fr_refl (la li si nd sl : Nat) (w : fa_W) : pm_fr la li si nd sl w w := ⟨pm_fo_refl w, fun _ _ _ _ _ => rfl, fun _ _ _ _ => rfl, fun _ _ _ _ => rfl, fun _ _ _ _ => rfl, fun _ _ => rfl⟩
theorem pm_fr_tr {la li si nd sl la1 li1 si1 nd1 sl1 : Nat} {w w1 w2 : fa_W} (h1 : pm_fr la li si nd sl w w1) (h2 : pm_fr la1 li1 si1 nd1 sl1 w1 w2) (a1 : la ≤ la1) (a2 : li ≤ li1) (a3 : si ≤ si1) (a4 : nd ≤ nd1) (a5 : sl ≤ sl1) : pm_fr la li si nd sl w w2 := by
  obtain ⟨b1, b2, b3, b4, b5, b6⟩ := h1
  obtain ⟨c1, c2, c3, c4, c5, c6⟩ := h2
  refine ⟨pm_fo_tr b1 c1, fun o k p q r => (c2 o k p q (by omega)).trans (b2 o k p q r), fun o k p r => (c3 o k p (by omega)).trans (b3 o k p r), fun o k p r => (c4 o k p (by omega)).trans (b4 o k p r), fun o v p r => (c5 o v p ?_).trans (b5 o v p r), fun k r => (c6 k (by omega)).trans (b6 k r)⟩
  unfold pk_lb at r ⊢
  omega
theorem pm_fr_mono {la li si nd sl la1 li1 si1 nd1 sl1 : Nat} {w w1 : fa_W} (h2 : pm_fr la1 li1 si1 nd1 sl1 w w1) (a1 : la ≤ la1) (a2 : li ≤ li1) (a3 : si ≤ si1) (a4 : nd ≤ nd1) (a5 : sl ≤ sl1) : pm_fr la li si nd sl w w1 := pm_fr_tr (pm_fr_refl la li si nd sl w) h2 a1 a2 a3 a4 a5
theorem pm_lx_fo {w w' : fa_W} {p : Nat} (h : pm_lx w w' p) : pm_fo w w' := ⟨fun o k q => h.2 o k (by omega), fun k q => h.2 181 k (by omega)⟩
theorem pm_lx_fr {w w' : fa_W} {p la li si nd sl : Nat} (h : pm_lx w w' p) : pm_fr la li si nd sl w w' := ⟨pm_lx_fo h, fun o k a b _ => h.2 o k (by omega), fun o k a _ => h.2 o k (by omega), fun o k a _ => h.2 o k (by omega), fun o k a _ => h.2 o k (by omega), fun k _ => h.2 198 k (by omega)⟩
theorem pm_fl_fo {w w' : fa_W} {p : Nat} (h : pm_fl w w' p) : pm_fo w w' := ⟨fun o k q => h.2.1 o k (by omega), fun k q => h.2.1 181 k (by omega)⟩
theorem pm_po_S {c : Nat → Int} {n : Nat} {fr : Bool} {e : ps_E} {s : ps_S} {w : fa_W} (h : pm_S c n fr e s w) : pm_po n w := by
  obtain ⟨gl, sc, ow, ne⟩ := e
  obtain ⟨p, th, la, ins, lt, si, nd⟩ := s
  obtain ⟨p0, h1, h2, _⟩ := h.2.1
  exact ⟨p0, h1, h2⟩
/-- a number of the reader's own is written -/
theorem pm_st_fo (w : fa_W) {k : Nat} (v : Int) (hk : ¬ (k ≤ 15 ∨ k = 17 ∨ (21 ≤ k ∧ k ≤ 25) ∨ k = 31 ∨ k = 32 ∨ 36 ≤ k)) : pm_fo w (fa_st w 181 k v) := ⟨fun o j q => fa_st_ne (by omega), fun j q => fa_st_ne (by omega)⟩
theorem pm_st_fr (w : fa_W) {k la li si nd sl : Nat} (v : Int) (hk : ¬ (k ≤ 15 ∨ k = 17 ∨ (21 ≤ k ∧ k ≤ 25) ∨ k = 31 ∨ k = 32 ∨ 36 ≤ k)) : pm_fr la li si nd sl w (fa_st w 181 k v) := ⟨pm_st_fo w v hk, fun o j a b _ => fa_st_ne (by omega), fun o j a _ => fa_st_ne (by omega), fun o j a _ => fa_st_ne (by omega), fun o j a _ => fa_st_ne (by omega), fun j _ => fa_st_ne (by omega)⟩
theorem pm_sc_of : ∀ (sc : List (Nat × Nat)) {w w' : fa_W}, (∀ k, k < sc.length → w' 198 k = w 198 k) → (∀ b ∈ sc, w' 192 b.1 = w 192 b.1) → pm_sc sc w → pm_sc sc w' := by
  intro sc
  induction sc with
  | nil => intro w w' _ _ _; trivial
  | cons b r ih =>
    intro w w' h1 h2 h
    refine ⟨?_, ?_, ih (fun k hk => h1 k (by rw [List.length_cons]; omega)) (fun b hb => h2 b (List.mem_cons_of_mem _ hb)) h.2.2⟩
    · rw [h1 _ (by rw [List.length_cons]; omega)]; exact h.1
    · rw [h2 b List.mem_cons_self]; exact h.2.1
theorem pk_can_mono (t : pt_T) (ht : pt_tw t) : ∀ k k', pk_can t k k' → k.1 ≤ k'.1 ∧ k.2.1 ≤ k'.2.1 ∧ k.2.2.1 ≤ k'.2.2.1 ∧ k'.2.2.2 = k.2.2.2 + pt_sz t := by
  induction t, ht using pt_indh with
  | num v => intro k k' h; cases h; exact ⟨Nat.le_refl _, Nat.le_refl _, Nat.le_refl _, rfl⟩
  | var v x => intro k k' h; cases h; exact ⟨Nat.le_refl _, Nat.le_refl _, Nat.le_refl _, rfl⟩
  | glo v x => intro k k' h; cases h; exact ⟨Nat.le_refl _, Nat.le_refl _, Nat.le_refl _, rfl⟩
  | dead d => intro k k' h; cases h.2; exact ⟨Nat.le_refl _, Nat.le_refl _, Nat.le_refl _, rfl⟩
  | lam f x b _ ih =>
    intro k k' h
    obtain ⟨_, k1, h1, rfl⟩ := h
    have q := ih _ _ h1
    dsimp only at q ⊢
    exact ⟨by omega, q.2.1, q.2.2.1, by rw [q.2.2.2]; exact Nat.add_assoc _ _ _⟩
  | ife a b c ta tb tc iha ihb ihc =>
    intro k k' h
    obtain ⟨k1, k2, k3, h1, h2, h3, rfl⟩ := h
    have q1 := iha _ _ h1
    have q2 := ihb _ _ h2
    have q3 := ihc _ _ h3
    have e : pt_sz (pt_ife a b c) = pt_sz a + pt_sz b + pt_sz c + 1 := rfl
    dsimp only
    rw [e]
    omega
  | lt v x a b ta tb iha ihb =>
    intro k k' h
    obtain ⟨k1, k2, h1, _, h2, rfl⟩ := h
    have q1 := iha _ _ h1
    have q2 := ihb _ _ h2
    have e : pt_sz (pt_let v x a b) = pt_sz a + pt_sz b + 1 := rfl
    dsimp only at q2 ⊢
    rw [e]
    omega
  | op s a b ta tb iha ihb =>
    intro k k' h
    obtain ⟨k1, k2, h1, h2, rfl⟩ := h
    have q1 := iha _ _ h1
    have q2 := ihb _ _ h2
    have e : pt_sz (pt_op s a b) = pt_sz a + pt_sz b + 1 := rfl
    dsimp only
    rw [e]
    omega
  | site s a b ta tb iha ihb =>
    intro k k' h
    obtain ⟨k1, k2, h1, _, h2, rfl⟩ := h
    have q1 := iha _ _ h1
    have q2 := ihb _ _ h2
    have e : pt_sz (pt_site s a b) = pt_sz a + pt_sz b + 1 := rfl
    dsimp only at q2 ⊢
    rw [e]
    omega
theorem pk_lb_mono {v la li la' li' : Nat} (h : pk_lb v la li) (a : la ≤ la') (b : li ≤ li') : pk_lb v la' li' := by
  unfold pk_lb at h ⊢
  omega
/-- what a tree that lies between two counts needs -/
def pm_ht (G : Nat) (k k' : pk_K) (w w' : fa_W) : Prop := (∀ o j, 184 ≤ o → o ≤ 188 → k.2.2.2 ≤ j → j < k'.2.2.2 → w' o j = w o j) ∧ (∀ o j, o = 194 ∨ o = 195 → k.2.2.1 ≤ j → j < k'.2.2.1 → w' o j = w o j) ∧ (∀ o j, o = 189 ∨ o = 191 → 6 + k.1 ≤ j → j < 6 + k'.1 → w' o j = w o j) ∧ (∀ o v, o = 192 ∨ o = 193 → pk_lb v k'.1 k'.2.1 → (G < 6 → v ≠ G) → w' o v = w o v) ∧ ∀ j, (G < 6 → j ≠ G) → w' 190 j = w 190 j
theorem pm_ht_mono {G : Nat} {k k' j j' : pk_K} {w w' : fa_W} (h : pm_ht G k k' w w') (a1 : k.1 ≤ j.1) (a2 : j'.1 ≤ k'.1) (a3 : j'.2.1 ≤ k'.2.1) (a4 : k.2.2.1 ≤ j.2.2.1) (a5 : j'.2.2.1 ≤ k'.2.2.1) (a6 : k.2.2.2 ≤ j.2.2.2) (a7 : j'.2.2.2 ≤ k'.2.2.2) : pm_ht G j j' w w' := ⟨fun o i p q r s => h.1 o i p q (by omega) (by omega), fun o i p r s => h.2.1 o i p (by omega) (by omega), fun o i p r s => h.2.2.1 o i p (by omega) (by omega), fun o v p r s => h.2.2.2.1 o v p (by unfold pk_lb at r ⊢; omega) s, h.2.2.2.2⟩
theorem pm_fr_ht {G : Nat} {k k' : pk_K} {sl : Nat} {w w' : fa_W} (h : pm_fr k'.1 k'.2.1 k'.2.2.1 k'.2.2.2 sl w w') : pm_ht G k k' w w' := ⟨fun o j p q _ s => h.2.1 o j p q s, fun o j p _ s => h.2.2.1 o j p s, fun o j p _ s => h.2.2.2.1 o j p s, fun o v p r _ => h.2.2.2.2.1 o v p r, fun j _ => h.1.1 190 j (by omega)⟩
/-- the tree stays where it lies -/
theorem pm_H_tr (t : pt_T) (ht : pt_tw t) : ∀ (gl : List Nat) (sc : List (Nat × Nat)) (h : Int) (k k' : pk_K) (w w' : fa_W) (G : Nat), (G < 6 → gl.length ≤ G) → (G < 6 → ∀ b ∈ sc, b.1 ≠ G) → pk_can t k k' → pk_wfs t gl sc → (∀ b ∈ sc, pk_lb b.1 k.1 k.2.1) → pm_ht G k k' w w' → pm_H t h k.2.2.2 w → pm_H t h k.2.2.2 w' := by
  induction t, ht using pt_indh with
  | num v =>
    intro gl sc h k k' w w' G hgl hsG hc hw hs hf H
    cases hc
    have hg := hf
    unfold pm_ht at hg
    dsimp only at hg
    exact ⟨by rw [hg.1 184 _ (by omega) (by omega) (Nat.le_refl _) (Nat.lt_succ_self _)]; exact H.1, by rw [hg.1 188 _ (by omega) (by omega) (Nat.le_refl _) (Nat.lt_succ_self _)]; exact H.2⟩
  | var v x =>
    intro gl sc h k k' w w' G hgl hsG hc hw hs hf H
    cases hc
    have hg := hf
    unfold pm_ht at hg
    dsimp only at hg
    have lb := hs _ (ps_lk_mem sc x v hw.1)
    exact ⟨by rw [hg.1 184 _ (by omega) (by omega) (Nat.le_refl _) (Nat.lt_succ_self _)]; exact H.1, by rw [hg.1 185 _ (by omega) (by omega) (Nat.le_refl _) (Nat.lt_succ_self _)]; exact H.2.1, by rw [hg.2.2.2.1 192 v (Or.inl rfl) lb (fun q => hsG q _ (ps_lk_mem sc x v hw.1))]; exact H.2.2⟩
  | glo g x =>
    intro gl sc h k k' w w' G hgl hsG hc hw hs hf H
    cases hc
    have hg := hf
    unfold pm_ht at hg
    dsimp only at hg
    exact ⟨by rw [hg.1 184 _ (by omega) (by omega) (Nat.le_refl _) (Nat.lt_succ_self _)]; exact H.1, by rw [hg.1 185 _ (by omega) (by omega) (Nat.le_refl _) (Nat.lt_succ_self _)]; exact H.2.1, by rw [hg.2.2.2.2 g (fun q e => by have := hgl q; have := (ps_gx_mem gl x 0 g hw.2.1).2.1; omega)]; exact H.2.2⟩
  | dead d =>
    intro gl sc h k k' w w' G hgl hsG hc hw hs hf H
    cases hc.2
    have hg := hf
    unfold pm_ht at hg
    dsimp only at hg
    exact ⟨by rw [hg.1 184 _ (by omega) (by omega) (Nat.le_refl _) (Nat.lt_succ_self _)]; exact H.1, H.2⟩
  | lam f x b tb ih =>
    intro gl sc h k k' w w' G hgl hsG hc hw hs hf H
    obtain ⟨ef, k1, h1, rfl⟩ := hc
    have m := pk_can_mono b tb _ _ h1
    obtain ⟨H1, H2, H3, H4, H5, H6, H7⟩ := H
    dsimp only at m
    have hg := hf
    unfold pm_ht at hg
    dsimp only at hg
    have lf : pk_lb f k1.1 k1.2.1 := Or.inl (by omega)
    refine ⟨ih gl ((f, x) :: sc) _ (k.1 + 1, k.2) _ _ _ G hgl (fun q b hb => by
      rcases List.mem_cons.mp hb with rfl | hb
      · dsimp only; omega
      · exact hsG q b hb) h1 hw.2 ?_ (pm_ht_mono hf (by (try dsimp only); omega) (by (try dsimp only); omega) (by (try dsimp only); omega) (by (try dsimp only); omega) (by (try dsimp only); omega) (by (try dsimp only); omega) (by (try dsimp only); omega)) H1, ?_, ?_, ?_, ?_, ?_, ?_⟩
    · intro b hb
      rcases List.mem_cons.mp hb with rfl | hb
      · exact Or.inl (by (try dsimp only); omega)
      · exact pk_lb_mono (hs b hb) (by (try dsimp only); omega) (Nat.le_refl _)
    · rw [hg.1 184 _ (by omega) (by omega) (by omega) (by omega)]; exact H2
    · rw [hg.1 185 _ (by omega) (by omega) (by omega) (by omega)]; exact H3
    · rw [hg.2.2.1 189 f (by omega) (by omega) (by omega)]; exact H4
    · rw [hg.2.2.1 191 f (by omega) (by omega) (by omega)]; exact H5
    · rw [hg.2.2.2.1 192 f (by omega) lf (by omega)]; exact H6
    · rw [hg.2.2.2.1 193 f (by omega) lf (by omega)]; exact H7
  | ife a b c ta tb tc iha ihb ihc =>
    intro gl sc h k k' w w' G hgl hsG hc hw hs hf H
    obtain ⟨k1, k2, k3, h1, h2, h3, rfl⟩ := hc
    have m1 := pk_can_mono a ta _ _ h1
    have m2 := pk_can_mono b tb _ _ h2
    have m3 := pk_can_mono c tc _ _ h3
    obtain ⟨H1, H2, H3, H4, H5, H6, H7⟩ := H
    have hg := hf
    unfold pm_ht at hg
    dsimp only at hg
    have e1 : k.2.2.2 + pt_sz a = k1.2.2.2 := by omega
    have e2 : k1.2.2.2 + pt_sz b = k2.2.2.2 := by omega
    rw [e1] at H2
    rw [e1, e2] at H3
    refine ⟨iha gl sc _ k k1 _ _ G hgl hsG h1 hw.1 hs (pm_ht_mono hf (by (try dsimp only); omega) (by (try dsimp only); omega) (by (try dsimp only); omega) (by (try dsimp only); omega) (by (try dsimp only); omega) (by (try dsimp only); omega) (by (try dsimp only); omega)) H1, ?_, ?_, ?_, ?_, ?_, ?_⟩
    · rw [e1]; exact ihb gl sc _ k1 k2 _ _ G hgl hsG h2 hw.2.1 (fun b hb => pk_lb_mono (hs b hb) (by omega) (by omega)) (pm_ht_mono hf (by (try dsimp only); omega) (by (try dsimp only); omega) (by (try dsimp only); omega) (by (try dsimp only); omega) (by (try dsimp only); omega) (by (try dsimp only); omega) (by (try dsimp only); omega)) H2
    · rw [e1, e2]; exact ihc gl sc _ k2 k3 _ _ G hgl hsG h3 hw.2.2 (fun b hb => pk_lb_mono (hs b hb) (by omega) (by omega)) (pm_ht_mono hf (by (try dsimp only); omega) (by (try dsimp only); omega) (by (try dsimp only); omega) (by (try dsimp only); omega) (by (try dsimp only); omega) (by (try dsimp only); omega) (by (try dsimp only); omega)) H3
    · rw [hg.1 184 _ (by omega) (by omega) (by omega) (by omega)]; exact H4
    · rw [hg.1 185 _ (by omega) (by omega) (by omega) (by omega)]; exact H5
    · rw [hg.1 186 _ (by omega) (by omega) (by omega) (by omega)]; exact H6
    · rw [hg.1 187 _ (by omega) (by omega) (by omega) (by omega)]; exact H7
  | lt v x a b ta tb iha ihb =>
    intro gl sc h k k' w w' G hgl hsG hc hw hs hf H
    obtain ⟨k1, k2, h1, ev, h2, rfl⟩ := hc
    have m1 := pk_can_mono a ta _ _ h1
    have m2 := pk_can_mono b tb _ _ h2
    obtain ⟨H1, H2, H3, H4, H5, H6, H7, H8⟩ := H
    dsimp only at m2
    have hg := hf
    unfold pm_ht at hg
    dsimp only at hg
    have e1 : k.2.2.2 + pt_sz a = k1.2.2.2 := by omega
    have lv : pk_lb v k2.1 k2.2.1 := Or.inr (by omega)
    rw [e1] at H2
    refine ⟨iha gl sc _ k k1 _ _ G hgl hsG h1 hw.2.1 hs (pm_ht_mono hf (by (try dsimp only); omega) (by (try dsimp only); omega) (by (try dsimp only); omega) (by (try dsimp only); omega) (by (try dsimp only); omega) (by (try dsimp only); omega) (by (try dsimp only); omega)) H1, ?_, ?_, ?_, ?_, ?_, ?_, ?_⟩
    · rw [e1]
      refine ihb gl ((v, x) :: sc) _ (k1.1, k1.2.1 + 1, k1.2.2) k2 _ _ G hgl (fun q b hb => by
        rcases List.mem_cons.mp hb with rfl | hb
        · dsimp only; omega
        · exact hsG q b hb) h2 hw.2.2 (fun b hb => ?_) (pm_ht_mono hf (by (try dsimp only); omega) (by (try dsimp only); omega) (by (try dsimp only); omega) (by (try dsimp only); omega) (by (try dsimp only); omega) (by (try dsimp only); omega) (by (try dsimp only); omega)) H2
      rcases List.mem_cons.mp hb with rfl | hb
      · exact Or.inr (by (try dsimp only); omega)
      · exact pk_lb_mono (hs b hb) (by (try dsimp only); omega) (by (try dsimp only); omega)
    · rw [hg.1 184 _ (by omega) (by omega) (by omega) (by omega)]; exact H3
    · rw [hg.1 185 _ (by omega) (by omega) (by omega) (by omega)]; exact H4
    · rw [hg.1 186 _ (by omega) (by omega) (by omega) (by omega)]; exact H5
    · rw [hg.1 187 _ (by omega) (by omega) (by omega) (by omega)]; exact H6
    · rw [hg.2.2.2.1 192 v (by omega) lv (by omega)]; exact H7
    · rw [hg.2.2.2.1 193 v (by omega) lv (by omega)]; exact H8
  | op s a b ta tb iha ihb =>
    intro gl sc h k k' w w' G hgl hsG hc hw hs hf H
    obtain ⟨k1, k2, h1, h2, rfl⟩ := hc
    have m1 := pk_can_mono a ta _ _ h1
    have m2 := pk_can_mono b tb _ _ h2
    obtain ⟨H1, H2, H3, H4, H5, H6⟩ := H
    have hg := hf
    unfold pm_ht at hg
    dsimp only at hg
    have e1 : k.2.2.2 + pt_sz a = k1.2.2.2 := by omega
    rw [e1] at H2
    refine ⟨iha gl sc _ k k1 _ _ G hgl hsG h1 hw.2.1 hs (pm_ht_mono hf (by (try dsimp only); omega) (by (try dsimp only); omega) (by (try dsimp only); omega) (by (try dsimp only); omega) (by (try dsimp only); omega) (by (try dsimp only); omega) (by (try dsimp only); omega)) H1, ?_, ?_, ?_, ?_, ?_⟩
    · rw [e1]; exact ihb gl sc _ k1 k2 _ _ G hgl hsG h2 hw.2.2 (fun b hb => pk_lb_mono (hs b hb) (by omega) (by omega)) (pm_ht_mono hf (by (try dsimp only); omega) (by (try dsimp only); omega) (by (try dsimp only); omega) (by (try dsimp only); omega) (by (try dsimp only); omega) (by (try dsimp only); omega) (by (try dsimp only); omega)) H2
    · rw [hg.1 184 _ (by omega) (by omega) (by omega) (by omega)]; exact H3
    · rw [hg.1 185 _ (by omega) (by omega) (by omega) (by omega)]; exact H4
    · rw [hg.1 186 _ (by omega) (by omega) (by omega) (by omega)]; exact H5
    · rw [hg.1 188 _ (by omega) (by omega) (by omega) (by omega)]; exact H6
  | site s a b ta tb iha ihb =>
    intro gl sc h k k' w w' G hgl hsG hc hw hs hf H
    obtain ⟨k1, k2, h1, es, h2, rfl⟩ := hc
    have m1 := pk_can_mono a ta _ _ h1
    have m2 := pk_can_mono b tb _ _ h2
    obtain ⟨H1, H2, H3, H4, H5, H6, H7, H8⟩ := H
    dsimp only at m2
    have hg := hf
    unfold pm_ht at hg
    dsimp only at hg
    have e1 : k.2.2.2 + pt_sz a = k1.2.2.2 := by omega
    rw [e1] at H2
    refine ⟨iha gl sc _ k k1 _ _ G hgl hsG h1 hw.1 hs (pm_ht_mono hf (by (try dsimp only); omega) (by (try dsimp only); omega) (by (try dsimp only); omega) (by (try dsimp only); omega) (by (try dsimp only); omega) (by (try dsimp only); omega) (by (try dsimp only); omega)) H1, ?_, ?_, ?_, ?_, ?_, ?_, ?_⟩
    · rw [e1]
      exact ihb gl sc _ (k1.1, k1.2.1, k1.2.2.1 + 1, k1.2.2.2) k2 _ _ G hgl hsG h2 hw.2 (fun b hb => pk_lb_mono (hs b hb) (by (try dsimp only); omega) (by (try dsimp only); omega)) (pm_ht_mono hf (by (try dsimp only); omega) (by (try dsimp only); omega) (by (try dsimp only); omega) (by (try dsimp only); omega) (by (try dsimp only); omega) (by (try dsimp only); omega) (by (try dsimp only); omega)) H2
    · rw [hg.1 184 _ (by omega) (by omega) (by omega) (by omega)]; exact H3
    · rw [hg.1 185 _ (by omega) (by omega) (by omega) (by omega)]; exact H4
    · rw [hg.1 186 _ (by omega) (by omega) (by omega) (by omega)]; exact H5
    · rw [hg.1 188 _ (by omega) (by omega) (by omega) (by omega)]; exact H6
    · rw [hg.2.1 194 s (by omega) (by omega) (by omega)]; exact H7
    · rw [hg.2.1 195 s (by omega) (by omega) (by omega)]; exact H8
