/-! what the class knows of the TYPES -/
def pv_al (gs : ps_G) (t : pt_T) (f g : Nat) : Prop := ∀ r, pv_P r gs t → r.2.1 f = r.2.1 g
/-- a is the most general one that X has -/
def pv_prin (gs : ps_G) (t : pt_T) (X : pv_R → pv_T) (a : pv_T) : Prop := (∃ r, pv_P r gs t ∧ X r = a) ∧ ∀ r, pv_P r gs t → ∃ g, pv_sub g a = X r
theorem pv_prin_pr {gs : ps_G} {t : pt_T} {X : pv_R → pv_T} {a b : pv_T} (ha : pv_prin gs t X a) (hb : pv_prin gs t X b) : (pv_pr b []).1 = (pv_pr a []).1 := by
  obtain ⟨⟨r1, p1, e1⟩, h1⟩ := ha
  obtain ⟨⟨r2, p2, e2⟩, h2⟩ := hb
  obtain ⟨g, hg⟩ := h1 r2 p2
  obtain ⟨g', hg'⟩ := h2 r1 p1
  exact pv_pr_eq (g := g) (g' := g') (by rw [hg, e2]) (by rw [hg', e1])
/-- links that say just what the program asks of the TYPES: FT where FUNCTIONS', qm where MAIN's number stands -/
def pu_Q (nf : Nat) (gs : ps_G) (t : pt_T) (T : Nat) (up : Nat → Nat) (ar : pu_A) (FT : Nat → Nat) (qm : Nat) : Prop := qm < T ∧ (∀ f, f < nf → FT f < T) ∧ (∀ r, pv_P r gs t → ∃ val, pu_0 T up ar val ∧ (∀ f, f < nf → val (FT f) = r.2.1 f) ∧ val qm = pv_t r t) ∧ (∀ val, pu_0 T up ar val → ∃ r, pv_P r gs t ∧ (∀ f, f < nf → val (FT f) = r.2.1 f) ∧ val qm = pv_t r t)
theorem pu_Q_al {nf : Nat} {gs : ps_G} {t : pt_T} {T : Nat} {up : Nat → Nat} {ar : pu_A} {FT : Nat → Nat} {qm : Nat} {R : Nat → Nat} {l : List Nat} {N : Nat} (hI : pu_I T up ar R l N) (hQ : pu_Q nf gs t T up ar FT qm) {rk : Nat → Nat} (hc : pu_ac T up ar R rk) {M : Nat} (hM : ∀ k, k < T → rk k < M) {f g : Nat} (hf : f < nf) (hg : g < nf) : pu_ev R ar (M + 1) (FT f) = pu_ev R ar (M + 1) (FT g) ↔ pv_al gs t f g := by
  obtain ⟨q1, q2, q3, q4⟩ := hQ
  constructor
  · intro e r hr
    obtain ⟨val, v0, v1, _⟩ := q3 r hr
    rw [← v1 f hf, ← v1 g hg, ← pu_prin hI v0 (M + 1) (FT f) (q2 f hf), e, pu_prin hI v0 (M + 1) (FT g) (q2 g hg)]
  · intro h
    obtain ⟨r, r1, r2, _⟩ := q4 _ (pu_ev_0 hI hc hM)
    rw [r2 f hf, r2 g hg]
    exact h r r1
theorem pu_Q_pf {nf : Nat} {gs : ps_G} {t : pt_T} {T : Nat} {up : Nat → Nat} {ar : pu_A} {FT : Nat → Nat} {qm : Nat} {R : Nat → Nat} {l : List Nat} {N : Nat} (hI : pu_I T up ar R l N) (hQ : pu_Q nf gs t T up ar FT qm) {rk : Nat → Nat} (hc : pu_ac T up ar R rk) {M : Nat} (hM : ∀ k, k < T → rk k < M) {f : Nat} (hf : f < nf) : pv_prin gs t (fun r => r.2.1 f) (pu_ev R ar (M + 1) (FT f)) := by
  obtain ⟨q1, q2, q3, q4⟩ := hQ
  refine ⟨?_, fun r hr => ?_⟩
  · obtain ⟨r, r1, r2, _⟩ := q4 _ (pu_ev_0 hI hc hM)
    exact ⟨r, r1, (r2 f hf).symm⟩
  · obtain ⟨val, v0, v1, _⟩ := q3 r hr
    exact ⟨val, by rw [pu_prin hI v0 (M + 1) (FT f) (q2 f hf)]; exact v1 f hf⟩
theorem pu_Q_pm {nf : Nat} {gs : ps_G} {t : pt_T} {T : Nat} {up : Nat → Nat} {ar : pu_A} {FT : Nat → Nat} {qm : Nat} {R : Nat → Nat} {l : List Nat} {N : Nat} (hI : pu_I T up ar R l N) (hQ : pu_Q nf gs t T up ar FT qm) {rk : Nat → Nat} (hc : pu_ac T up ar R rk) {M : Nat} (hM : ∀ k, k < T → rk k < M) : pv_prin gs t (fun r => pv_t r t) (pu_ev R ar (M + 1) qm) := by
  obtain ⟨q1, q2, q3, q4⟩ := hQ
  refine ⟨?_, fun r hr => ?_⟩
  · obtain ⟨r, r1, _, r2⟩ := q4 _ (pu_ev_0 hI hc hM)
    exact ⟨r, r1, r2.symm⟩
  · obtain ⟨val, v0, _, v1⟩ := q3 r hr
    exact ⟨val, by rw [pu_prin hI v0 (M + 1) qm q1]; exact v1⟩
theorem pu_bd (rk : Nat → Nat) : ∀ T : Nat, ∃ M, ∀ k, k < T → rk k < M := by
  intro T
  induction T with
  | zero => exact ⟨0, fun k hk => by omega⟩
  | succ T ih =>
    obtain ⟨M, hM⟩ := ih
    exact ⟨M + rk T + 1, fun k hk => by
      by_cases z : k = T
      · rw [z]; omega
      · have := hM k (by omega); omega⟩
/-- the class's TYPES of the program that o holds -/
def px_TV (oT oP : Nat) (gs : ps_G) (t : pt_T) (nf nd : Nat) (w : fa_W) : Prop := ∃ (T : Nat) (up : Nat → Nat) (ar : pu_A) (R : Nat → Nat) (l : List Nat) (N : Nat) (qm : Nat) (sh : Nat → Option Nat) (rk : Nat → Nat), px_U oT T up ar false w ∧ pu_I T up ar R l N ∧ px_tv oT nf w ∧ nf ≤ 24 ∧ nd ≤ 100 ∧ w (oT + 9) 1 = (nd : Int) ∧ (∃ jm : Nat, w oP 16 = (jm : Int) ∧ jm < nd ∧ w (oT + 10) jm = (qm : Int)) ∧ pu_Q nf gs t T up ar (fun f => 76 + 2 * f) qm ∧ px_SH oT T sh w ∧ px_hI T up ar R sh ∧ (∀ k, k < T → up k = k → sh k ≠ none) ∧ pu_ac T up ar R rk
theorem px_TV_of {oT oP : Nat} {gs : ps_G} {t : pt_T} {nf nd : Nat} {w w' : fa_W} (h : px_TV oT oP gs t nf nd w) (e : ∀ i j, (oT ≤ i ∧ i ≤ oT + 14) ∨ (i = oP ∧ j = 16) → w' i j = w i j) : px_TV oT oP gs t nf nd w' := by
  obtain ⟨T, up, ar, R, l, N, qm, sh, rk, h1, h2, h3, h4, h5, h6, ⟨jm, h7, h8, h9⟩, h10, h11, h12, h13, h14⟩ := h
  exact ⟨T, up, ar, R, l, N, qm, sh, rk, px_U_of h1 (fun i j q => e i j (by omega)), h2, ⟨by rw [e _ _ (by omega)]; exact h3.1, fun v hv => by rw [e _ _ (by omega)]; exact h3.2.1 v hv, by rw [e _ _ (by omega)]; exact h3.2.2.1, fun f hf => by rw [e _ _ (by omega)]; exact h3.2.2.2 f hf⟩, h4, h5, by rw [e _ _ (by omega)]; exact h6, ⟨jm, by rw [e _ _ (by omega)]; exact h7, h8, by rw [e _ _ (by omega)]; exact h9⟩, h10, ⟨by rw [e _ _ (by omega)]; exact h11.1, fun k hk => by rw [e _ _ (by omega)]; exact h11.2 k hk⟩, h12, h13, h14⟩
theorem px_infer {oT oP : Nat} {gs : ps_G} {t : pt_T} {la li si nd : Nat} {ins os : List Nat} {w : fa_W} (ho : px_to oT) (hp : px_po oP) (hd : oP + 26 < oT) (hV : pn_V gs t la li si nd) (hx : px_V oP gs t la li si nd ins os w) : ∃ b w', fm_Typing_infer oT oP w = some (b, w') ∧ (b = true → (∃ r, pv_P r gs t) ∧ px_TV oT oP gs t (gs.length + la) nd w') ∧ (b = false → ¬ ∃ r, pv_P r gs t) ∧ ∀ i j, (i < oT ∨ oT + 16 < i) → w' i j = w i j := by
  obtain ⟨w1, T, up, ar, cl, R, l, N, qm, jm, e1, hI, m1, m2, m3, m4, hQ, fr⟩ := px_infer1 ho hp hd hV hx
  obtain ⟨a1, a2, a3, a4, a5, a6, a7, a8⟩ := id hI
  have x13 : w1 oP 13 = (gs.length : Int) := by rw [fr _ _ (by omega)]; exact hx.2.1.1
  have g6 := hV.1
  have c8 : w1 oT 8 = fa_bi cl := a1.2.2.2.2.2.2.1
  have e2 : fm_Typing_infer oT oP w = if cl = true then some (false, w1) else (fa_bd (fm_Typing_nameShapes oT w1) fun v8 w9 => if v8 = true then some (true, w9) else some (false, w9)) := by
    rw [e1]
    show (if fa_wr (w1 oP 13) ≤ fa_wr (gs.length : Int) then _ else _) = _
    rw [x13, pb_wr (by omega), if_pos (Int.le_refl _), c8]
    cases cl <;> rfl
  rw [e2]
  cases cl with
  | true =>
    rw [if_pos rfl]
    refine ⟨false, w1, rfl, (fun z => by cases z), fun _ hr => ?_, fr⟩
    obtain ⟨r, hr⟩ := hr
    have := (hQ.1 r hr).1
    cases this
  | false =>
    rw [if_neg (by decide)]
    obtain ⟨b, w2, sh, n1, n2, n3, n4, n5, n6⟩ := px_nameShapes ho a2 a1
    rw [n1]
    have fr2 : ∀ i j, (i < oT ∨ oT + 16 < i) → w2 i j = w i j := fun i j z => (n6 i j (by omega) (by omega)).trans (fr i j z)
    dsimp only [fa_bd, Option.bind_some]
    cases b with
    | false =>
      rw [if_neg (by decide)]
      refine ⟨false, w2, rfl, (fun z => by cases z), fun _ hr => ?_, fr2⟩
      obtain ⟨r, hr⟩ := hr
      obtain ⟨_, val, v0, _⟩ := hQ.1 r hr
      exact n5 rfl _ (pu_ac_0 a2 v0)
    | true =>
      rw [if_pos rfl]
      have all := n4 rfl
      have hrk : ∃ rk, pu_ac T up ar R rk := by
        obtain ⟨rk, hrk⟩ := n3.2.2.2.2
        refine ⟨rk, fun k hk hu a b ea => ?_⟩
        obtain ⟨c, hc⟩ := Option.ne_none_iff_exists'.mp (all k hk hu)
        exact hrk k c a b hc ea
      obtain ⟨rk, hrk⟩ := hrk
      obtain ⟨M, hM⟩ := pu_bd rk T
      have ex : ∃ r, pv_P r gs t := by
        obtain ⟨_, r, hr, _⟩ := hQ.2 rfl _ (pu_ev_0 a2 hrk hM)
        exact ⟨r, hr⟩
      refine ⟨true, w2, rfl, fun _ => ⟨ex, T, up, ar, R, l, N, qm, sh, rk, px_U_sf a1 n6, a2, ⟨by rw [n6 _ _ (by omega) (by omega)]; exact a3.1, fun v hv => by rw [n6 _ _ (by omega) (by omega)]; exact a3.2.1 v hv, by rw [n6 _ _ (by omega) (by omega)]; exact a3.2.2.1, fun f hf => by rw [n6 _ _ (by omega) (by omega)]; exact a3.2.2.2 f hf⟩, a8, hV.2.2.1, by rw [n6 _ _ (by omega) (by omega)]; exact a4, ⟨jm, by rw [n6 _ _ (by omega) (by omega)]; exact m1, m2, by rw [n6 _ _ (by omega) (by omega)]; exact m3⟩, ⟨m4, fun f hf => by dsimp only; omega, fun r hr => ?_, fun val h0 => ?_⟩, n2, n3, all, hrk⟩, (fun z => by cases z), fr2⟩
      · obtain ⟨_, val, v0, _, v1, v2⟩ := hQ.1 r hr
        exact ⟨val, v0, v1.2, v2⟩
      · obtain ⟨_, r, hr, v1, v2⟩ := hQ.2 rfl val h0
        exact ⟨r, hr, v1.2, v2⟩
/-- alike, as the class tells it -/
theorem px_same {oT oP : Nat} {gs : ps_G} {t : pt_T} {nf nd : Nat} {w : fa_W} (ho : px_to oT) (h : px_TV oT oP gs t nf nd w) {f g : Nat} (hf : f < nf) (hg : g < nf) : ∃ b, fm_Typing_same oT (f : Int) (g : Int) w = some b ∧ (b = true ↔ pv_al gs t f g) := by
  obtain ⟨T, up, ar, R, l, N, qm, sh, rk, h1, h2, h3, h4, h5, h6, h7, h10, h11, h12, h13, h14⟩ := h
  have hT : T ≤ 400 := h1.2.2.2.2.2.2.2
  have hFT := h10.2.1
  obtain ⟨M, hM⟩ := pu_bd rk T
  have f1 := hFT f hf
  have g1 := hFT g hg
  dsimp only at f1 g1
  have rf := pu_root h2 f1
  have rg := pu_root h2 g1
  have ev := px_sh_ev h2 h12 h13 h14 (M + 1) (76 + 2 * f) (76 + 2 * g) f1 g1 (by have := hM _ rf.2.1; omega) (by have := hM _ rg.2.1; omega)
  have al := pu_Q_al h2 h10 h14 hM hf hg
  have hc : ∀ k c, sh k = some c → c < T := fun k c e => (h12.1 k c e).2.2.1
  unfold fm_Typing_same
  rw [ho.1.2.2.2.2.2.2.1, px_of ho h3 h4 hf, px_of ho h3 h4 hg, px_root ho h2 h1 f1, px_root ho h2 h1 g1]
  dsimp only [Option.bind_some]
  rw [ho.1.2.2.2.1, px_sh_at ho h11 hT rf.2.1, px_sh_at ho h11 hT rg.2.1, px_shr_wr hT hc, px_shr_wr hT hc]
  obtain ⟨x, hx⟩ := Option.ne_none_iff_exists'.mp (h13 _ rf.2.1 rf.2.2)
  obtain ⟨y, hy⟩ := Option.ne_none_iff_exists'.mp (h13 _ rg.2.1 rg.2.2)
  rw [hx, hy] at ev ⊢
  by_cases e : x = y
  · rw [if_pos (by rw [e])]
    exact ⟨true, rfl, fun _ => al.mp (ev.mp (by rw [e])), fun _ => rfl⟩
  · rw [if_neg (fun q => e (by change (x : Int) = (y : Int) at q; omega))]
    exact ⟨false, rfl, (fun z => by cases z), fun z => absurd (ev.mpr (al.mpr z)) (fun q => e (by injection q))⟩
/-- whether MAIN is a NUMBER -/
theorem px_isInt {oT oP : Nat} {gs : ps_G} {t : pt_T} {nf nd : Nat} {w : fa_W} (ho : px_to oT) (h : px_TV oT oP gs t nf nd w) : ∃ b, fm_Typing_isInt oT (fr_at (oT + 9) (w oP 16) w) w = some b ∧ (b = true ↔ ∀ r, pv_P r gs t → pv_t r t = pv_int) := by
  obtain ⟨T, up, ar, R, l, N, qm, sh, rk, h1, h2, h3, h4, h5, h6, ⟨jm, j1, j2, j3⟩, h10, h11, h12, h13, h14⟩ := h
  have hT : T ≤ 400 := h1.2.2.2.2.2.2.2
  obtain ⟨M, hM⟩ := pu_bd rk T
  obtain ⟨q1, q2, q3, q4⟩ := h10
  have rm := pu_root h2 q1
  unfold fm_Typing_isInt
  rw [j1, px_ot ho h6 h5 j2, j3, px_root ho h2 h1 q1]
  dsimp only [Option.bind_some]
  rw [pb_wr (by omega)]
  by_cases e : R qm = 0
  · rw [if_pos (by omega)]
    refine ⟨true, rfl, fun _ r hr => ?_, fun _ => rfl⟩
    obtain ⟨val, v0, _, v1⟩ := q3 r hr
    rw [← v1, ← pu_0_R h2 v0 q1, e]
    exact v0.1
  · rw [if_neg (by omega)]
    refine ⟨false, rfl, (fun z => by cases z), fun z => ?_⟩
    obtain ⟨r, hr, _, r1⟩ := q4 _ (pu_ev_0 h2 h14 hM)
    have e2 := z r hr
    rw [← r1] at e2
    change (if R qm = 0 then pv_int else match ar (R qm) with | none => pv_v (R qm) | some (a, b) => pv_ar (pu_ev R ar M a) (pu_ev R ar M b)) = pv_int at e2
    rw [if_neg e] at e2
    split at e2 <;> cases e2
