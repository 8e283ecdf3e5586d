/-! copying: sums over the GLOBALS, and what an item is -/
def pe_sm (f : Nat → Nat) : List Nat → Nat
  | [] => 0
  | g :: r => f g + pe_sm f r
def pe_up (f : Nat → Nat) : Nat → Nat
  | 0 => 0
  | n + 1 => pe_up f n + f n
theorem pe_sm_erase (f : Nat → Nat) (x : Nat) : ∀ (r : List Nat), x ∈ r → pe_sm f r = f x + pe_sm f (r.erase x) := by
  intro r
  induction r with
  | nil => intro h; cases h
  | cons y r ih =>
    intro h
    by_cases e : y = x
    · rw [e, List.erase_cons_head]; rfl
    · have hm : x ∈ r := by
        rcases List.mem_cons.mp h with z | z
        · exact absurd z.symm e
        · exact z
      rw [List.erase_cons_tail (by simpa using e)]
      show f y + pe_sm f r = f x + (f y + pe_sm f (r.erase x))
      have := ih hm
      omega
theorem pe_sm_up (f : Nat → Nat) : ∀ (n : Nat) (r : List Nat), r.Nodup → (∀ g, g ∈ r ↔ g < n) → pe_sm f r = pe_up f n := by
  intro n
  induction n with
  | zero =>
    intro r _ h
    cases r with
    | nil => rfl
    | cons x r => exact absurd ((h x).mp (List.mem_cons_self ..)) (by omega)
  | succ n ih =>
    intro r hn h
    rw [pe_sm_erase f n r ((h n).mpr (by omega)), ih (r.erase n) (hn.erase n) (fun g => by rw [hn.mem_erase_iff, h g]; omega)]
    show f n + pe_up f n = pe_up f n + f n
    omega
theorem pe_up_cons (f : Nat → Nat) : ∀ n, pe_up f (n + 1) = f 0 + pe_up (fun j => f (j + 1)) n := by
  intro n
  induction n with
  | zero => show 0 + f 0 = f 0 + 0; omega
  | succ n ih =>
    show pe_up f (n + 1) + f (n + 1) = f 0 + (pe_up (fun j => f (j + 1)) n + f (n + 1))
    omega
theorem pe_up_cong {f f' : Nat → Nat} : ∀ n, (∀ j, j < n → f j = f' j) → pe_up f n = pe_up f' n := by
  intro n
  induction n with
  | zero => intro _; rfl
  | succ n ih =>
    intro h
    show pe_up f n + f n = pe_up f' n + f' n
    rw [ih (fun j hj => h j (by omega)), h n (by omega)]
theorem pe_Nsum {M CL : Nat → Bool} {t : pt_T} : ∀ (gs : ps_G) (g n : Nat), pc_N M CL gs g n = n + pe_up (fun j => if M (g + j) = true then (if CL (g + j) = true then pc_sz CL (pn_tr gs t j) else 1) else 0) gs.length := by
  intro gs
  induction gs with
  | nil => intro g n; rfl
  | cons e r ih =>
    intro g n
    obtain ⟨x, v, t'⟩ := e
    have en : pe_up (fun j => if M (g + 1 + j) = true then (if CL (g + 1 + j) = true then pc_sz CL (pn_tr r t j) else 1) else 0) r.length = pe_up (fun j => if M (g + (j + 1)) = true then (if CL (g + (j + 1)) = true then pc_sz CL (pn_tr ((x, v, t') :: r) t (j + 1)) else 1) else 0) r.length := pe_up_cong _ (fun j _ => by
      rw [show g + 1 + j = g + (j + 1) by omega]; rfl)
    have e0 : pn_tr ((x, v, t') :: r) t 0 = t' := rfl
    rw [List.length_cons, pe_up_cons]
    show (if M g = true then pc_N M CL r (g + 1) (n + if CL g = true then pc_sz CL t' else 1) else pc_N M CL r (g + 1) n) = _
    rw [e0]
    by_cases c : M g = true
    · rw [if_pos c, if_pos (show M (g + 0) = true from c), ih (g + 1), en, show CL (g + 0) = CL g from rfl]; omega
    · rw [if_neg c, if_neg (show ¬ M (g + 0) = true from c), ih (g + 1), en]; omega
/-- the sizes of what is written again -/
def pe_vs (CL VI : Nat → Bool) (gs : ps_G) (t : pt_T) (g : Nat) : Nat := if VI g = true then pc_sz CL (pn_tr gs t g) else 0
theorem pe_tot {M CL : Nat → Bool} {gs : ps_G} {t : pt_T} {os : List Nat} (hn : os.Nodup) (hm : ∀ g, g ∈ os ↔ g ≤ gs.length) : pe_sm (pe_vs CL (pe_VI gs.length M CL) gs t) os + pe_dz M CL gs.length = pc_N M CL gs 0 0 + pc_sz CL t := by
  have key : ∀ k, k ≤ gs.length → pe_up (pe_vs CL (pe_VI gs.length M CL) gs t) k + pe_dz M CL k = pe_up (fun j => if M (0 + j) = true then (if CL (0 + j) = true then pc_sz CL (pn_tr gs t j) else 1) else 0) k := by
    intro k
    induction k with
    | zero => intro _; rfl
    | succ k ih =>
      intro hk
      have i := ih (by omega)
      show pe_up _ k + pe_vs CL (pe_VI gs.length M CL) gs t k + (pe_dz M CL k + (if M k = true ∧ CL k = false then 1 else 0)) = pe_up _ k + (if M (0 + k) = true then (if CL (0 + k) = true then pc_sz CL (pn_tr gs t k) else 1) else 0)
      have ev : pe_VI gs.length M CL k = (M k && CL k) := if_pos (by omega)
      generalize pe_up (fun j => if M (0 + j) = true then (if CL (0 + j) = true then pc_sz CL (pn_tr gs t j) else 1) else 0) k = U at i ⊢
      generalize pe_up (pe_vs CL (pe_VI gs.length M CL) gs t) k = U2 at i ⊢
      unfold pe_vs
      rw [ev, Nat.zero_add]
      rcases Bool.eq_false_or_eq_true (M k) with a | a <;> rcases Bool.eq_false_or_eq_true (CL k) with b | b <;> simp [a, b] <;> omega
  rw [pe_sm_up _ (gs.length + 1) os hn (fun g => by rw [hm g]; omega), pe_Nsum (t := t) gs 0 0]
  have q := key gs.length (Nat.le_refl _)
  have el : pe_vs CL (pe_VI gs.length M CL) gs t gs.length = pc_sz CL t := by
    have ev : pe_VI gs.length M CL gs.length = true := if_neg (by omega)
    unfold pe_vs
    rw [if_pos ev, pn_tr_len]
  show pe_up (pe_vs CL (pe_VI gs.length M CL) gs t) gs.length + pe_vs CL (pe_VI gs.length M CL) gs t gs.length + _ = _
  rw [el]
  omega
theorem pe_okG {M CL SV LV : Nat → Bool} {t : pt_T} : ∀ (gs : ps_G) (g : Nat), pc_okG M CL SV LV gs g → ∀ j, j < gs.length → (CL (g + j) = true → M (g + j) = true) ∧ pc_ok M CL SV LV (pn_tr gs t j) (CL (g + j)) := by
  intro gs
  induction gs with
  | nil => intro g _ j hj; rw [List.length_nil] at hj; omega
  | cons e r ih =>
    intro g h j hj
    obtain ⟨x, v, t'⟩ := e
    obtain ⟨h1, h2, h3⟩ := h
    rw [List.length_cons] at hj
    cases j with
    | zero => exact ⟨h1, h2⟩
    | succ j =>
      have := ih (g + 1) h3 j (by omega)
      rw [show g + 1 + j = g + (j + 1) by omega] at this
      exact this
/-- a program whose LAMBDAS are numbered from B -/
def pn_VB (B : Nat) (gs : ps_G) (t : pt_T) (la li si nd : Nat) : Prop := gs.length ≤ 6 ∧ la ≤ 18 ∧ nd ≤ 100 ∧ si ≤ 100 ∧ li ≤ 100 ∧ pt_tw t ∧ pk_wfs t (pk_gn gs) [] ∧ ∃ k1, pn_GW B gs [] (0, 0, 0, 0) k1 ∧ pn_can B t k1 (la, li, si, nd)
theorem pc_VB {B : Nat} {M CL SV LV : Nat → Bool} {gs : ps_G} {t : pt_T} {la li si nd : Nat} (hB6 : B ≤ 6) (hV : pn_VB B gs t la li si nd) (hG : pc_okG M CL SV LV gs 0) (hM : pc_ok M CL SV LV t true) : pn_VB (pc_rk M B) (pc_G M CL (pc_ρ M LV) (pc_rk SV) gs 0 0) (pc_t CL (pc_ρ M LV) (pc_rk SV) t (pc_N M CL gs 0 0)) (pc_rk M (B + la) - pc_rk M B) (pc_rk LV li) (pc_rk SV si) (pc_N M CL gs 0 0 + pc_sz CL t) ∧ (pc_G M CL (pc_ρ M LV) (pc_rk SV) gs 0 0).length = pc_rk M gs.length := by
  obtain ⟨v1, v2, v3, v4, v5, v6, v7, k1, v8, v9⟩ := hV
  have el : ([] : List Nat).length = 0 := rfl
  have m := pn_mono t v6 _ _ v9
  dsimp only at m
  obtain ⟨g1, g2, g3⟩ := pc_GW (M := M) (CL := CL) (SV := SV) (LV := LV) hB6 gs [] _ _ 0 (by rw [el]; omega) (by omega) v8 (by rw [el]; exact hG)
  rw [el] at g1 g2 g3
  have k0 : pc_K M SV LV B (0, 0, 0, 0) 0 = (0, 0, 0, 0) := by
    unfold pc_K
    rw [Nat.add_zero, Nat.sub_self]; rfl
  rw [k0] at g1
  have gl0 : pc_gl M [] 0 = [] := rfl
  rw [gl0] at g1 g2
  rw [List.nil_append, List.nil_append] at g2
  have len : (pc_G M CL (pc_ρ M LV) (pc_rk SV) gs 0 0).length = pc_rk M gs.length := by
    have a := pc_gl_len M (pk_gn gs) 0
    rw [g2, Nat.zero_add, show pc_rk M 0 = 0 from rfl, Nat.zero_add] at a
    unfold pk_gn at a
    rw [List.length_map, List.length_map] at a
    exact a
  have r1 := pc_rk_le M gs.length
  have r2 := pc_rk_le LV li
  have r3 := pc_rk_le SV si
  have r4 := pc_sz_le CL t v6
  have r5 : pc_rk M (B + la) ≤ pc_rk M B + la := by
    have key : ∀ d, pc_rk M (B + d) ≤ pc_rk M B + d := by
      intro d
      induction d with
      | zero => exact Nat.le_refl _
      | succ d ih =>
        show pc_rk M (B + d) + (M (B + d)).toNat ≤ _
        have : (M (B + d)).toNat ≤ 1 := by cases M (B + d) <;> decide
        omega
    exact key la
  dsimp only at g3
  refine ⟨⟨by rw [len]; omega, by omega, by omega, by omega, by omega, (pc_t_tw t v6 _).1, ?_, _, g1, ?_⟩, len⟩
  · rw [← g2]
    have wf := pc_wfs (M := M) (LV := LV) t v6 (pk_gn gs) (pc_gl M (pk_gn gs) 0) [] _ _ (pc_N M CL gs 0 0) v9 hM (fun y g hy hm => by
      have q := pc_gx M y g hm (pk_gn gs) 0 hy
      have gb := (ps_gx_mem _ _ _ _ hy).2.1
      unfold pk_gn at gb
      rw [List.length_map] at gb
      unfold pc_ρ
      rw [if_pos (by omega)]
      exact q) v7
    exact wf
  · have c := pc_can (M := M) (CL := CL) (SV := SV) (LV := LV) t v6 _ _ (pc_N M CL gs 0 0) (by dsimp only; omega) v9 hM
    exact c
/-- an item of a program, with all that its copy needs -/
def pe_it (B si li nf nv G : Nat) (M CL SV LV VI : Nat → Bool) (g : Nat) (u : pt_T) : Prop := pt_tw u ∧ ∃ k k' gl sc, pn_can B u k k' ∧ k'.2.1 ≤ li ∧ k'.2.2.1 ≤ si ∧ pk_wfs u gl sc ∧ gl.length ≤ G ∧ (∀ b ∈ sc, b.1 = g ∧ g < G) ∧ pf_W nf nv 100 u ∧ pc_ok M CL SV LV u (VI g)
theorem pe_its {B : Nat} {M CL SV LV : Nat → Bool} {gs : ps_G} {t : pt_T} {la li si nd : Nat} (hBl : gs.length ≤ B) (hB6 : B ≤ 6) (hV : pn_VB B gs t la li si nd) (hG : pc_okG M CL SV LV gs 0) (hM : pc_ok M CL SV LV t true) : ∀ g, g ≤ gs.length → pe_it B si li (B + la) (24 + li) gs.length M CL SV LV (pe_VI gs.length M CL) g (pn_tr gs t g) := by
  obtain ⟨v1, v2, v3, v4, v5, v6, v7, k1, v8, v9⟩ := hV
  obtain ⟨K, K', a1, _⟩ := pn_items gs [] _ _ _ v8 v6 (by rw [List.nil_append]; exact v7) v9
  intro g hg
  obtain ⟨z1, z2, z3, z4, gl, sc, z5, z6, z7, z8⟩ := a1 g hg
  rw [List.length_nil] at z6 z8
  obtain ⟨y1, y2, y3, y4⟩ := z4
  dsimp only at y1 y2 y3
  refine ⟨z1, K g, K' g, gl, sc, z2, y2, y3, z5, by omega, fun b hb => by have := z8 b hb; omega, pf_W_of _ z1 gl sc _ _ (by omega) (fun b hb => by have := z8 b hb; omega) z2 z5 (by omega) (by omega) (by omega) (by omega), ?_⟩
  by_cases e : g < gs.length
  · obtain ⟨c1, c2⟩ := pe_okG (t := t) gs 0 hG g e
    rw [Nat.zero_add] at c1 c2
    have ev : pe_VI gs.length M CL g = CL g := by
      unfold pe_VI
      rw [if_pos e]
      rcases Bool.eq_false_or_eq_true (CL g) with b | b
      · rw [b, c1 b]; rfl
      · rw [b, Bool.and_false]
    rw [ev]; exact c2
  · have eg : g = gs.length := by omega
    have ev : pe_VI gs.length M CL g = true := if_neg e
    rw [ev, eg, pn_tr_len]; exact hM
theorem pn_site_item {B : Nat} {t : pt_T} : ∀ (gs : ps_G) (gl : List Nat) (k k1 k2 : pk_K), pn_GW B gs gl k k1 → pn_can B t k1 k2 → ∀ s, k.2.2.1 ≤ s → s < k2.2.2.1 → ∃ g, g ≤ gs.length ∧ ∃ ka kb, pn_can B (pn_tr gs t g) ka kb ∧ ka.2.2.1 ≤ s ∧ s < kb.2.2.1 := by
  intro gs
  induction gs with
  | nil =>
    intro gl k k1 k2 h hc f h1 h2
    cases h
    exact ⟨0, Nat.le_refl _, k, k2, hc, h1, h2⟩
  | cons e r ih =>
    intro gl k k1 k2 h hc f h1 h2
    obtain ⟨x, v, t'⟩ := e
    obtain ⟨_, _, _, tt, _, k3, h6, h7⟩ := h
    by_cases z : f < k3.2.2.1
    · exact ⟨0, Nat.zero_le _, k, k3, h6, h1, z⟩
    · obtain ⟨g, g1, ka, kb, g2, g3, g4⟩ := ih _ _ _ _ h7 hc f (by omega) h2
      exact ⟨g + 1, by rw [List.length_cons]; omega, ka, kb, g2, g3, g4⟩
