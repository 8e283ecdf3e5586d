/-! the program with EXPRS taken away is one, too -/
theorem pc_wfs {M CL SV LV : Nat → Bool} {B : Nat} (t : pt_T) (tt : pt_tw t) : ∀ (gl gl' : List Nat) (sc : List (Nat × Nat)) (k k' : pk_K) (n : Nat), pn_can B t k k' → pc_ok M CL SV LV t true → (∀ x g, ps_gx gl x 0 = some g → M g = true → ps_gx gl' x 0 = some (pc_ρ M LV g)) → pk_wfs t gl sc → pk_wfs (pc_t CL (pc_ρ M LV) (pc_rk SV) t n) gl' (sc.map (fun b => (pc_ρ M LV b.1, b.2))) := by
  have lkm : ∀ (sc : List (Nat × Nat)) (x v : Nat), ps_lk sc x = some v → ps_lk (sc.map (fun b => (pc_ρ M LV b.1, b.2))) x = some (pc_ρ M LV v) := by
    intro sc
    induction sc with
    | nil => intro x v h; cases h
    | cons b r ih =>
      intro x v h
      show (if b.2 = x then some (pc_ρ M LV b.1) else ps_lk (r.map _) x) = _
      change (if b.2 = x then some b.1 else ps_lk r x) = some v at h
      by_cases e : b.2 = x
      · rw [if_pos e] at h ⊢; cases h; rfl
      · rw [if_neg e] at h ⊢; exact ih x v h
  have lkn : ∀ (sc : List (Nat × Nat)) (x : Nat), ps_lk sc x = none → ps_lk (sc.map (fun b => (pc_ρ M LV b.1, b.2))) x = none := by
    intro sc
    induction sc with
    | nil => intro x h; rfl
    | cons b r ih =>
      intro x h
      show (if b.2 = x then some (pc_ρ M LV b.1) else ps_lk (r.map _) x) = _
      change (if b.2 = x then some b.1 else ps_lk r x) = none at h
      by_cases e : b.2 = x
      · rw [if_pos e] at h; cases h
      · rw [if_neg e] at h ⊢; exact ih x h
  induction t, tt using pt_indh with
  | num v => intro gl gl' sc k k' n _ _ _ h; exact h
  | var v x => intro gl gl' sc k k' n _ _ _ h; exact ⟨lkm sc x v h.1, h.2⟩
  | glo g x => intro gl gl' sc k k' n _ ok hg h; exact ⟨lkn sc x h.1, hg x g h.2.1 (ok rfl), h.2.2⟩
  | dead d => intro gl gl' sc k k' n _ _ _ h; exact h
  | lam f x b tb ih =>
    intro gl gl' sc k k' n hc ok hg h
    obtain ⟨ef, k1, h1, rfl⟩ := hc
    obtain ⟨o1, o2, o3⟩ := ok
    have e : pc_t CL (pc_ρ M LV) (pc_rk SV) (pt_lam f x b) n = if CL f = true then pt_lam (pc_ρ M LV f) x (pc_t CL (pc_ρ M LV) (pc_rk SV) b n) else pt_lam (pc_ρ M LV f) x (pt_dead n) := rfl
    rw [e]
    by_cases c : CL f = true
    · rw [if_pos c]
      rw [c] at o3
      exact ⟨h.1, ih gl gl' ((f, x) :: sc) _ _ n h1 o3 hg h.2⟩
    · rw [if_neg c]
      exact ⟨h.1, trivial⟩
  | ife a b c ta tb tc iha ihb ihc =>
    intro gl gl' sc k k' n hc ok hg h
    obtain ⟨k1, k2, k3, h1, h2, h3, rfl⟩ := hc
    exact ⟨iha _ _ _ _ _ _ h1 ok.1 hg h.1, ihb _ _ _ _ _ _ h2 ok.2.1 hg h.2.1, ihc _ _ _ _ _ _ h3 ok.2.2 hg h.2.2⟩
  | lt v x a b ta tb iha ihb =>
    intro gl gl' sc k k' n hc ok hg h
    obtain ⟨k1, k2, h1, _, h2, rfl⟩ := hc
    exact ⟨h.1, iha _ _ _ _ _ _ h1 ok.2.1 hg h.2.1, ihb _ _ ((v, x) :: sc) _ _ _ h2 ok.2.2 hg h.2.2⟩
  | op s a b ta tb iha ihb =>
    intro gl gl' sc k k' n hc ok hg h
    obtain ⟨k1, k2, h1, h2, rfl⟩ := hc
    exact ⟨h.1, iha _ _ _ _ _ _ h1 ok.1 hg h.2.1, ihb _ _ _ _ _ _ h2 ok.2 hg h.2.2⟩
  | site s a b ta tb iha ihb =>
    intro gl gl' sc k k' n hc ok hg h
    obtain ⟨k1, k2, h1, _, h2, rfl⟩ := hc
    exact ⟨iha _ _ _ _ _ _ h1 ok.2.1 hg h.1, ihb _ _ _ _ _ _ h2 ok.2.2 hg h.2⟩
def pc_G (M CL : Nat → Bool) (ρ σ : Nat → Nat) : ps_G → Nat → Nat → ps_G
  | [], _, _ => []
  | (x, v, t) :: r, g, n => if M g = true then (x, v, if CL g = true then pc_t CL ρ σ t n else pt_dead n) :: pc_G M CL ρ σ r (g + 1) (n + if CL g = true then pc_sz CL t else 1) else pc_G M CL ρ σ r (g + 1) n
def pc_N (M CL : Nat → Bool) : ps_G → Nat → Nat → Nat
  | [], _, n => n
  | (_, _, t) :: r, g, n => if M g = true then pc_N M CL r (g + 1) (n + if CL g = true then pc_sz CL t else 1) else pc_N M CL r (g + 1) n
def pc_gl (M : Nat → Bool) : List Nat → Nat → List Nat
  | [], _ => []
  | x :: r, g => if M g = true then x :: pc_gl M r (g + 1) else pc_gl M r (g + 1)
theorem pc_gl_app (M : Nat → Bool) (x : Nat) : ∀ (l : List Nat) (g : Nat), pc_gl M (l ++ [x]) g = pc_gl M l g ++ if M (g + l.length) = true then [x] else [] := by
  intro l
  induction l with
  | nil => intro g; rfl
  | cons y r ih =>
    intro g
    show (if M g = true then y :: pc_gl M (r ++ [x]) (g + 1) else pc_gl M (r ++ [x]) (g + 1)) = (if M g = true then y :: pc_gl M r (g + 1) else pc_gl M r (g + 1)) ++ _
    rw [ih (g + 1), List.length_cons, show g + 1 + r.length = g + (r.length + 1) by omega]
    by_cases c : M g = true
    · rw [if_pos c, if_pos c]; rfl
    · rw [if_neg c, if_neg c]
theorem pc_gl_len (M : Nat → Bool) : ∀ (l : List Nat) (g : Nat), pc_rk M g + (pc_gl M l g).length = pc_rk M (g + l.length) := by
  intro l
  induction l with
  | nil => intro g; rfl
  | cons y r ih =>
    intro g
    have i := ih (g + 1)
    rw [List.length_cons, show g + (r.length + 1) = g + 1 + r.length by omega, ← i]
    show pc_rk M g + (if M g = true then y :: pc_gl M r (g + 1) else pc_gl M r (g + 1)).length = _
    by_cases c : M g = true
    · rw [if_pos c, pc_rk_t c, List.length_cons]; omega
    · have cf : M g = false := by
        cases z : M g with
        | false => rfl
        | true => exact absurd z c
      rw [if_neg c, pc_rk_f cf]
theorem pc_gl_sub (M : Nat → Bool) : ∀ (l : List Nat) (g x : Nat), x ∈ pc_gl M l g → x ∈ l := by
  intro l
  induction l with
  | nil => intro g x h; exact h
  | cons y r ih =>
    intro g x h
    change x ∈ (if M g = true then y :: pc_gl M r (g + 1) else pc_gl M r (g + 1)) at h
    by_cases c : M g = true
    · rw [if_pos c] at h
      rcases List.mem_cons.mp h with h | h
      · rw [h]; exact List.mem_cons_self ..
      · exact List.mem_cons_of_mem _ (ih _ _ h)
    · rw [if_neg c] at h
      exact List.mem_cons_of_mem _ (ih _ _ h)
theorem pc_gx (M : Nat → Bool) (x g : Nat) (hm : M g = true) : ∀ (l : List Nat) (i : Nat), ps_gx l x i = some g → ps_gx (pc_gl M l i) x (pc_rk M i) = some (pc_rk M g) := by
  intro l
  induction l with
  | nil => intro i h; cases h
  | cons y r ih =>
    intro i h
    change (if y = x then some i else ps_gx r x (i + 1)) = some g at h
    show ps_gx (if M i = true then y :: pc_gl M r (i + 1) else pc_gl M r (i + 1)) x (pc_rk M i) = _
    by_cases e : y = x
    · rw [if_pos e] at h
      cases h
      rw [if_pos hm]
      show (if y = x then _ else _) = _
      rw [if_pos e]
    · rw [if_neg e] at h
      by_cases c : M i = true
      · rw [if_pos c]
        show (if y = x then _ else ps_gx (pc_gl M r (i + 1)) x (pc_rk M i + 1)) = _
        rw [if_neg e, ← pc_rk_t c]
        exact ih (i + 1) h
      · have cf : M i = false := by
          cases z : M i with
          | false => rfl
          | true => exact absurd z c
        rw [if_neg c, ← pc_rk_f cf]
        exact ih (i + 1) h
/-- GLOBALS that are taken over, and the rest -/
def pc_okG (M CL SV LV : Nat → Bool) : ps_G → Nat → Prop
  | [], _ => True
  | (_, _, t) :: r, g => (CL g = true → M g = true) ∧ pc_ok M CL SV LV t (CL g) ∧ pc_okG M CL SV LV r (g + 1)
theorem pc_bf {b : Bool} (h : ¬ b = true) : b = false := by cases b <;> simp_all
theorem pc_GW {M CL SV LV : Nat → Bool} {B : Nat} (hB : B ≤ 6) : ∀ (gs : ps_G) (gl : List Nat) (k k' : pk_K) (n : Nat), gl.length + gs.length ≤ 6 → B + k'.1 ≤ 24 → pn_GW B gs gl k k' → pc_okG M CL SV LV gs gl.length → pn_GW (pc_rk M B) (pc_G M CL (pc_ρ M LV) (pc_rk SV) gs gl.length n) (pc_gl M gl 0) (pc_K M SV LV B k n) (pc_K M SV LV B k' (pc_N M CL gs gl.length n)) ∧ pc_gl M (gl ++ pk_gn gs) 0 = pc_gl M gl 0 ++ pk_gn (pc_G M CL (pc_ρ M LV) (pc_rk SV) gs gl.length n) ∧ pc_N M CL gs gl.length n + k.2.2.2 ≤ n + k'.2.2.2 := by
  intro gs
  induction gs with
  | nil =>
    intro gl k k' n _ _ h _
    cases h
    refine ⟨rfl, ?_, Nat.le_refl _⟩
    rw [show pk_gn [] = [] from rfl, List.append_nil, show pk_gn (pc_G M CL (pc_ρ M LV) (pc_rk SV) [] gl.length n) = [] from rfl, List.append_nil]
  | cons e r ih =>
    intro gl k k' n hl h24 h ok
    obtain ⟨x, v, t⟩ := e
    obtain ⟨h1, h2, h3, h4, h5, k1, h6, h7⟩ := h
    obtain ⟨o1, o2, o3⟩ := ok
    rw [List.length_cons] at hl
    have m := pn_GWge r _ _ _ h7
    have ms := pn_mono t h4 _ _ h6
    have la : (gl ++ [x]).length = gl.length + 1 := by rw [List.length_append]; rfl
    have app := pc_gl_app M x gl 0
    rw [Nat.zero_add] at app
    have len := pc_gl_len M gl 0
    rw [Nat.zero_add, show pc_rk M 0 = 0 from rfl, Nat.zero_add] at len
    have eG : pc_G M CL (pc_ρ M LV) (pc_rk SV) ((x, v, t) :: r) gl.length n = if M gl.length = true then (x, v, if CL gl.length = true then pc_t CL (pc_ρ M LV) (pc_rk SV) t n else pt_dead n) :: pc_G M CL (pc_ρ M LV) (pc_rk SV) r (gl.length + 1) (n + if CL gl.length = true then pc_sz CL t else 1) else pc_G M CL (pc_ρ M LV) (pc_rk SV) r (gl.length + 1) n := rfl
    have eN : pc_N M CL ((x, v, t) :: r) gl.length n = if M gl.length = true then pc_N M CL r (gl.length + 1) (n + if CL gl.length = true then pc_sz CL t else 1) else pc_N M CL r (gl.length + 1) n := rfl
    have en : gl ++ pk_gn ((x, v, t) :: r) = (gl ++ [x]) ++ pk_gn r := by rw [List.append_assoc]; rfl
    rw [eG, eN, en]
    have szp := pt_sz_pos t
    by_cases c : M gl.length = true
    · rw [if_pos c] at app
      rw [if_pos c, if_pos c]
      have nx : x ∉ pc_gl M gl 0 := fun q => h2 (pc_gl_sub M gl 0 x q)
      by_cases cc : CL gl.length = true
      · rw [if_pos cc, if_pos cc]
        rw [cc] at o2
        obtain ⟨i1, i2, i3⟩ := ih (gl ++ [x]) k1 k' (n + pc_sz CL t) (by omega) h24 h7 (by rw [la]; exact o3)
        rw [la, app] at i1 i2
        rw [la] at i3
        have wf := pc_wfs (M := M) (LV := LV) t h4 (gl ++ [x]) (pc_gl M gl 0 ++ [x]) _ _ _ n h6 o2 (fun y g hy hm => by
          have q := pc_gx M y g hm (gl ++ [x]) 0 hy
          rw [app] at q
          have gb : g < 24 := by
            have := (ps_gx_mem _ _ _ _ hy).2.1
            rw [la] at this
            omega
          unfold pc_ρ
          rw [if_pos gb]
          exact q) h5
        rw [List.map_cons, List.map_nil] at wf
        try dsimp only at wf
        have eρ : pc_ρ M LV gl.length = (pc_gl M gl 0).length := by
          unfold pc_ρ
          rw [if_pos (by omega), len]
        rw [eρ] at wf
        refine ⟨⟨h1, nx, h3, (pc_t_tw t h4 n).1, wf, _, pc_can t h4 _ _ n (by omega) h6 o2, i1⟩, ?_, ?_⟩
        · rw [i2, List.append_assoc]; rfl
        · have := pc_sz_le CL t h4
          omega
      · rw [if_neg cc, if_neg cc]
        rw [pc_bf cc] at o2
        obtain ⟨i1, i2, i3⟩ := ih (gl ++ [x]) k1 k' (n + 1) (by omega) h24 h7 (by rw [la]; exact o3)
        rw [la, app] at i1 i2
        rw [la] at i3
        obtain ⟨q1, q2, q3⟩ := pc_hide t h4 _ _ h6 o2
        have eK : pc_K M SV LV B k1 (n + 1) = ((pc_K M SV LV B k n).1, (pc_K M SV LV B k n).2.1, (pc_K M SV LV B k n).2.2.1, (pc_K M SV LV B k n).2.2.2 + 1) := by
          unfold pc_K
          rw [q1, q2, q3]
        refine ⟨⟨h1, nx, h3, trivial, trivial, _, ⟨rfl, eK⟩, i1⟩, ?_, by omega⟩
        rw [i2, List.append_assoc]; rfl
    · rw [if_neg c] at app
      rw [if_neg c, if_neg c]
      rw [List.append_nil] at app
      have cc : CL gl.length = false := pc_bf (fun z => c (o1 z))
      rw [cc] at o2
      obtain ⟨i1, i2, i3⟩ := ih (gl ++ [x]) k1 k' n (by omega) h24 h7 (by rw [la]; exact o3)
      rw [la, app] at i1 i2
      rw [la] at i3
      obtain ⟨q1, q2, q3⟩ := pc_hide t h4 _ _ h6 o2
      have eK : pc_K M SV LV B k1 n = pc_K M SV LV B k n := by
        unfold pc_K
        rw [q1, q2, q3]
      rw [eK] at i1
      exact ⟨i1, i2, by omega⟩
theorem pc_V {M CL SV LV : Nat → Bool} {gs : ps_G} {t : pt_T} {la li si nd : Nat} (hV : pn_V gs t la li si nd) (hG : pc_okG M CL SV LV gs 0) (hM : pc_ok M CL SV LV t true) : pn_V (pc_G M CL (pc_ρ M LV) (pc_rk SV) gs 0 0) (pc_t CL (pc_ρ M LV) (pc_rk SV) t (pc_N M CL gs 0 0)) (pc_rk M (gs.length + la) - pc_rk M gs.length) (pc_rk LV li) (pc_rk SV si) (pc_N M CL gs 0 0 + pc_sz CL t) ∧ (pc_G M CL (pc_ρ M LV) (pc_rk SV) gs 0 0).length = pc_rk M gs.length := by
  obtain ⟨v1, v2, v3, v4, v5, v6, v7, k1, v8, v9⟩ := hV
  have el : ([] : List Nat).length = 0 := rfl
  have m := pn_mono t v6 _ _ v9
  dsimp only at m
  obtain ⟨g1, g2, g3⟩ := pc_GW (M := M) (CL := CL) (SV := SV) (LV := LV) v1 gs [] _ _ 0 (by rw [el]; omega) (by omega) v8 (by rw [el]; exact hG)
  rw [el] at g1 g2 g3
  have k0 : pc_K M SV LV gs.length (0, 0, 0, 0) 0 = (0, 0, 0, 0) := by
    unfold pc_K
    rw [Nat.add_zero, Nat.sub_self]; rfl
  rw [k0] at g1
  have gl0 : pc_gl M [] 0 = [] := rfl
  rw [gl0] at g1 g2
  rw [List.nil_append, List.nil_append] at g2
  have len : (pc_G M CL (pc_ρ M LV) (pc_rk SV) gs 0 0).length = pc_rk M gs.length := by
    have a := pc_gl_len M (pk_gn gs) 0
    rw [g2, Nat.zero_add, show pc_rk M 0 = 0 from rfl, Nat.zero_add] at a
    unfold pk_gn at a
    rw [List.length_map, List.length_map] at a
    exact a
  have r1 := pc_rk_le M gs.length
  have r2 := pc_rk_le LV li
  have r3 := pc_rk_le SV si
  have r4 := pc_sz_le CL t v6
  have r5 : pc_rk M (gs.length + la) ≤ pc_rk M gs.length + la := by
    have key : ∀ d, pc_rk M (gs.length + d) ≤ pc_rk M gs.length + d := by
      intro d
      induction d with
      | zero => exact Nat.le_refl _
      | succ d ih =>
        show pc_rk M (gs.length + d) + (M (gs.length + d)).toNat ≤ _
        have : (M (gs.length + d)).toNat ≤ 1 := by cases M (gs.length + d) <;> decide
        omega
    exact key la
  dsimp only at g3
  refine ⟨⟨by rw [len]; omega, by omega, by omega, by omega, by omega, (pc_t_tw t v6 _).1, ?_, _, by rw [len]; exact g1, ?_⟩, len⟩
  · rw [← g2]
    have wf := pc_wfs (M := M) (LV := LV) t v6 (pk_gn gs) (pc_gl M (pk_gn gs) 0) [] _ _ (pc_N M CL gs 0 0) v9 hM (fun y g hy hm => by
      have q := pc_gx M y g hm (pk_gn gs) 0 hy
      have gb := (ps_gx_mem _ _ _ _ hy).2.1
      unfold pk_gn at gb
      rw [List.length_map] at gb
      unfold pc_ρ
      rw [if_pos (by omega)]
      exact q) v7
    exact wf
  · rw [len]
    have c := pc_can (M := M) (CL := CL) (SV := SV) (LV := LV) t v6 _ _ (pc_N M CL gs 0 0) (by dsimp only; omega) v9 hM
    exact c
