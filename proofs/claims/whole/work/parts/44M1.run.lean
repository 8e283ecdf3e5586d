/-! the class writes DATA -/
def pw_jn : Bool → List Nat → List Nat
  | _, [] => []
  | b, v :: r => (if b = true then pw_tx 4 else pw_tx 15) ++ (pw_nm v ++ pw_jn false r)
theorem pw_jn_c (b : Bool) (v : Nat) (r : List Nat) : pw_jn b (v :: r) = (if b = true then pw_tx 4 else pw_tx 15) ++ (pw_nm v ++ pw_jn false r) := by cases b <;> rfl
def pw_fd (yv : Nat → Nat) (f : Nat) (l : List Nat) : List Nat := pw_tx 13 ++ (pw_nu f ++ (pw_tx 14 ++ (pw_jn true (l.map yv) ++ pw_tx 12)))
theorem px_putData_l {o : Nat} {a2 : Int} {fl : List Nat} {xi yv : Nat → Nat} {w0 : fa_W} (hp : px_po o) (ho : 43 < o) (h13 : w0 (o + 13) 1 = ((74 : Nat) : Int)) (h74 : fl.length ≤ 74) (hx : ∀ v ∈ fl, xi v < 74 ∧ w0 (o + 14) (xi v) = (yv v : Int) ∧ pk_vw 4 (yv v)) : ∀ (d k F : Nat) (l : List Nat) (w : fa_W), k + d = fl.length → d < F → px_RL 3 l w → px_RL 42 (fl.map xi) w → (∀ i j, 44 ≤ i → w i j = w0 i j) → l.length + (pw_jn (decide (k = 0)) ((fl.drop k).map yv) ++ pw_tx 12).length ≤ 6990 → ∃ w', fm_Writer_putData_l28 o a2 F (k : Int) w = some w' ∧ px_RL 3 (l ++ (pw_jn (decide (k = 0)) ((fl.drop k).map yv) ++ pw_tx 12)) w' ∧ pw_fr w w' := by
  intro d
  induction d with
  | zero =>
    intro k F l w hk hF hR hS hf hl
    obtain ⟨F, rfl⟩ : ∃ n, F = n + 1 := ⟨F - 1, by omega⟩
    have e : fl.drop k = [] := List.drop_of_length_le (by omega)
    rw [e] at hl ⊢
    obtain ⟨w', p1, p2, p3⟩ := px_putText 12 hR (by rw [List.map_nil] at hl; simp only [pw_jn, List.nil_append] at hl; omega)
    refine ⟨w', ?_, p2, p3⟩
    unfold fm_Writer_putData_l28 fm_Row_size
    rw [hS.1, List.length_map, pb_wr (by omega), pb_wr (by omega), if_pos (by omega), p1]
    rfl
  | succ d ih =>
    intro k F l w hk hF hR hS hf hl
    obtain ⟨F, rfl⟩ : ∃ n, F = n + 1 := ⟨F - 1, by omega⟩
    have hkl : k < fl.length := by omega
    obtain ⟨x, hxx⟩ : ∃ x, fl[k]? = some x := ⟨_, List.getElem?_eq_getElem hkl⟩
    have e : fl.drop k = x :: fl.drop (k + 1) := by
      rw [List.drop_eq_getElem_cons hkl]
      congr 1
      have := List.getElem?_eq_getElem hkl
      rw [hxx] at this
      exact (Option.some.inj this).symm
    have xm : x ∈ fl := List.mem_of_getElem? hxx
    obtain ⟨x1, x2, x3⟩ := hx x xm
    rw [e] at hl ⊢
    rw [List.map_cons] at hl ⊢
    have r6 := px_po_r6 hp
    have key : ∀ (s : Fin 35), pw_jn (decide (k = 0)) (yv x :: (fl.drop (k + 1)).map yv) = pw_tx s ++ (pw_nm (yv x) ++ pw_jn false ((fl.drop (k + 1)).map yv)) → ∃ w', fm_Writer_putData_j51 o a2 (fun x3 w9 => fm_Writer_putData_l28 o a2 F x3 w9) (k : Int) s w = some w' ∧ px_RL 3 (l ++ (pw_jn (decide (k = 0)) (yv x :: (fl.drop (k + 1)).map yv) ++ pw_tx 12)) w' ∧ pw_fr w w' := by
      intro s es
      rw [es] at hl ⊢
      simp only [List.length_append] at hl
      obtain ⟨w1, p1, p2, p3⟩ := px_putText s hR (by omega)
      have S1 : px_RL 42 (fl.map xi) w1 := px_RL_of hS (fun a j q => p3 a j (by omega) (by omega))
      have f1 : ∀ i j, 44 ≤ i → w1 i j = w0 i j := fun i j q => (p3 i j (by omega) (by omega)).trans (hf i j q)
      have a1 : fr_at 42 (k : Int) w1 = ((xi x : Nat) : Int) := by
        rw [pb_at S1.1 (by rw [List.length_map]; exact hkl) (by rw [show fa_cp 42 = 74 by decide +kernel]; rw [List.length_map]; exact h74), show fa_rf 42 0 = 42 + 1 by decide +kernel]
        exact S1.2 k (xi x) (by rw [List.getElem?_map, hxx]; rfl)
      have a2' : fr_at (fa_rf o 6) ((xi x : Nat) : Int) w1 = (yv x : Int) := by
        rw [r6.1, pb_at (n := 74) (by rw [f1 _ _ (by omega)]; exact h13) x1 (by rw [r6.2.2]; omega), r6.2.1, f1 _ _ (by omega)]
        exact x2
      obtain ⟨w2, q1, q2, q3⟩ := px_putName x3 p2 (by rw [List.length_append]; omega)
      have S2 : px_RL 42 (fl.map xi) w2 := px_RL_of S1 (fun a j q => q3 a j (by omega) (by omega))
      have f2 : ∀ i j, 44 ≤ i → w2 i j = w0 i j := fun i j q => (q3 i j (by omega) (by omega)).trans (f1 i j q)
      have e1 : decide (k + 1 = 0) = false := by rw [decide_eq_false (by omega)]
      obtain ⟨w', t1, t2, t3⟩ := ih (k + 1) F _ w2 (by omega) (by omega) q2 S2 f2 (by rw [e1]; simp only [List.length_append] at hl ⊢; omega)
      rw [e1] at t2
      refine ⟨w', ?_, ?_, fun i j u v => (t3 i j u v).trans ((q3 i j u v).trans (p3 i j u v))⟩
      · unfold fm_Writer_putData_j51
        rw [p1, Option.bind_some, a1, a2', q1, Option.bind_some, pf_let_eq]
        exact t1
      · rw [show l ++ (pw_tx s ++ (pw_nm (yv x) ++ pw_jn false ((fl.drop (k + 1)).map yv)) ++ pw_tx 12) = l ++ pw_tx s ++ pw_nm (yv x) ++ (pw_jn false ((fl.drop (k + 1)).map yv) ++ pw_tx 12) by simp only [List.append_assoc]]
        exact t2
    unfold fm_Writer_putData_l28 fm_Row_size
    rw [hS.1, List.length_map, pb_wr (by omega), pb_wr (by omega), if_neg (by omega)]
    by_cases z : k = 0
    · rw [if_pos (by omega)]
      exact key 4 (by rw [pw_jn_c, if_pos (decide_eq_true z)])
    · rw [if_neg (by omega)]
      exact key 15 (by rw [pw_jn_c, if_neg (by rw [decide_eq_false z]; decide)])
/-! a FUNCTION as DATA -/
theorem px_putData {sc f : Nat} {gs : ps_G} {t : pt_T} {la li si nd mk : Nat} {ins os : List Nat} {fb : Nat → pt_T} {sb : pf_sT} {yv : Nat → Nat} {l : List Nat} {w : fa_W} (hsc : px_sK sc) (hV : pn_V gs t la li si nd) (hG : pf_G gs t la li si fb sb) (hX : px_SC sc gs t la li si nd ins os fb sb mk w) (hf : f < gs.length + la) (hy : ∀ v ∈ pd_fl f (fb f), pd_yq gs t v (yv v)) (hR : px_RL 3 l w) (hl : l.length + (pw_fd yv f (pd_fl f (fb f))).length ≤ 6990) : ∃ w', fm_Writer_putData (sc + 1) (f : Int) w = some w' ∧ px_RL 3 (l ++ pw_fd yv f (pd_fl f (fb f))) w' ∧ ∀ a j, a ≠ 3 → a ≠ 4 → a ≠ 42 → a ≠ 43 → w' a j = w a j := by
  have sc54 : 54 < sc := by rcases hsc with h | h <;> omega
  obtain ⟨hp, _⟩ := px_sK_all hsc
  have v1 := hV.1
  have v2 := hV.2.1
  unfold pw_fd at hl ⊢
  simp only [List.length_append] at hl
  obtain ⟨w1, p1, p2, p3⟩ := px_putText 13 hR (by omega)
  obtain ⟨w2, q1, q2, q3⟩ := px_putNumber (v := f) (by omega) p2 (by rw [List.length_append]; omega)
  obtain ⟨w3, r1, r2, r3⟩ := px_putText 14 q2 (by rw [List.length_append, List.length_append]; omega)
  have f3 : ∀ i j, i ≠ 3 → i ≠ 4 → w3 i j = w i j := fun i j u v => (r3 i j u v).trans ((q3 i j u v).trans (p3 i j u v))
  have X3 := px_SC_ob (w' := w3) hV (fun i j u v => f3 i j (by omega) (by omega)) hX
  obtain ⟨z, tb, cal, rg, _, _, _, _, T3, _⟩ := X3.2.2.1
  obtain ⟨w4, s1, s2, s3, s4⟩ := px_fields (r := 42) hp (by decide +kernel) (by decide +kernel) (by omega) hV hG X3.1 T3 hf
  have hins := X3.1.2.2.2.2.2.2.2
  have i74 : ∀ v, px_xi ins v < 74 := fun v => by
    unfold px_xi
    by_cases q : v < 24
    · rw [if_pos q]; omega
    · rw [if_neg q, List.getD_eq_getElem?_getD]
      cases q2 : ins[v - 24]? with
      | none => exact (by omega : (0 : Nat) < 74)
      | some a => exact (hins.1 a (List.mem_of_getElem? q2)).2
  have hl74 : (pd_fl f (fb f)).length ≤ 74 := by
    have := pb_nodup_le (24 + li) _ (pd_fl_nodup f (fb f)) s4
    have := pn_nv hins.2.1 hins.1
    have := hins.2.2
    omega
  have R4 : px_RL 3 (l ++ pw_tx 13 ++ pw_nu f ++ pw_tx 14) w4 := px_RL_of r2 (fun a j u => s2 a j (by omega) (by omega))
  have e13 : w4 (sc + 1 + 13) 1 = ((74 : Nat) : Int) := by rw [s2 _ _ (by omega) (by omega)]; exact X3.1.1.2.2.2.2.2.2.1
  obtain ⟨w', t1, t2, t3⟩ := px_putData_l (o := sc + 1) (a2 := (f : Int)) (fl := pd_fl f (fb f)) (xi := px_xi ins) (yv := yv) (w0 := w4) hp (by omega) e13 hl74 (fun v hv => ⟨i74 v, by
    have := px_yq hV hG X3.1 (hy v hv)
    refine ⟨?_, this.2.1⟩
    rw [s2 _ _ (by omega) (by omega)]
    exact this.1⟩) (pd_fl f (fb f)).length 0 fa_FU _ w4 (by omega) (by unfold fa_FU; omega) R4 s3 (fun _ _ _ => rfl) (by
      rw [show decide ((0 : Nat) = 0) = true from rfl, List.drop_zero]
      simp only [List.length_append]
      omega)
  rw [show decide ((0 : Nat) = 0) = true from rfl, List.drop_zero] at t2
  refine ⟨w', ?_, ?_, fun i j u v u2 v2 => (t3 i j u v).trans ((s2 i j u2 v2).trans (f3 i j u v))⟩
  · unfold fm_Writer_putData
    rw [p1, Option.bind_some, q1, Option.bind_some, r1, Option.bind_some, s1, Option.bind_some]
    exact t1
  · rw [show l ++ (pw_tx 13 ++ (pw_nu f ++ (pw_tx 14 ++ (pw_jn true ((pd_fl f (fb f)).map yv) ++ pw_tx 12)))) = l ++ pw_tx 13 ++ pw_nu f ++ pw_tx 14 ++ (pw_jn true ((pd_fl f (fb f)).map yv) ++ pw_tx 12) by simp only [List.append_assoc]]
    exact t2
/-- the least of a set -/
def pw_lo (m : Nat) : Nat → Nat → Nat
  | 0, k => k
  | d + 1, k => if m.testBit k = true then k else pw_lo m d (k + 1)
theorem pw_lo_eq {m q : Nat} (hb : m.testBit q = true) (hn : ∀ i, i < q → m.testBit i = false) : ∀ (d k : Nat), k ≤ q → q < k + d → pw_lo m d k = q := by
  intro d
  induction d with
  | zero => intro k h1 h2; omega
  | succ d ih =>
    intro k h1 h2
    unfold pw_lo
    by_cases z : k = q
    · rw [if_pos (by rw [z]; exact hb)]; exact z
    · rw [if_neg (by rw [hn k (by omega)]; decide)]
      exact ih (k + 1) (by omega) (by omega)
/-- what stands ahead of a SITE in the form -/
def pw_sa (l : List Nat) (a : Nat) : List Nat := if a = 0 then pw_tx 21 else pw_tx 7 ++ pw_nu (pf_fi (pw_lo a 24 0) l 0).toNat
theorem px_GX_SC {sc sp : Nat} {gs : ps_G} {t : pt_T} {la li si nd mk : Nat} {ins os : List Nat} {fb : Nat → pt_T} {sb : pf_sT} {w : fa_W} (hsc : px_sK sc) (hV : pn_V gs t la li si nd) (hX : px_SC sc gs t la li si nd ins os fb sb mk w) (hsp : sp < 3) : px_GX (sc + 56) (gs.length + la) sp (pg_g gs t (pf_A fb t sb (gs.length + la)) si (gs.length + la) mk sp) w := by
  obtain ⟨_, _, _, hGo, _⟩ := px_sK_all hsc
  have v1 := hV.1
  have v2 := hV.2.1
  exact ⟨hGo, by omega, hsp, pg_l_len _ _ _, fun k hk => pg_l_lt (pg_g_E gs t _ si _ mk sp) hk, hX.2.2.2.2.1.1, hX.2.2.2.2.1.2, hX.2.2.2.2.2 sp hsp⟩
theorem px_putSite0 {sc s i sp : Nat} {gs : ps_G} {t : pt_T} {la li si nd mk : Nat} {ins os : List Nat} {fb : Nat → pt_T} {sb : pf_sT} {l : List Nat} {w wm : fa_W} (hsc : px_sK sc) (hV : pn_V gs t la li si nd) (hG : pf_G gs t la li si fb sb) (hW : pm_Pw gs t la li si nd wm) (hX : px_SC sc gs t la li si nd ins os fb sb mk w) (hs : s < si) (hi : w (sc + 1 + 12) s = (i : Int)) (hsp : sp < 3) (h37 : w 37 4 = (sp : Int)) (hR : px_RL 3 l w) (hl : l.length + (pw_sa (pg_g gs t (pf_A fb t sb (gs.length + la)) si (gs.length + la) mk sp) (pf_A fb t sb (gs.length + la) s) ++ pw_tx 14).length ≤ 6990) : ∃ w', fm_Writer_putSite sc (i : Int) 0 w = some w' ∧ px_RL 3 (l ++ (pw_sa (pg_g gs t (pf_A fb t sb (gs.length + la)) si (gs.length + la) mk sp) (pf_A fb t sb (gs.length + la) s) ++ pw_tx 14)) w' ∧ ∀ a j, a ≠ 3 → a ≠ 4 → a ≠ 42 → a ≠ 43 → w' a j = w a j := by
  have sc54 : 54 < sc := by rcases hsc with h | h <;> omega
  obtain ⟨hp, _, hFo, _, _, e0, _, e2, e3⟩ := px_sK_all hsc
  have v1 := hV.1
  have v2 := hV.2.1
  have v4 := hV.2.2.2.1
  have hSV := px_FW_SV hFo hp hV hG hX.1 hX.2.2.1
  obtain ⟨i', s1, s2, _⟩ := hSV.2 s hs
  have r5 := px_po_r5 hp
  have ii : i' = i := by
    rw [r5.1, pb_at (n := 100) hX.1.1.2.2.2.2.2.1 (by omega) (by rw [r5.2.2]; omega), r5.2.1, show sc + 1 + 11 + 1 = sc + 1 + 12 by omega, hi] at s1
    omega
  rw [ii] at s2
  have hA : fm_Flow_applied (fa_rf sc 2) (fa_rf sc 0) (i : Int) w = ((pf_A fb t sb (gs.length + la) s : Nat) : Int) := by
    rw [e2, e0]
    exact s2
  obtain ⟨A, hAe⟩ : ∃ A, A = pf_A fb t sb (gs.length + la) s := ⟨_, rfl⟩
  have A24 : A < 2 ^ 24 := by
    rw [hAe]
    exact Nat.lt_of_lt_of_le (pf_num_lt _ _) (Nat.pow_le_pow_right (by omega) (by omega))
  have site := fun f g hf hg => pg_site (hb := fun _ => 0) (ho := fun _ => 0) (mk := mk) (sp := sp) (f := f) (g := g) hV hG hW hX.2.2.2.1.1 hX.2.2.2.1.2 hs hsp hf hg
  rw [← hAe] at hA hl site ⊢
  obtain ⟨gl, hgl⟩ : ∃ gl, gl = pg_g gs t (pf_A fb t sb (gs.length + la)) si (gs.length + la) mk sp := ⟨_, rfl⟩
  have GX := px_GX_SC hsc hV hX hsp
  rw [← hgl] at hl site GX ⊢
  have j74 : ∀ w1 : fa_W, w1 37 4 = (sp : Int) → ∀ l1, px_RL 3 l1 w1 → l1.length + (pw_tx 14).length ≤ 6990 → ∃ w', fm_Writer_putSite_j67 sc (i : Int) 0 w1 = some w' ∧ px_RL 3 (l1 ++ pw_tx 14) w' ∧ pw_fr w1 w' := fun w1 h1 l1 R1 L1 => by
    obtain ⟨w', p1, p2, p3⟩ := px_putText 14 R1 (by omega)
    refine ⟨w', ?_, p2, p3⟩
    unfold fm_Writer_putSite_j67 fm_Writer_putSite_j106
    rw [if_neg (by decide), if_pos (by decide), p1]
    rfl
  have h371 : ¬ fa_wr (w 37 4) = -1 := by rw [h37, pb_wr (by omega)]; omega
  unfold fm_Writer_putSite
  rw [if_pos (by decide), if_neg h371, pf_let_eq, hA]
  by_cases z : A = 0
  · rw [if_pos (by rw [z]; decide)]
    unfold pw_sa at hl ⊢
    rw [if_pos z] at hl ⊢
    rw [List.length_append] at hl
    obtain ⟨w1, p1, p2, p3⟩ := px_putText 21 hR (by omega)
    obtain ⟨w2, q1, q2, q3⟩ := j74 w1 (by rw [p3 _ _ (by omega) (by omega)]; exact h37) _ p2 (by rw [List.length_append]; omega)
    refine ⟨w2, ?_, by rw [← List.append_assoc]; exact q2, fun a j u v _ _ => (q3 a j u v).trans (p3 a j u v)⟩
    unfold fm_Writer_putSite_j39
    rw [p1, Option.bind_some, if_pos (by rw [z]; decide)]
    exact q1
  · have wA : fa_wr (A : Int) = A := pb_wr (by omega)
    rw [if_neg (by rw [wA]; omega)]
    unfold pw_sa at hl ⊢
    rw [if_neg z] at hl ⊢
    simp only [List.length_append] at hl
    obtain ⟨w1, p1, p2, p3⟩ := px_putText 7 hR (by omega)
    obtain ⟨k, k1, k2, k3, k4⟩ := pf_lowest A24 (by omega) w1
    have elo : pw_lo A 24 0 = k := pw_lo_eq k2 k3 24 0 (by omega) (by omega)
    obtain ⟨_, g, g1, g2⟩ := site k k k2 k2
    rw [elo, g2] at hl ⊢
    rw [show ((g : Int)).toNat = g from rfl] at hl ⊢
    have GX1 : px_GX (sc + 56) (gs.length + la) sp gl w1 := by
      obtain ⟨y1, y2, y3, y4, y5, y6, y7, y8⟩ := GX
      refine ⟨y1, y2, y3, y4, y5, ?_, ?_, ?_, fun i hi => ?_⟩
      · rw [p3 _ _ (by omega) (by omega)]; exact y6
      · rw [p3 _ _ (by omega) (by omega)]; exact y7
      · rw [p3 _ _ (by omega) (by omega)]; exact y8.1
      · rw [p3 _ _ (by omega) (by omega)]; exact y8.2 i hi
    have gG : fm_Groups_groupOf (fa_rf sc 3) (w1 37 4) (fm_Face_lowest (A : Int) w1) w1 = some (g : Int) := by
      rw [e3, p3 _ _ (by omega) (by omega), h37, k4, px_groupOf GX1 k1, g2]
    have glen := GX.2.2.2.1
    obtain ⟨w2, r1, r2, r3⟩ := px_putNumber (v := g) (by omega) p2 (by rw [List.length_append]; omega)
    obtain ⟨w3, q1, q2, q3⟩ := j74 w2 (by rw [r3 _ _ (by omega) (by omega), p3 _ _ (by omega) (by omega)]; exact h37) _ r2 (by simp only [List.length_append]; omega)
    refine ⟨w3, ?_, ?_, fun a j u v _ _ => (q3 a j u v).trans ((r3 a j u v).trans (p3 a j u v))⟩
    · unfold fm_Writer_putSite_j39
      rw [p1, Option.bind_some, if_neg (by rw [wA]; omega), gG, Option.bind_some, r1, Option.bind_some]
      exact q1
    · rw [show l ++ (pw_tx 7 ++ pw_nu g ++ pw_tx 14) = l ++ pw_tx 7 ++ pw_nu g ++ pw_tx 14 by simp only [List.append_assoc]]
      exact q2
