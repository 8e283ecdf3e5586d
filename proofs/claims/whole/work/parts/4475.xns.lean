def px_stuck (T : Nat) (up : Nat → Nat) (ar : pu_A) (R : Nat → Nat) (sh : Nat → Option Nat) (j : Nat) : Prop := ∀ k, j ≤ k → k < T → up k = k → sh k = none → ∃ a b, ar k = some (a, b) ∧ (sh (R a) = none ∨ sh (R b) = none)
def px_sf (o : Nat) (w w' : fa_W) : Prop := ∀ i j, i ≠ o + 7 → i ≠ o + 8 → w' i j = w i j
theorem px_sf_tr {o : Nat} {w w1 w2 : fa_W} (h1 : px_sf o w w1) (h2 : px_sf o w1 w2) : px_sf o w w2 := fun i j a b => (h2 i j a b).trans (h1 i j a b)
theorem px_U_sf {o T : Nat} {up : Nat → Nat} {ar : pu_A} {cl : Bool} {w w' : fa_W} (h : px_U o T up ar cl w) (f : px_sf o w w') : px_U o T up ar cl w' := px_U_of h (fun i j q => f i j (by omega) (by omega))
theorem px_ns_in {o T : Nat} (ho : px_to o) {up : Nat → Nat} {ar : pu_A} {cl : Bool} {R : Nat → Nat} {l : List Nat} {N : Nat} (hI : pu_I T up ar R l N) (k19 : Bool → Int → fa_W → Option (Bool × fa_W)) (x2 : Int) : ∀ (d j F : Nat) (x1 : Bool) (sh : Nat → Option Nat) (ua : List Nat) (w : fa_W), j + d = T → d < F → px_U o T up ar cl w → px_SH o T sh w → px_hI T up ar R sh → ua.Nodup → (∀ k, k ∈ ua ↔ (k < T ∧ up k = k ∧ sh k = none)) → ∃ (w' : fa_W) (sh' : Nat → Option Nat) (ua' : List Nat) (x1' : Bool), fm_Typing_nameShapes_l33 o k19 F x1 x2 (j : Int) w = k19 x1' (x2 + 1) w' ∧ px_SH o T sh' w' ∧ px_hI T up ar R sh' ∧ ua'.Nodup ∧ (∀ k, k ∈ ua' ↔ (k < T ∧ up k = k ∧ sh' k = none)) ∧ ua'.length ≤ ua.length ∧ (x1' = true → x1 = true ∨ ua'.length < ua.length) ∧ (x1' = false → x1 = false ∧ sh' = sh ∧ px_stuck T up ar R sh j) ∧ px_sf o w w' := by
  intro d
  induction d with
  | zero =>
    intro j F x1 sh ua w hj hF hU hS hh hn hua
    obtain ⟨F, rfl⟩ : ∃ z, F = z + 1 := ⟨F - 1, by omega⟩
    have hT : T ≤ 400 := hU.2.2.2.2.2.2.2
    refine ⟨w, sh, ua, x1, ?_, hS, hh, hn, hua, Nat.le_refl _, fun e => Or.inl e, fun e => ⟨e, rfl, fun k a b => by omega⟩, fun _ _ _ _ => rfl⟩
    unfold fm_Typing_nameShapes_l33 fm_Row_size
    rw [ho.1.1, hU.1, pb_wr (by omega), pb_wr (by omega), if_pos (by omega)]
    rfl
  | succ d ih =>
    intro j F x1 sh ua w hj hF hU hS hh hn hua
    obtain ⟨F, rfl⟩ : ∃ z, F = z + 1 := ⟨F - 1, by omega⟩
    have hT : T ≤ 400 := hU.2.2.2.2.2.2.2
    have hjT : j < T := by omega
    have hc : ∀ k c, sh k = some c → c < T := fun k c e => (hh.1 k c e).2.2.1
    obtain ⟨dd, hdd⟩ := pu_walk hI
    have uj := (hdd j hjT).2.2.2.1
    have red : fm_Typing_nameShapes_l33 o k19 (F + 1) x1 x2 (j : Int) w = if up j = j then (if sh j = none then (fm_Typing_shapeOf o (j : Int) w).bind fun v24 => fa_let (fr_set (fa_rf o 3) (j : Int) v24 w) fun w26 => if x1 = true then (fa_let ((j : Int) + 1) fun x3_28 => fm_Typing_nameShapes_l33 o k19 F true x2 x3_28 w26) else (if fa_wr (fr_at (fa_rf o 3) (j : Int) w26) = (-1) then (fa_let ((j : Int) + 1) fun x3_31 => fm_Typing_nameShapes_l33 o k19 F false x2 x3_31 w26) else (fa_let ((j : Int) + 1) fun x3_32 => fm_Typing_nameShapes_l33 o k19 F true x2 x3_32 w26)) else fm_Typing_nameShapes_l33 o k19 F x1 x2 ((j : Int) + 1) w) else fm_Typing_nameShapes_l33 o k19 F x1 x2 ((j : Int) + 1) w := by
      show (if fa_wr (fm_Row_size (fa_rf o 0) w) ≤ fa_wr (j : Int) then _ else _) = _
      unfold fm_Row_size
      rw [ho.1.1, hU.1, pb_wr (n := T) (by omega), pb_wr (n := j) (by omega), if_neg (by omega), pb_at hU.1 hjT (by rw [ho.2.2.1]; exact hT), ho.2.1.1, hU.2.2.2.1 j hjT, pb_wr (n := up j) (by omega)]
      by_cases e : up j = j
      · rw [if_pos (by omega), if_pos e, show fa_rf o 3 = o + 7 from ho.1.2.2.2.1, px_sh_at ho hS hT hjT, px_shr_wr hT hc]
        by_cases e2 : sh j = none
        · rw [if_pos (px_shr_m.mpr e2), if_pos e2]
        · rw [if_neg (fun q => e2 (px_shr_m.mp q)), if_neg e2]
          rfl
      · rw [if_neg (by omega), if_neg e]
        rfl
    rw [red]
    have next : ∀ (x1n : Bool) (shn : Nat → Option Nat) (uan : List Nat) (wn : fa_W), px_SH o T shn wn → px_hI T up ar R shn → uan.Nodup → (∀ k, k ∈ uan ↔ (k < T ∧ up k = k ∧ shn k = none)) → uan.length ≤ ua.length → (x1n = true → x1 = true ∨ uan.length < ua.length) → (x1n = false → x1 = false ∧ shn = sh ∧ (up j = j → sh j = none → ∃ a b, ar j = some (a, b) ∧ (sh (R a) = none ∨ sh (R b) = none))) → px_sf o w wn → ∃ (w' : fa_W) (sh' : Nat → Option Nat) (ua' : List Nat) (x1' : Bool), fm_Typing_nameShapes_l33 o k19 F x1n x2 ((j : Int) + 1) wn = k19 x1' (x2 + 1) w' ∧ px_SH o T sh' w' ∧ px_hI T up ar R sh' ∧ ua'.Nodup ∧ (∀ k, k ∈ ua' ↔ (k < T ∧ up k = k ∧ sh' k = none)) ∧ ua'.length ≤ ua.length ∧ (x1' = true → x1 = true ∨ ua'.length < ua.length) ∧ (x1' = false → x1 = false ∧ sh' = sh ∧ px_stuck T up ar R sh j) ∧ px_sf o w w' := by
      intro x1n shn uan wn h1 h2 h3 h4 h5 h6 h7 h8
      obtain ⟨w', sh', ua', x1', y1, y2, y3, y4, y5, y6, y7, y8, y9⟩ := ih (j + 1) F x1n shn uan wn (by omega) (by omega) (px_U_sf hU h8) h1 h2 h3 h4
      refine ⟨w', sh', ua', x1', y1, y2, y3, y4, y5, by omega, fun e => ?_, fun e => ?_, px_sf_tr h8 y9⟩
      · rcases y7 e with z | z
        · rcases h6 z with z | z
          · exact Or.inl z
          · exact Or.inr (by omega)
        · exact Or.inr (by omega)
      · obtain ⟨z1, z2, z3⟩ := y8 e
        obtain ⟨z4, z5, z6⟩ := h7 z1
        rw [z5] at z2 z3
        refine ⟨z4, z2, fun k a b c d => ?_⟩
        by_cases q : k = j
        · rw [q] at c d ⊢; exact z6 c d
        · exact z3 k (by omega) b c d
    by_cases e1 : up j = j
    · rw [if_pos e1]
      by_cases e2 : sh j = none
      · rw [if_pos e2]
        obtain ⟨v, v1, v2⟩ := px_shapeOf ho hI hU hS hh hjT e1 e2
        rw [v1]
        dsimp only [Option.bind_some, fa_let]
        rw [ho.1.2.2.2.1]
        have st := px_set1 (r := o + 7) (v := px_shr v) ho.2.1.2.2.2.1 hS.1 hjT (by rw [ho.2.2.2.2.2.1]; exact hT)
        have sfn : px_sf o w (fr_set (o + 7) (j : Int) (px_shr v) w) := fun i k a b => st.2 i k (by omega)
        have SHn : px_SH o T (pu_set sh j v) (fr_set (o + 7) (j : Int) (px_shr v) w) := by
          refine ⟨by rw [st.2 _ _ (by omega)]; exact hS.1, fun k hk => ?_⟩
          by_cases z : k = j
          · rw [z, pu_set_eq]; exact st.1
          · rw [pu_set_ne _ _ z, st.2 _ _ (by omega)]; exact hS.2 k hk
        have hjua : j ∈ ua := (hua j).mpr ⟨hjT, e1, e2⟩
        have rd : fr_at (o + 7) (j : Int) (fr_set (o + 7) (j : Int) (px_shr v) w) = px_shr v := by rw [px_sh_at ho SHn hT hjT, pu_set_eq]
        generalize fr_set (o + 7) (j : Int) (px_shr v) w = wn at sfn SHn rd ⊢
        rcases v2 with ⟨rfl, hst⟩ | ⟨c, rfl, hhc⟩
        · have es : pu_set sh j none = sh := by
            funext k
            by_cases z : k = j
            · rw [z, pu_set_eq, e2]
            · exact pu_set_ne _ _ z
          rw [es] at SHn
          by_cases x : x1 = true
          · rw [if_pos x]
            exact next true sh ua wn SHn hh hn hua (Nat.le_refl _) (fun _ => Or.inl x) (fun z => by cases z) sfn
          · rw [if_neg x, rd, show px_shr none = -1 from rfl, pb_wr1, if_pos rfl]
            have xf : x1 = false := by cases x1; rfl; exact absurd rfl x
            exact next false sh ua wn SHn hh hn hua (Nat.le_refl _) (fun z => by cases z) (fun _ => ⟨xf, rfl, fun _ _ => hst⟩) sfn
        · have hln : (ua.erase j).length < ua.length := by
            have := List.length_pos_of_mem hjua
            rw [List.length_erase_of_mem hjua]
            omega
          have hual : ∀ k, k ∈ ua.erase j ↔ (k < T ∧ up k = k ∧ pu_set sh j (some c) k = none) := fun k => by
            rw [hn.mem_erase_iff, hua]
            by_cases z : k = j
            · rw [z, pu_set_eq]; exact ⟨fun q => absurd rfl q.1, fun q => (nomatch q.2.2)⟩
            · rw [pu_set_ne _ _ z]; exact ⟨fun q => q.2, fun q => ⟨z, q⟩⟩
          have fin := next true (pu_set sh j (some c)) (ua.erase j) wn SHn hhc (hn.erase j) hual (Nat.le_of_lt hln) (fun _ => Or.inr hln) (fun z => by cases z) sfn
          by_cases x : x1 = true
          · rw [if_pos x]; exact fin
          · have c2 := (hhc.1 j c (pu_set_eq _ _ _)).2.2.1
            rw [if_neg x, rd, show px_shr (some c) = (c : Int) from rfl, pb_wr (by omega), if_neg (by omega)]
            exact fin
      · rw [if_neg e2]
        exact next x1 sh ua w hS hh hn hua (Nat.le_refl _) Or.inl (fun e => ⟨e, rfl, fun _ q => absurd q e2⟩) (fun _ _ _ _ => rfl)
    · rw [if_neg e1]
      exact next x1 sh ua w hS hh hn hua (Nat.le_refl _) Or.inl (fun e => ⟨e, rfl, fun q _ => absurd q e1⟩) (fun _ _ _ _ => rfl)
theorem px_ns_out {o T : Nat} (ho : px_to o) {up : Nat → Nat} {ar : pu_A} {cl : Bool} {R : Nat → Nat} {l : List Nat} {N : Nat} (hI : pu_I T up ar R l N) : ∀ (m F x2 : Nat) (x1 : Bool) (sh : Nat → Option Nat) (ua : List Nat) (w : fa_W), ua.length ≤ m → m + 2 < F → x2 + m + 2 < 1000000 → px_U o T up ar cl w → px_SH o T sh w → px_hI T up ar R sh → ua.Nodup → (∀ k, k ∈ ua ↔ (k < T ∧ up k = k ∧ sh k = none)) → (x1 = false → px_stuck T up ar R sh 0) → ∃ w' sh', fm_Typing_nameShapes_l19 o F x1 (x2 : Int) w = fm_Typing_nameShapes_l117 o fa_FU 0 w' ∧ px_SH o T sh' w' ∧ px_hI T up ar R sh' ∧ px_stuck T up ar R sh' 0 ∧ px_sf o w w' := by
  intro m
  induction m with
  | zero =>
    intro F x2 x1 sh ua w hm hF hx hU hS hh hn hua hst
    obtain ⟨F, rfl⟩ : ∃ z, F = z + 1 + 1 := ⟨F - 2, by omega⟩
    have e : ua = [] := List.eq_nil_of_length_eq_zero (by omega)
    have st : px_stuck T up ar R sh 0 := fun k _ b c d => by
      have := (hua k).mpr ⟨b, c, d⟩
      rw [e] at this
      cases this
    unfold fm_Typing_nameShapes_l19
    rw [pb_wr (by omega), if_neg (by omega)]
    by_cases x : x1 = true
    · rw [if_pos x]
      obtain ⟨FU, hFU⟩ : ∃ F, F = fa_FU := ⟨_, rfl⟩
      have hF2 : 1000 < FU := by rw [hFU]; unfold fa_FU; omega
      have hT : T ≤ 400 := hU.2.2.2.2.2.2.2
      rw [← hFU]
      obtain ⟨w', sh', ua', x1', y1, y2, y3, y4, y5, y6, y7, y8, y9⟩ := px_ns_in ho hI (fun x1 x2 w9 => fm_Typing_nameShapes_l19 o (F + 1) x1 x2 w9) (x2 : Int) T 0 FU false sh ua w (by omega) (by omega) hU hS hh hn hua
      rw [show ((0 : Nat) : Int) = 0 from rfl] at y1
      rw [y1]
      have xf : x1' = false := by
        cases x1' with
        | false => rfl
        | true => rcases y7 rfl with z | z; cases z; omega
      obtain ⟨_, z2, z3⟩ := y8 xf
      rw [xf]
      unfold fm_Typing_nameShapes_l19
      rw [show (x2 : Int) + 1 = ((x2 + 1 : Nat) : Int) from rfl, pb_wr (by omega), if_neg (by omega), if_neg (by decide), ← hFU]
      exact ⟨w', sh', rfl, y2, y3, by rw [z2]; exact z3, y9⟩
    · rw [if_neg x]
      exact ⟨w, sh, rfl, hS, hh, st, fun _ _ _ _ => rfl⟩
  | succ m ih =>
    intro F x2 x1 sh ua w hm hF hx hU hS hh hn hua hst
    obtain ⟨F, rfl⟩ : ∃ z, F = z + 1 := ⟨F - 1, by omega⟩
    unfold fm_Typing_nameShapes_l19
    rw [pb_wr (by omega), if_neg (by omega)]
    by_cases x : x1 = true
    · rw [if_pos x]
      obtain ⟨FU, hFU⟩ : ∃ F, F = fa_FU := ⟨_, rfl⟩
      have hF2 : 1000 < FU := by rw [hFU]; unfold fa_FU; omega
      have hT : T ≤ 400 := hU.2.2.2.2.2.2.2
      rw [← hFU]
      obtain ⟨w', sh', ua', x1', y1, y2, y3, y4, y5, y6, y7, y8, y9⟩ := px_ns_in ho hI (fun x1 x2 w9 => fm_Typing_nameShapes_l19 o F x1 x2 w9) (x2 : Int) T 0 FU false sh ua w (by omega) (by omega) hU hS hh hn hua
      rw [show ((0 : Nat) : Int) = 0 from rfl] at y1
      rw [y1]
      cases x1' with
      | false =>
        obtain ⟨_, z2, z3⟩ := y8 rfl
        obtain ⟨F, rfl⟩ : ∃ z, F = z + 1 := ⟨F - 1, by omega⟩
        unfold fm_Typing_nameShapes_l19
        rw [show (x2 : Int) + 1 = ((x2 + 1 : Nat) : Int) from rfl, pb_wr (by omega), if_neg (by omega), if_neg (by decide), ← hFU]
        exact ⟨w', sh', rfl, y2, y3, by rw [z2]; exact z3, y9⟩
      | true =>
        have lt : ua'.length < ua.length := by rcases y7 rfl with z | z; cases z; exact z
        obtain ⟨w'', sh'', u1, u2, u3, u4, u5⟩ := ih F (x2 + 1) true sh' ua' w' (by omega) (by omega) (by omega) (px_U_sf hU y9) y2 y3 y4 y5 (fun z => by cases z)
        rw [hFU]
        exact ⟨w'', sh'', u1, u2, u3, u4, px_sf_tr y9 u5⟩
    · rw [if_neg x]
      have xf : x1 = false := by cases x1; rfl; exact absurd rfl x
      exact ⟨w, sh, rfl, hS, hh, hst xf, fun _ _ _ _ => rfl⟩
theorem px_ns_all {o T : Nat} (ho : px_to o) {up : Nat → Nat} {ar : pu_A} {cl : Bool} {R : Nat → Nat} {l : List Nat} {N : Nat} (hI : pu_I T up ar R l N) {w : fa_W} (hU : px_U o T up ar cl w) {sh : Nat → Option Nat} (hS : px_SH o T sh w) (hc : ∀ k c, sh k = some c → c < T) : ∀ (d j F : Nat), j + d = T → d < F → ∃ b, fm_Typing_nameShapes_l117 o F (j : Int) w = some (b, w) ∧ (b = true → ∀ k, j ≤ k → k < T → up k = k → sh k ≠ none) ∧ (b = false → ∃ k, k < T ∧ up k = k ∧ sh k = none) := by
  have hT : T ≤ 400 := hU.2.2.2.2.2.2.2
  intro d
  induction d with
  | zero =>
    intro j F hj hF
    obtain ⟨F, rfl⟩ : ∃ z, F = z + 1 := ⟨F - 1, by omega⟩
    unfold fm_Typing_nameShapes_l117 fm_Row_size
    rw [ho.1.1, hU.1, pb_wr (by omega), pb_wr (by omega), if_pos (by omega)]
    exact ⟨true, rfl, fun _ k a b => by omega, fun e => by cases e⟩
  | succ d ih =>
    intro j F hj hF
    obtain ⟨F, rfl⟩ : ∃ z, F = z + 1 := ⟨F - 1, by omega⟩
    have hjT : j < T := by omega
    obtain ⟨dd, hdd⟩ := pu_walk hI
    have uj := (hdd j hjT).2.2.2.1
    obtain ⟨b, b1, b2, b3⟩ := ih (j + 1) F (by omega) (by omega)
    unfold fm_Typing_nameShapes_l117 fm_Row_size
    rw [ho.1.1, hU.1, pb_wr (n := T) (by omega), pb_wr (n := j) (by omega), if_neg (by omega), pb_at hU.1 hjT (by rw [ho.2.2.1]; exact hT), ho.2.1.1, hU.2.2.2.1 j hjT, pb_wr (n := up j) (by omega)]
    by_cases e : up j = j
    · rw [if_pos (by omega), show fa_rf o 3 = o + 7 from ho.1.2.2.2.1, px_sh_at ho hS hT hjT, px_shr_wr hT hc]
      by_cases e2 : sh j = none
      · rw [if_pos (px_shr_m.mpr e2)]
        exact ⟨false, rfl, (fun z => by cases z), fun _ => ⟨j, hjT, e, e2⟩⟩
      · rw [if_neg (fun q => e2 (px_shr_m.mp q))]
        exact ⟨b, b1, fun z k a c d => by
          by_cases q : k = j
          · rw [q]; exact e2
          · exact b2 z k (by omega) c d, b3⟩
    · rw [if_neg (by omega)]
      exact ⟨b, b1, fun z k a c d => by
        by_cases q : k = j
        · rw [q] at d; exact absurd d e
        · exact b2 z k (by omega) c d, b3⟩
theorem px_nameShapes {o T : Nat} (ho : px_to o) {up : Nat → Nat} {ar : pu_A} {cl : Bool} {R : Nat → Nat} {l : List Nat} {N : Nat} (hI : pu_I T up ar R l N) {w : fa_W} (hU : px_U o T up ar cl w) : ∃ b w' sh, fm_Typing_nameShapes o w = some (b, w') ∧ px_SH o T sh w' ∧ px_hI T up ar R sh ∧ (b = true → ∀ k, k < T → up k = k → sh k ≠ none) ∧ (b = false → ∀ rk, ¬ pu_ac T up ar R rk) ∧ px_sf o w w' := by
  have hT : T ≤ 400 := hU.2.2.2.2.2.2.2
  have rf := pb_refill (r := o + 7) (m := T) (v := -1) (by rw [ho.2.1.2.2.2.1]; omega) (by rw [ho.2.2.2.2.2.1]; exact hT) w
  rw [ho.2.1.2.2.2.1] at rf
  unfold fm_Typing_nameShapes fm_Row_size
  obtain ⟨FU, hFU⟩ : ∃ F, F = fa_FU := ⟨_, rfl⟩
  have hF2 : 1000 < FU := by rw [hFU]; unfold fa_FU; omega
  rw [← hFU]
  dsimp only [fa_let]
  rw [ho.1.1, ho.1.2.2.2.1, hU.1]
  generalize fr_refill (o + 7) (T : Int) (-1) w = w1 at rf ⊢
  obtain ⟨r1, r2, r3⟩ := rf
  have sf1 : px_sf o w w1 := fun i j a b => by rw [r3 i a b]
  have ll : l.length ≤ T := by have := hI.2.2.1; omega
  obtain ⟨w2, sh, e1, e2, e3, e4, e5⟩ := px_ns_out ho hI T FU 0 true (fun _ => none) l w1 ll (by omega) (by omega) (px_U_sf hU sf1) ⟨r1, fun k hk => r2 k hk⟩ (px_hI_0 T up ar R) hI.1 (fun k => by rw [hI.2.1]; exact ⟨fun h => ⟨h.1, h.2, rfl⟩, fun h => ⟨h.1, h.2.1⟩⟩) (fun z => by cases z)
  have U2 := px_U_sf (px_U_sf hU sf1) e5
  obtain ⟨b, b1, b2, b3⟩ := px_ns_all ho hI U2 e2 (fun k c z => (e3.1 k c z).2.2.1) T 0 FU (by omega) (by omega)
  rw [← hFU] at e1
  refine ⟨b, w2, sh, ?_, e2, e3, fun z k => b2 z k (Nat.zero_le _), fun z rk hrk => ?_, px_sf_tr sf1 e5⟩
  · rw [show ((0 : Nat) : Int) = 0 from rfl] at e1 b1
    rw [e1, b1]
  · obtain ⟨k0, k1, k2, k3⟩ := b3 z
    have key : ∀ n k, k < T → up k = k → sh k = none → rk k ≤ n → False := by
      intro n
      induction n with
      | zero =>
        intro k h1 h2 h3 h4
        obtain ⟨a, b, h5, h6⟩ := e4 k (Nat.zero_le _) h1 h2 h3
        have := hrk k h1 h2 a b h5
        omega
      | succ n ih =>
        intro k h1 h2 h3 h4
        obtain ⟨a, b, h5, h6⟩ := e4 k (Nat.zero_le _) h1 h2 h3
        have hr := hrk k h1 h2 a b h5
        have bb := hI.2.2.2.2.2.2.1 k h1 a b h5
        have ra := pu_root hI bb.1
        have rb := pu_root hI bb.2
        rcases h6 with h6 | h6
        · exact ih _ ra.2.1 ra.2.2 h6 (by omega)
        · exact ih _ rb.2.1 rb.2.2 h6 (by omega)
    exact key _ k0 k1 k2 k3 (Nat.le_refl _)
