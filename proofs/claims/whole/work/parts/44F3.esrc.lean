/-! copying: what is marked, where it comes to stand -/
def pe_c (e : Nat → Nat) : Nat → Nat
  | 0 => 0
  | j + 1 => pe_c e j + e j
theorem pe_c_mono (e : Nat → Nat) : ∀ {a b : Nat}, a ≤ b → pe_c e a ≤ pe_c e b := by
  intro a b h
  induction b with
  | zero => rw [show a = 0 by omega]; exact Nat.le_refl _
  | succ b ih =>
    by_cases z : a = b + 1
    · rw [z]; exact Nat.le_refl _
    · have := ih (by omega)
      show _ ≤ pe_c e b + e b
      omega
theorem pe_c_z {e : Nat → Nat} {a : Nat} : ∀ n, (∀ i, a ≤ i → i < a + n → e i = 0) → pe_c e (a + n) = pe_c e a := by
  intro n
  induction n with
  | zero => intro _; rfl
  | succ n ih =>
    intro h
    show pe_c e (a + n) + e (a + n) = _
    rw [h (a + n) (by omega) (by omega), ih (fun i p q => h i p (by omega))]
    rfl
def pe_lose (oP : Nat) (CL : Nat → Bool) (w0 : fa_W) (i : Nat) : Bool := decide (w0 (oP + 2) i = 5) && !CL (w0 (oP + 4) i).toNat
def pe_e (oP : Nat) (CL : Nat → Bool) (w0 : fa_W) (mk : Nat → Int) (i : Nat) : Nat := if mk i = -1 then 0 else if pe_lose oP CL w0 i = true then 2 else 1
theorem pe_e_0 {oP : Nat} {CL : Nat → Bool} {w0 : fa_W} {mk : Nat → Int} {i : Nat} (h : mk i = -1) : pe_e oP CL w0 mk i = 0 := if_pos h
theorem pe_e_1 {oP : Nat} {CL : Nat → Bool} {w0 : fa_W} {mk : Nat → Int} {i : Nat} (h : mk i ≠ -1) (l : pe_lose oP CL w0 i = false) : pe_e oP CL w0 mk i = 1 := by
  unfold pe_e
  rw [if_neg h, l]
  rfl
theorem pe_e_2 {oP : Nat} {CL : Nat → Bool} {w0 : fa_W} {mk : Nat → Int} {i : Nat} (h : mk i ≠ -1) (l : pe_lose oP CL w0 i = true) : pe_e oP CL w0 mk i = 2 := by
  unfold pe_e
  rw [if_neg h, l]
  rfl
def pe_X0 (oP : Nat) (CL : Nat → Bool) (w0 : fa_W) (mk : Nat → Int) (i K st : Nat) (p0 : Int) : Prop := (p0 = -1 ∧ pe_c (pe_e oP CL w0 mk) st = pe_c (pe_e oP CL w0 mk) i ∧ K ≠ 5) ∨ ∃ j : Nat, p0 = (j : Int) ∧ j < i ∧ w0 (oP + 8) j = (st : Int) ∧ (pe_lose oP CL w0 i = false → mk j ≠ -1)
def pe_X1 (mk : Nat → Int) (i : Nat) (p : Int) : Prop := p = -1 ∨ ∃ j : Nat, p = (j : Int) ∧ j < i ∧ mk j ≠ -1
def pe_Xh (M : Nat → Bool) (h : Int) : Prop := h = -1 ∨ ∃ f : Nat, h = (f : Int) ∧ f < 24 ∧ M f = true
/-- a THING that is written again, with all that its copy needs -/
def pe_X (oP : Nat) (M CL SV : Nat → Bool) (w0 : fa_W) (mk : Nat → Int) (i : Nat) : Prop := ∃ (K V st : Nat) (h p0 p1 p2 : Int), px_N oP w0 i K V h st p0 p1 p2 ∧ (1 ≤ K ∧ K ≤ 9 ∧ V < 10000 ∧ st ≤ i) ∧ pe_X0 oP CL w0 mk i K st p0 ∧ pe_X1 mk i p1 ∧ pe_X1 mk i p2 ∧ (K = 9 → V < 100 ∧ SV V = true ∧ w0 (oP + 12) V = (i : Int)) ∧ (K = 7 → 24 ≤ V ∧ V < 74 ∧ w0 (oP + 16) V = (i : Int)) ∧ (K = 5 → V < 24 ∧ M V = true ∧ w0 (oP + 16) V = (i : Int) ∧ p1 = -1 ∧ p2 = -1 ∧ (CL V = false → pe_c (pe_e oP CL w0 mk) st = pe_c (pe_e oP CL w0 mk) i)) ∧ (K = 2 → V < 74 ∧ (V < 24 → M V = true)) ∧ (K = 3 → V < 24 ∧ M V = true) ∧ pe_Xh M h
/-- the marks of an EXPR that is written again -/
def pe_mk (CL : Nat → Bool) : pt_T → Nat → (Nat → Int) → Prop := pt_rec (fun _ a mk => mk a = 0) (fun _ _ a mk => mk a = 0) (fun _ _ a mk => mk a = 0) (fun _ a mk => mk a = 0) (fun f _ b r a mk => mk (a + pt_sz b) = 0 ∧ if CL f = true then r a mk else ∀ i, a ≤ i → i < a + pt_sz b → mk i = -1) (fun ta tb tc ra rb rc a mk => ra a mk ∧ rb (a + pt_sz ta) mk ∧ rc (a + pt_sz ta + pt_sz tb) mk ∧ mk (a + pt_sz ta + pt_sz tb + pt_sz tc) = 0) (fun _ _ ta tb ra rb a mk => ra a mk ∧ rb (a + pt_sz ta) mk ∧ mk (a + pt_sz ta + pt_sz tb) = 0) (fun _ ta tb ra rb a mk => ra a mk ∧ rb (a + pt_sz ta) mk ∧ mk (a + pt_sz ta + pt_sz tb) = 0) (fun _ ta tb ra rb a mk => ra a mk ∧ rb (a + pt_sz ta) mk ∧ mk (a + pt_sz ta + pt_sz tb) = 0) (fun _ _ => False)
theorem pe_mk_root {CL : Nat → Bool} {mk : Nat → Int} (t : pt_T) (tt : pt_tw t) : ∀ a, pe_mk CL t a mk → mk (a + pt_sz t - 1) = 0 := by
  induction t, tt using pt_indh with
  | num v => intro a H; exact H
  | var v x => intro a H; exact H
  | glo g x => intro a H; exact H
  | dead d => intro a H; exact H
  | lam f x b wb ih => intro a H; exact H.1
  | ife ta t2 tc wa wb wc iha ihb ihc =>
    intro a H
    rw [show a + pt_sz (pt_ife ta t2 tc) - 1 = a + pt_sz ta + pt_sz t2 + pt_sz tc by show a + (pt_sz ta + pt_sz t2 + pt_sz tc + 1) - 1 = _; omega]
    exact H.2.2.2
  | lt v x ta t2 wa wb iha ihb =>
    intro a H
    rw [show a + pt_sz (pt_let v x ta t2) - 1 = a + pt_sz ta + pt_sz t2 by show a + (pt_sz ta + pt_sz t2 + 1) - 1 = _; omega]
    exact H.2.2
  | op s ta t2 wa wb iha ihb =>
    intro a H
    rw [show a + pt_sz (pt_op s ta t2) - 1 = a + pt_sz ta + pt_sz t2 by show a + (pt_sz ta + pt_sz t2 + 1) - 1 = _; omega]
    exact H.2.2
  | site s ta t2 wa wb iha ihb =>
    intro a H
    rw [show a + pt_sz (pt_site s ta t2) - 1 = a + pt_sz ta + pt_sz t2 by show a + (pt_sz ta + pt_sz t2 + 1) - 1 = _; omega]
    exact H.2.2
theorem px_P_root {o : Nat} {ins : List Nat} {w : fa_W} (t : pt_T) (tt : pt_tw t) (h : Int) (a : Nat) (H : px_P o ins t h a w) : w (o + 8) (a + pt_sz t - 1) = (a : Int) := by
  obtain ⟨K, v, x, y, z, N, _⟩ := px_root_kind t tt h a H
  exact N.2.2.2.1
theorem pe_leaf {oP : Nat} {M CL SV : Nat → Bool} {w0 : fa_W} {mk : Nat → Int} {a K V : Nat} {h : Int} (N : px_N oP w0 a K V h a (-1) (-1) (-1)) (hm : mk a = 0) (hK : 1 ≤ K ∧ K ≤ 4) (hV : V < 10000) (h2 : K = 2 → V < 74 ∧ (V < 24 → M V = true)) (h3 : K = 3 → V < 24 ∧ M V = true) (hh : h = -1 ∨ ∃ f : Nat, h = (f : Int) ∧ f < 24 ∧ M f = true) : pe_c (pe_e oP CL w0 mk) (a + 1) = pe_c (pe_e oP CL w0 mk) a + 1 ∧ ∀ i, a ≤ i → i < a + 1 → mk i ≠ -1 → pe_X oP M CL SV w0 mk i := by
  have nl : pe_lose oP CL w0 a = false := by
    unfold pe_lose
    rw [N.1, decide_eq_false (by omega)]; rfl
  refine ⟨?_, fun i p q _ => ?_⟩
  · show pe_c _ a + pe_e oP CL w0 mk a = _
    rw [pe_e_1 (by omega) nl]
  · rw [show i = a by omega]
    exact ⟨K, V, a, h, -1, -1, -1, N, ⟨by omega, by omega, hV, Nat.le_refl _⟩, Or.inl ⟨rfl, rfl, by omega⟩, Or.inl rfl, Or.inl rfl, fun z => by omega, fun z => by omega, fun z => by omega, h2, h3, hh⟩
