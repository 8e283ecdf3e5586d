/-! PHASE B. Trees of a program: a leaf or a branch of the core's own binary trees; nine smart constructors -/
abbrev pt_T : Type := Lean.RArray Nat
abbrev pt_num (v : Nat) : pt_T := .branch 0 (.leaf v) (.leaf 0)
abbrev pt_var (v x : Nat) : pt_T := .branch 1 (.leaf v) (.leaf x)
abbrev pt_glo (g x : Nat) : pt_T := .branch 2 (.leaf g) (.leaf x)
abbrev pt_dead (d : Nat) : pt_T := .branch 3 (.leaf d) (.leaf 0)
abbrev pt_lam (f x : Nat) (b : pt_T) : pt_T := .branch 4 (.branch f (.leaf x) (.leaf 0)) b
abbrev pt_ife (a b c : pt_T) : pt_T := .branch 5 a (.branch 0 b c)
abbrev pt_let (v x : Nat) (a b : pt_T) : pt_T := .branch 6 (.branch v (.leaf x) (.leaf 0)) (.branch 0 a b)
abbrev pt_op (s : Nat) (a b : pt_T) : pt_T := .branch 7 (.leaf s) (.branch 0 a b)
abbrev pt_site (s : Nat) (a b : pt_T) : pt_T := .branch 8 (.leaf s) (.branch 0 a b)
/-- what is told of a tree, part by part -/
def pt_rec {X : Type} (num : Nat → X) (var glo : Nat → Nat → X) (dead : Nat → X) (lam : Nat → Nat → pt_T → X → X) (ife : pt_T → pt_T → pt_T → X → X → X → X) (lt : Nat → Nat → pt_T → pt_T → X → X → X) (op site : Nat → pt_T → pt_T → X → X → X) (bad : X) : pt_T → X
  | .branch 0 (.leaf v) (.leaf 0) => num v
  | .branch 1 (.leaf v) (.leaf x) => var v x
  | .branch 2 (.leaf g) (.leaf x) => glo g x
  | .branch 3 (.leaf d) (.leaf 0) => dead d
  | .branch 4 (.branch f (.leaf x) (.leaf 0)) b => lam f x b (pt_rec num var glo dead lam ife lt op site bad b)
  | .branch 5 a (.branch 0 b c) => ife a b c (pt_rec num var glo dead lam ife lt op site bad a) (pt_rec num var glo dead lam ife lt op site bad b) (pt_rec num var glo dead lam ife lt op site bad c)
  | .branch 6 (.branch v (.leaf x) (.leaf 0)) (.branch 0 a b) => lt v x a b (pt_rec num var glo dead lam ife lt op site bad a) (pt_rec num var glo dead lam ife lt op site bad b)
  | .branch 7 (.leaf s) (.branch 0 a b) => op s a b (pt_rec num var glo dead lam ife lt op site bad a) (pt_rec num var glo dead lam ife lt op site bad b)
  | .branch 8 (.leaf s) (.branch 0 a b) => site s a b (pt_rec num var glo dead lam ife lt op site bad a) (pt_rec num var glo dead lam ife lt op site bad b)
  | _ => bad
theorem pt_rec_test {X : Type} (num : Nat → X) (var glo : Nat → Nat → X) (dead : Nat → X) (lam : Nat → Nat → pt_T → X → X) (ife : pt_T → pt_T → pt_T → X → X → X → X) (lt : Nat → Nat → pt_T → pt_T → X → X → X) (op site : Nat → pt_T → pt_T → X → X → X) (bad : X) (s : Nat) (a b : pt_T) : pt_rec num var glo dead lam ife lt op site bad (pt_site s a b) = site s a b (pt_rec num var glo dead lam ife lt op site bad a) (pt_rec num var glo dead lam ife lt op site bad b) := rfl
/-- the tree is one of a program -/
def pt_tw : pt_T → Prop := pt_rec (fun _ => True) (fun _ _ => True) (fun _ _ => True) (fun _ => True) (fun _ _ _ q => q) (fun _ _ _ p q r => p ∧ q ∧ r) (fun _ _ _ _ p q => p ∧ q) (fun _ _ _ p q => p ∧ q) (fun _ _ _ p q => p ∧ q) False
def pt_sz : pt_T → Nat := pt_rec (fun _ => 1) (fun _ _ => 1) (fun _ _ => 1) (fun _ => 1) (fun _ _ _ q => q + 1) (fun _ _ _ p q r => p + q + r + 1) (fun _ _ _ _ p q => p + q + 1) (fun _ _ _ p q => p + q + 1) (fun _ _ _ p q => p + q + 1) 1
theorem pt_sz_pos (t : pt_T) : 0 < pt_sz t := by
  unfold pt_sz
  unfold pt_rec
  split <;> omega
theorem pt_ind {P : pt_T → Prop} (num : ∀ v, P (pt_num v)) (var : ∀ v x, P (pt_var v x)) (glo : ∀ g x, P (pt_glo g x)) (dead : ∀ d, P (pt_dead d)) (lam : ∀ f x b, pt_tw b → P b → P (pt_lam f x b)) (ife : ∀ a b c, pt_tw a → pt_tw b → pt_tw c → P a → P b → P c → P (pt_ife a b c)) (lt : ∀ v x a b, pt_tw a → pt_tw b → P a → P b → P (pt_let v x a b)) (op : ∀ s a b, pt_tw a → pt_tw b → P a → P b → P (pt_op s a b)) (site : ∀ s a b, pt_tw a → pt_tw b → P a → P b → P (pt_site s a b)) (t : pt_T) (ht : pt_tw t) : P t := by
  have key : ∀ n t, pt_sz t ≤ n → pt_tw t → P t := by
    intro n
    induction n with
    | zero =>
      intro t h _
      have := pt_sz_pos t
      omega
    | succ n ih =>
      intro t h ht
      unfold pt_tw at ht
      unfold pt_rec at ht
      split at ht
      · exact num _
      · exact var _ _
      · exact glo _ _
      · exact dead _
      · rename_i f x b
        have e : pt_sz b + 1 ≤ n + 1 := h
        exact lam f x b ht (ih b (by omega) ht)
      · rename_i a b c
        have e : pt_sz a + pt_sz b + pt_sz c + 1 ≤ n + 1 := h
        have := pt_sz_pos a
        have := pt_sz_pos b
        exact ife a b c ht.1 ht.2.1 ht.2.2 (ih a (by omega) ht.1) (ih b (by omega) ht.2.1) (ih c (by omega) ht.2.2)
      · rename_i v x a b
        have e : pt_sz a + pt_sz b + 1 ≤ n + 1 := h
        exact lt v x a b ht.1 ht.2 (ih a (by omega) ht.1) (ih b (by omega) ht.2)
      · rename_i s a b
        have e : pt_sz a + pt_sz b + 1 ≤ n + 1 := h
        exact op s a b ht.1 ht.2 (ih a (by omega) ht.1) (ih b (by omega) ht.2)
      · rename_i s a b
        have e : pt_sz a + pt_sz b + 1 ≤ n + 1 := h
        exact site s a b ht.1 ht.2 (ih a (by omega) ht.1) (ih b (by omega) ht.2)
      · exact ht.elim
  exact key (pt_sz t) t (Nat.le_refl _) ht
theorem pt_indh {P : (t : pt_T) → pt_tw t → Prop} (num : ∀ v, P (pt_num v) trivial) (var : ∀ v x, P (pt_var v x) trivial) (glo : ∀ g x, P (pt_glo g x) trivial) (dead : ∀ d, P (pt_dead d) trivial) (lam : ∀ f x b (tb : pt_tw b), P b tb → P (pt_lam f x b) tb) (ife : ∀ a b c (ta : pt_tw a) (tb : pt_tw b) (tc : pt_tw c), P a ta → P b tb → P c tc → P (pt_ife a b c) ⟨ta, tb, tc⟩) (lt : ∀ v x a b (ta : pt_tw a) (tb : pt_tw b), P a ta → P b tb → P (pt_let v x a b) ⟨ta, tb⟩) (op : ∀ s a b (ta : pt_tw a) (tb : pt_tw b), P a ta → P b tb → P (pt_op s a b) ⟨ta, tb⟩) (site : ∀ s a b (ta : pt_tw a) (tb : pt_tw b), P a ta → P b tb → P (pt_site s a b) ⟨ta, tb⟩) (t : pt_T) (ht : pt_tw t) : P t ht := by
  have key : ∀ ht : pt_tw t, P t ht := pt_ind (P := fun t => ∀ ht : pt_tw t, P t ht) (fun v _ => num v) (fun v x _ => var v x) (fun v x _ => glo v x) (fun d _ => dead d) (fun f x b tb ih _ => lam f x b tb (ih tb)) (fun a b c ta tb tc ia ib ic _ => ife a b c ta tb tc (ia ta) (ib tb) (ic tc)) (fun v x a b ta tb ia ib _ => lt v x a b ta tb (ia ta) (ib tb)) (fun s a b ta tb ia ib _ => op s a b ta tb (ia ta) (ib tb)) (fun s a b ta tb ia ib _ => site s a b ta tb (ia ta) (ib tb)) t ht
  exact key ht
