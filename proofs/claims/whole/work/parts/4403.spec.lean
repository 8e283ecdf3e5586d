/-! PHASE B. The reader of texts as it is told: c the bytes (-1 behind the end), n how many -/
def ps_bl (x : Int) : Bool := decide (x = 9 ∨ x = 10 ∨ x = 32)
def ps_le (x : Int) : Bool := decide (97 ≤ x ∧ x ≤ 122)
def ps_di (x : Int) : Bool := decide (48 ≤ x ∧ x ≤ 57)
/-- the first place from p on, at most f further, that is not so -/
def ps_run (q : Int → Bool) (c : Nat → Int) : Nat → Nat → Nat
  | 0, p => p
  | f + 1, p => if q (c p) = true then ps_run q c f (p + 1) else p
def ps_sk (c : Nat → Int) (n p : Nat) : Nat := ps_run ps_bl c (n - p) p
def ps_we (c : Nat → Int) (n p : Nat) : Nat := ps_run ps_le c (n - p) p
def ps_de (c : Nat → Int) (n p : Nat) : Nat := ps_run ps_di c (n - p) p
def ps_wv (c : Nat → Int) (s : Nat) : Nat → Nat
  | 0 => 0
  | k + 1 => 256 * ps_wv c s k + (c (s + k)).toNat
def ps_dv (c : Nat → Int) (s : Nat) : Nat → Nat
  | 0 => 0
  | k + 1 => 10 * ps_dv c s k + ((c (s + k)).toNat - 48)
def ps_kw (v : Nat) : Bool := decide (v = 6714734 ∨ v = 26982 ∨ v = 1952998766 ∨ v = 1701606245 ∨ v = 7103860 ∨ v = 26990 ∨ v = 1684365668)
def ps_sg (x : Int) : Nat := if x = 40 ∨ x = 41 ∨ x = 42 ∨ x = 43 ∨ x = 45 ∨ x = 46 ∨ x = 47 ∨ x = 59 ∨ x = 60 ∨ x = 61 ∨ x = 92 then x.toNat else if x = -1 then 0 else 3
/-- the word, number, sign at s: 0 the end, 1 a number, 2 a name, 3 none, else itself -/
def ps_tk (c : Nat → Int) (n s : Nat) : Nat :=
  if ps_le (c s) = true then (if 4 < ps_we c n s - s then 3 else if ps_kw (ps_wv c s (ps_we c n s - s)) = true then ps_wv c s (ps_we c n s - s) else 2)
  else if ps_di (c s) = true then (if 4 < ps_de c n s - s then 3 else 1) else ps_sg (c s)
def ps_tv (c : Nat → Int) (n s : Nat) : Nat := if ps_le (c s) = true then ps_wv c s (ps_we c n s - s) else ps_dv c s (ps_de c n s - s)
def ps_te (c : Nat → Int) (n s : Nat) : Nat := if ps_le (c s) = true then ps_we c n s else if ps_di (c s) = true then ps_de c n s else s + 1
/-! place, THINGS, LAMBDAS, the lets behind in (each by its number as it was begun), lets begun, SITES, nodes -/
abbrev ps_S : Type := Nat × Nat × Nat × List Nat × Nat × Nat × Nat
/-! names of GLOBALS, what is in scope (innermost first), the FUNCTION, how deep -/
abbrev ps_E : Type := List Nat × List (Nat × Nat) × Int × Nat
abbrev ps_R : Type := Option (Except Nat (pt_T × ps_S))
def ps_er (q : Nat) : ps_R := some (.error q)
def ps_re (t : pt_T) (s : ps_S) : ps_R := some (.ok (t, s))
def ps_bd (x : ps_R) (f : pt_T → ps_S → ps_R) : ps_R := match x with
  | none => none
  | some (.error q) => some (.error q)
  | some (.ok (t, s)) => f t s
def ps_nd (t : pt_T) : ps_S → ps_R
  | (p, th, la, ins, lt, si, nd) => ps_re t (p, th, la, ins, lt, si, nd + 1)
def ps_ex (c : Nat → Int) (n k p : Nat) (f : Nat → ps_R) : ps_R := if ps_tk c n (ps_sk c n p) = k then f (ps_te c n (ps_sk c n p)) else ps_er (ps_sk c n p)
def ps_nm (c : Nat → Int) (n p : Nat) (f : Nat → Nat → ps_R) : ps_R := if ps_tk c n (ps_sk c n p) = 2 then f (ps_tv c n (ps_sk c n p)) (ps_te c n (ps_sk c n p)) else ps_er (ps_sk c n p)
def ps_lk : List (Nat × Nat) → Nat → Option Nat
  | [], _ => none
  | b :: r, x => if b.2 = x then some b.1 else ps_lk r x
def ps_gx : List Nat → Nat → Nat → Option Nat
  | [], _, _ => none
  | y :: r, x, k => if y = x then some k else ps_gx r x (k + 1)
def ps_expr (c : Nat → Int) (n : Nat) (lam cho lt tst : ps_E → ps_S → ps_R) (e : ps_E) (s : ps_S) : ps_R :=
  if ps_tk c n (ps_sk c n s.1) = 92 then lam e s else if ps_tk c n (ps_sk c n s.1) = 26982 then cho e s else if ps_tk c n (ps_sk c n s.1) = 7103860 then lt e s else tst e s
def ps_lam (c : Nat → Int) (n : Nat) (fr : Bool) (rc : ps_E → ps_S → ps_R) : ps_E → ps_S → ps_R
  | (gl, sc, ow, ne), (p, th, la, ins, lt, si, nd) =>
    if la = 18 ∨ th = 100 ∨ (ne = 20 ∧ fr = false) then ps_er (ps_sk c n p) else
    ps_nm c n (ps_sk c n p + 1) fun x p1 => ps_ex c n 46 p1 fun p2 =>
    ps_bd (rc (gl, (6 + la, x) :: sc, ((6 + la : Nat) : Int), ne + 1) (p2, th + 1, la + 1, ins, lt, si, nd)) fun t s1 => ps_nd (pt_lam (6 + la) x t) s1
def ps_cho (c : Nat → Int) (n : Nat) (fr : Bool) (rc : ps_E → ps_S → ps_R) : ps_E → ps_S → ps_R
  | (gl, sc, ow, ne), (p, th, r) =>
    if th = 100 ∨ (ne = 20 ∧ fr = false) then ps_er (ps_sk c n p) else
    ps_bd (rc (gl, sc, ow, ne + 1) (ps_te c n (ps_sk c n p), th + 1, r)) fun a s1 =>
    ps_ex c n 1952998766 s1.1 fun p1 => ps_bd (rc (gl, sc, ow, ne + 1) (p1, s1.2)) fun b s2 =>
    ps_ex c n 1701606245 s2.1 fun p2 => ps_bd (rc (gl, sc, ow, ne + 1) (p2, s2.2)) fun d s3 => ps_nd (pt_ife a b d) s3
def ps_let (c : Nat → Int) (n : Nat) (fr : Bool) (rc : ps_E → ps_S → ps_R) : ps_E → ps_S → ps_R
  | (gl, sc, ow, ne), (p, th, la, ins, lt, si, nd) =>
    if th = 100 ∨ (ne = 20 ∧ fr = false) then ps_er (ps_sk c n p) else
    ps_nm c n (ps_te c n (ps_sk c n p)) fun x p1 => ps_ex c n 61 p1 fun p2 =>
    ps_bd (rc (gl, sc, ow, ne + 1) (p2, th + 1, la, ins, lt + 1, si, nd)) fun a s1 =>
    ps_ex c n 26990 s1.1 fun p3 => match s1 with
      | (_, th1, la1, ins1, lt1, si1, nd1) => ps_bd (rc (gl, (24 + ins1.length, x) :: sc, ow, ne + 1) (p3, th1, la1, ins1 ++ [24 + lt], lt1, si1, nd1)) fun b s2 => ps_nd (pt_let (24 + ins1.length) x a b) s2
def ps_tst (c : Nat → Int) (n : Nat) (rc : ps_E → ps_S → ps_R) (e : ps_E) (s : ps_S) : ps_R :=
  ps_bd (rc e s) fun a s1 =>
    if ps_tk c n (ps_sk c n s1.1) = 60 then (if s1.2.1 = 100 then ps_er (ps_sk c n s1.1) else ps_bd (rc e (ps_sk c n s1.1 + 1, s1.2.1 + 1, s1.2.2)) fun b s2 => ps_nd (pt_op 60 a b) s2) else ps_re a s1
def ps_lp (c : Nat → Int) (n o1 o2 : Nat) (rc : ps_E → ps_S → ps_R) (e : ps_E) : Nat → pt_T → ps_S → ps_R
  | 0, _, _ => none
  | f + 1, a, s1 =>
    if ps_tk c n (ps_sk c n s1.1) = o1 ∨ ps_tk c n (ps_sk c n s1.1) = o2 then (if s1.2.1 = 100 then ps_er (ps_sk c n s1.1) else ps_bd (ps_bd (rc e (ps_sk c n s1.1 + 1, s1.2.1 + 1, s1.2.2)) fun b s2 => ps_nd (pt_op (ps_tk c n (ps_sk c n s1.1)) a b) s2) fun t s3 => ps_lp c n o1 o2 rc e f t s3) else ps_re a s1
def ps_sa (c : Nat → Int) (n s : Nat) : Bool := decide (ps_tk c n s = 1 ∨ ps_tk c n s = 2 ∨ ps_tk c n s = 1684365668 ∨ ps_tk c n s = 40 ∨ (ps_tk c n s = 3 ∧ (ps_le (c s) = true ∨ ps_di (c s) = true)))
def ps_ch (c : Nat → Int) (n : Nat) (rc : ps_E → ps_S → ps_R) (e : ps_E) : Nat → pt_T → ps_S → ps_R
  | 0, _, _ => none
  | f + 1, a, (p, th, la, ins, lt, si, nd) =>
    if ps_sa c n (ps_sk c n p) = true then (if th = 100 then ps_er (ps_sk c n p) else ps_bd (ps_bd (rc e (p, th + 1, la, ins, lt, si + 1, nd)) fun b s2 => ps_nd (pt_site si a b) s2) fun t s3 => ps_ch c n rc e f t s3) else ps_re a (p, th, la, ins, lt, si, nd)
def ps_leaf (c : Nat → Int) (n : Nat) (t : pt_T) : ps_S → ps_R
  | (p, th, la, ins, lt, si, nd) => if th = 100 then ps_er (ps_sk c n p) else ps_re t (ps_te c n (ps_sk c n p), th + 1, la, ins, lt, si, nd + 1)
def ps_word (c : Nat → Int) (n : Nat) (gl : List Nat) (sc : List (Nat × Nat)) (x : Nat) (s : ps_S) : ps_R := match ps_lk sc x with
  | some v => ps_leaf c n (pt_var v x) s
  | none => match ps_gx gl x 0 with
    | some g => ps_leaf c n (pt_glo g x) s
    | none => ps_er (ps_sk c n s.1)
def ps_atom (c : Nat → Int) (n : Nat) (fr : Bool) (rc : ps_E → ps_S → ps_R) : ps_E → ps_S → ps_R
  | (gl, sc, ow, ne), s =>
    if ps_tk c n (ps_sk c n s.1) = 40 then (if ne = 20 ∧ fr = false then ps_er (ps_sk c n s.1) else ps_bd (rc (gl, sc, ow, ne + 1) (ps_sk c n s.1 + 1, s.2)) fun t s1 => ps_ex c n 41 s1.1 fun p1 => ps_re t (p1, s1.2))
    else if ps_tk c n (ps_sk c n s.1) = 1 then ps_leaf c n (pt_num (ps_tv c n (ps_sk c n s.1))) s
    else if ps_tk c n (ps_sk c n s.1) = 1684365668 then ps_leaf c n (pt_dead s.2.2.2.2.2.2) s
    else if ps_tk c n (ps_sk c n s.1) = 2 then ps_word c n gl sc (ps_tv c n (ps_sk c n s.1)) s
    else ps_er (ps_sk c n s.1)
def ps_t (c : Nat → Int) (n : Nat) (fr : Bool) : Nat → Nat → ps_E → ps_S → ps_R
  | 0, _, _, _ => none
  | f + 1, m, e, s => match m with
    | 0 => ps_expr c n (ps_t c n fr f 1) (ps_t c n fr f 2) (ps_t c n fr f 3) (ps_t c n fr f 4) e s
    | 1 => ps_lam c n fr (ps_t c n fr f 0) e s
    | 2 => ps_cho c n fr (ps_t c n fr f 0) e s
    | 3 => ps_let c n fr (ps_t c n fr f 0) e s
    | 4 => ps_tst c n (ps_t c n fr f 5) e s
    | 5 => ps_bd (ps_t c n fr f 6 e s) fun a s1 => ps_lp c n 43 45 (ps_t c n fr f 6) e 200 a s1
    | 6 => ps_bd (ps_t c n fr f 7 e s) fun a s1 => ps_lp c n 42 47 (ps_t c n fr f 7) e 200 a s1
    | 7 => ps_bd (ps_t c n fr f 8 e s) fun a s1 => ps_ch c n (ps_t c n fr f 8) e 200 a s1
    | 8 => ps_atom c n fr (ps_t c n fr f 0) e s
    | _ => none
/-! the whole text: GLOBALS (name, name of the VAR, EXPR), then MAIN -/
abbrev ps_G : Type := List (Nat × Nat × pt_T)
abbrev ps_Q : Type := Option (Except Nat (ps_G × pt_T × ps_S))
def ps_qb (x : ps_R) (f : pt_T → ps_S → ps_Q) : ps_Q := match x with
  | none => none
  | some (.error q) => some (.error q)
  | some (.ok (t, s)) => f t s
def ps_glo (c : Nat → Int) (n : Nat) (fr : Bool) (x p : Nat) (gs : ps_G) (s : ps_S) (k : ps_G → ps_S → ps_Q) : ps_Q :=
  if ps_tk c n (ps_sk c n p) ≠ 2 then some (.error (ps_sk c n p)) else
  if ps_tk c n (ps_sk c n (ps_te c n (ps_sk c n p))) ≠ 61 then some (.error (ps_sk c n (ps_te c n (ps_sk c n p)))) else
  ps_qb (ps_t c n fr 899 0 (gs.map (fun g => g.1) ++ [x], [(gs.length, ps_tv c n (ps_sk c n p))], (gs.length : Int), 0) (ps_te c n (ps_sk c n (ps_te c n (ps_sk c n p))), s.2)) fun t s1 =>
  if ps_tk c n (ps_sk c n s1.1) = 59 then k (gs ++ [(x, ps_tv c n (ps_sk c n p), t)]) (ps_te c n (ps_sk c n s1.1), s1.2) else some (.error (ps_sk c n s1.1))
def ps_all (c : Nat → Int) (n : Nat) (fr : Bool) : Nat → ps_G → ps_S → ps_Q
  | 0, _, _ => none
  | f + 1, gs, s =>
    if ps_tk c n (ps_sk c n s.1) = 6714734 then
      if gs.length = 6 then some (.error (ps_sk c n s.1)) else
      if ps_tk c n (ps_sk c n (ps_te c n (ps_sk c n s.1))) ≠ 2 ∨ ps_tv c n (ps_sk c n (ps_te c n (ps_sk c n s.1))) ∈ gs.map (fun g => g.1) then some (.error (ps_sk c n (ps_te c n (ps_sk c n s.1)))) else
      ps_glo c n fr (ps_tv c n (ps_sk c n (ps_te c n (ps_sk c n s.1)))) (ps_te c n (ps_sk c n (ps_te c n (ps_sk c n s.1)))) gs s (ps_all c n fr f)
    else ps_qb (ps_t c n fr 899 0 (gs.map (fun g => g.1), [], -1, 0) s) fun t s1 => if ps_tk c n (ps_sk c n s1.1) = 0 then some (.ok (gs, t, s1)) else some (.error (ps_sk c n s1.1))
