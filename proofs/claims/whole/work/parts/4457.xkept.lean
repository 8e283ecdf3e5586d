/-! the class's kept program: EXPRS lie one behind another, in an order of their own (os; the number of GLOBALS stands for MAIN) -/
def px_P (o : Nat) (ins : List Nat) : pt_T → Int → Nat → fa_W → Prop := pt_rec
  (fun v h a w => px_N o w a 1 v h a (-1) (-1) (-1))
  (fun v x h a w => px_N o w a 2 (px_xi ins v) h a (-1) (-1) (-1) ∧ w (o + 14) (px_xi ins v) = (x : Int))
  (fun g x h a w => px_N o w a 3 g h a (-1) (-1) (-1) ∧ w (o + 18) g = (x : Int))
  (fun _ h a w => px_N o w a 4 0 h a (-1) (-1) (-1))
  (fun f x b rb h a w => rb (f : Int) a w ∧ px_N o w (a + pt_sz b) 5 f h a ((a + pt_sz b - 1 : Nat) : Int) (-1) (-1) ∧ w (o + 14) f = (x : Int) ∧ w (o + 16) f = ((a + pt_sz b : Nat) : Int) ∧ w (o + 20) f = ((a + pt_sz b - 1 : Nat) : Int))
  (fun ta tb tc ra rb rc h a w => ra h a w ∧ rb h (a + pt_sz ta) w ∧ rc h (a + pt_sz ta + pt_sz tb) w ∧ px_N o w (a + pt_sz ta + pt_sz tb + pt_sz tc) 6 0 h a ((a + pt_sz ta - 1 : Nat) : Int) ((a + pt_sz ta + pt_sz tb - 1 : Nat) : Int) ((a + pt_sz ta + pt_sz tb + pt_sz tc - 1 : Nat) : Int))
  (fun v x ta tb ra rb h a w => ra h a w ∧ rb h (a + pt_sz ta) w ∧ px_N o w (a + pt_sz ta + pt_sz tb) 7 (px_xi ins v) h a ((a + pt_sz ta - 1 : Nat) : Int) ((a + pt_sz ta + pt_sz tb - 1 : Nat) : Int) (-1) ∧ w (o + 14) (px_xi ins v) = (x : Int) ∧ w (o + 16) (px_xi ins v) = ((a + pt_sz ta + pt_sz tb : Nat) : Int))
  (fun s ta tb ra rb h a w => ra h a w ∧ rb h (a + pt_sz ta) w ∧ px_N o w (a + pt_sz ta + pt_sz tb) 8 s h a ((a + pt_sz ta - 1 : Nat) : Int) ((a + pt_sz ta + pt_sz tb - 1 : Nat) : Int) (-1))
  (fun s ta tb ra rb h a w => ra h a w ∧ rb h (a + pt_sz ta) w ∧ px_N o w (a + pt_sz ta + pt_sz tb) 9 s h a ((a + pt_sz ta - 1 : Nat) : Int) ((a + pt_sz ta + pt_sz tb - 1 : Nat) : Int) (-1) ∧ w (o + 12) s = ((a + pt_sz ta + pt_sz tb : Nat) : Int))
  (fun _ _ _ => False)
theorem px_P_of {o : Nat} {ins : List Nat} {w : fa_W} (t : pt_T) (ht : pt_tw t) : ∀ (h : Int) (a : Nat), px_H o ins t h a w → px_P o ins t h a w := by
  induction t, ht using pt_indh with
  | num v => intro h a H; exact H
  | var v x => intro h a H; exact H
  | glo g x => intro h a H; exact H
  | dead d => intro h a H; exact H.1
  | lam f x b tb ih => intro h a H; exact ⟨ih _ _ H.1, H.2⟩
  | ife ta tb tc wa wb wc iha ihb ihc => intro h a H; exact ⟨iha _ _ H.1, ihb _ _ H.2.1, ihc _ _ H.2.2.1, H.2.2.2⟩
  | lt v x ta tb wa wb iha ihb => intro h a H; exact ⟨iha _ _ H.1, ihb _ _ H.2.1, H.2.2⟩
  | op s ta tb wa wb iha ihb => intro h a H; exact ⟨iha _ _ H.1, ihb _ _ H.2.1, H.2.2⟩
  | site s ta tb wa wb iha ihb => intro h a H; exact ⟨iha _ _ H.1, ihb _ _ H.2.1, H.2.2⟩
theorem px_P_ob {o : Nat} {ins : List Nat} {w w' : fa_W} (hf : px_ob o w w') (t : pt_T) (ht : pt_tw t) : ∀ (h : Int) (a : Nat), px_P o ins t h a w → px_P o ins t h a w' := by
  induction t, ht using pt_indh with
  | num v => intro h a H; exact px_N_ob hf H
  | var v x => intro h a H; exact ⟨px_N_ob hf H.1, by rw [hf _ _ (by omega) (by omega)]; exact H.2⟩
  | glo g x => intro h a H; exact ⟨px_N_ob hf H.1, by rw [hf _ _ (by omega) (by omega)]; exact H.2⟩
  | dead d => intro h a H; exact px_N_ob hf H
  | lam f x b tb ih =>
    intro h a H
    obtain ⟨H1, H2, H3, H4, H5⟩ := H
    exact ⟨ih _ _ H1, px_N_ob hf H2, by rw [hf _ _ (by omega) (by omega)]; exact H3, by rw [hf _ _ (by omega) (by omega)]; exact H4, by rw [hf _ _ (by omega) (by omega)]; exact H5⟩
  | ife ta tb tc wa wb wc iha ihb ihc =>
    intro h a H
    obtain ⟨H1, H2, H3, H4⟩ := H
    exact ⟨iha _ _ H1, ihb _ _ H2, ihc _ _ H3, px_N_ob hf H4⟩
  | lt v x ta tb wa wb iha ihb =>
    intro h a H
    obtain ⟨H1, H2, H3, H4, H5⟩ := H
    exact ⟨iha _ _ H1, ihb _ _ H2, px_N_ob hf H3, by rw [hf _ _ (by omega) (by omega)]; exact H4, by rw [hf _ _ (by omega) (by omega)]; exact H5⟩
  | op s ta tb wa wb iha ihb =>
    intro h a H
    obtain ⟨H1, H2, H3⟩ := H
    exact ⟨iha _ _ H1, ihb _ _ H2, px_N_ob hf H3⟩
  | site s ta tb wa wb iha ihb =>
    intro h a H
    obtain ⟨H1, H2, H3, H4⟩ := H
    exact ⟨iha _ _ H1, ihb _ _ H2, px_N_ob hf H3, by rw [hf _ _ (by omega) (by omega)]; exact H4⟩
/-- the EXPR and the owner by number: GLOBALS, then MAIN -/
def pn_tr (gs : ps_G) (t : pt_T) (g : Nat) : pt_T := (gs.map (fun e => e.2.2)).getD g t
def pn_ow (G g : Nat) : Int := if g < G then (g : Int) else -1
def px_L (o : Nat) (ins : List Nat) (gs : ps_G) (t : pt_T) : List Nat → Nat → fa_W → Prop
  | [], _, _ => True
  | g :: r, a, w => px_P o ins (pn_tr gs t g) (pn_ow gs.length g) a w ∧ (if g < gs.length then w (o + 20) g else w o 16) = ((a + pt_sz (pn_tr gs t g) - 1 : Nat) : Int) ∧ px_L o ins gs t r (a + pt_sz (pn_tr gs t g)) w
def pn_os (gs : ps_G) (t : pt_T) : List Nat → Nat
  | [] => 0
  | g :: r => pt_sz (pn_tr gs t g) + pn_os gs t r
def px_gn (o : Nat) : ps_G → Nat → fa_W → Prop
  | [], _, _ => True
  | (x, v, _) :: r, g, w => w (o + 18) g = (x : Int) ∧ w (o + 14) g = (v : Int) ∧ w (o + 16) g = -1 ∧ px_gn o r (g + 1) w
/-- o holds the program -/
def px_V (o : Nat) (gs : ps_G) (t : pt_T) (la li si nd : Nat) (ins os : List Nat) (w : fa_W) : Prop := (w (o + 1) 1 = (nd : Int) ∧ w (o + 3) 1 = (nd : Int) ∧ w (o + 5) 1 = (nd : Int) ∧ w (o + 7) 1 = (nd : Int) ∧ w (o + 9) 1 = ((3 * nd : Nat) : Int) ∧ w (o + 11) 1 = ((100 : Nat) : Int) ∧ w (o + 13) 1 = ((74 : Nat) : Int) ∧ w (o + 15) 1 = ((74 : Nat) : Int) ∧ w (o + 17) 1 = (gs.length : Int) ∧ w (o + 19) 1 = ((24 : Nat) : Int)) ∧ (w o 13 = (gs.length : Int) ∧ w o 14 = ((gs.length + la : Nat) : Int) ∧ w o 15 = (si : Int)) ∧ px_gn o gs 0 w ∧ os.Nodup ∧ (∀ g, g ∈ os ↔ g ≤ gs.length) ∧ pn_os gs t os = nd ∧ px_L o ins gs t os 0 w ∧ (∀ x ∈ ins, 24 ≤ x ∧ x < 74) ∧ ins.Nodup ∧ ins.length = li
def px_vo (o : Nat) (w w' : fa_W) : Prop := ∀ i j, o ≤ i → i ≤ o + 20 → w' i j = w i j
theorem px_L_ob {o : Nat} {ins : List Nat} {gs : ps_G} {t : pt_T} {w w' : fa_W} (hf : px_vo o w w') (ht : ∀ g, g ≤ gs.length → pt_tw (pn_tr gs t g)) : ∀ (os : List Nat) (a : Nat), (∀ g ∈ os, g ≤ gs.length) → px_L o ins gs t os a w → px_L o ins gs t os a w' := by
  intro os
  induction os with
  | nil => intro a _ _; trivial
  | cons g r ih =>
    intro a hos H
    obtain ⟨H1, H2, H3⟩ := H
    refine ⟨px_P_ob (fun i j p q => hf i j (by omega) (by omega)) _ (ht g (hos g (List.mem_cons_self ..))) _ _ H1, ?_, ih _ (fun x hx => hos x (List.mem_cons_of_mem _ hx)) H3⟩
    rw [hf _ _ (by omega) (by omega), hf _ _ (by omega) (by omega)]
    exact H2
theorem px_gn_ob {o : Nat} {w w' : fa_W} (hf : px_vo o w w') : ∀ (gs : ps_G) (g : Nat), px_gn o gs g w → px_gn o gs g w' := by
  intro gs
  induction gs with
  | nil => intro g _; trivial
  | cons e r ih =>
    intro g H
    obtain ⟨x, v, t⟩ := e
    obtain ⟨H1, H2, H3, H4⟩ := H
    exact ⟨by rw [hf _ _ (by omega) (by omega)]; exact H1, by rw [hf _ _ (by omega) (by omega)]; exact H2, by rw [hf _ _ (by omega) (by omega)]; exact H3, ih _ H4⟩
theorem pn_tr_tw {B : Nat} {t : pt_T} (tt : pt_tw t) : ∀ (gs : ps_G) (gl : List Nat) (k k' : pk_K), pn_GW B gs gl k k' → ∀ g, pt_tw (pn_tr gs t g) := by
  intro gs
  induction gs with
  | nil => intro gl k k' _ g; exact tt
  | cons e r ih =>
    intro gl k k' h g
    obtain ⟨x, v, t'⟩ := e
    obtain ⟨_, _, _, h4, _, k1, _, h7⟩ := h
    cases g with
    | zero => exact h4
    | succ g => exact ih _ _ _ h7 g
theorem px_V_ob {o : Nat} {gs : ps_G} {t : pt_T} {la li si nd : Nat} {ins os : List Nat} {w w' : fa_W} (ht : ∀ g, pt_tw (pn_tr gs t g)) (hf : px_vo o w w') (h : px_V o gs t la li si nd ins os w) : px_V o gs t la li si nd ins os w' := by
  obtain ⟨⟨z1, z2, z3, z4, z5, z6, z7, z8, z9, z10⟩, ⟨y1, y2, y3⟩, h3, h4, h5, h6, h7, h8⟩ := h
  refine ⟨⟨?_, ?_, ?_, ?_, ?_, ?_, ?_, ?_, ?_, ?_⟩, ⟨?_, ?_, ?_⟩, px_gn_ob hf gs 0 h3, h4, h5, h6, px_L_ob hf (fun g _ => ht g) os 0 (fun g hg => (h5 g).mp hg) h7, h8⟩
  all_goals (rw [hf _ _ (by omega) (by omega)]; assumption)
