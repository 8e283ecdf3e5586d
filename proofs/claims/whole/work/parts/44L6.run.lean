/-! BACK is written as a copy is -/
theorem pw_back (CL : Nat → Bool) (ρ σ : Nat → Nat) (t : pt_T) (tt : pt_tw t) : ∀ n, pw_e pw_al (pc_t CL ρ σ t n) = pw_e CL t := by
  induction t, tt using pt_indh with
  | num v => intro n; rfl
  | var v x => intro n; rfl
  | glo g x => intro n; rfl
  | dead d => intro n; rfl
  | lam f x b tb ih =>
    intro n
    have e1 : pw_e CL (pt_lam f x b) = pw_tx 11 ++ (pw_nm x ++ (pw_tx 9 ++ ((if CL f = true then pw_e CL b else pw_tx 10) ++ pw_tx 12))) := rfl
    by_cases z : CL f = true
    · have ez : pc_t CL ρ σ (pt_lam f x b) n = pt_lam (ρ f) x (pc_t CL ρ σ b n) := if_pos z
      rw [ez, e1, if_pos z, ← ih n]
      rfl
    · have ez : pc_t CL ρ σ (pt_lam f x b) n = pt_lam (ρ f) x (pt_dead n) := if_neg z
      rw [ez, e1, if_neg z]
      rfl
  | ife a b c ta tb tc iha ihb ihc =>
    intro n
    show pw_tx 16 ++ (pw_e pw_al (pc_t CL ρ σ a n) ++ (pw_tx 17 ++ (pw_e pw_al (pc_t CL ρ σ b (n + pc_sz CL a)) ++ (pw_tx 18 ++ (pw_e pw_al (pc_t CL ρ σ c (n + pc_sz CL a + pc_sz CL b)) ++ pw_tx 12))))) = _
    rw [iha, ihb, ihc]
    rfl
  | lt v x a b ta tb iha ihb =>
    intro n
    show pw_tx 19 ++ (pw_nm x ++ (pw_tx 2 ++ (pw_e pw_al (pc_t CL ρ σ a n) ++ (pw_tx 20 ++ (pw_e pw_al (pc_t CL ρ σ b (n + pc_sz CL a)) ++ pw_tx 12))))) = _
    rw [iha, ihb]
    rfl
  | op s a b ta tb iha ihb =>
    intro n
    show pw_tx 14 ++ (pw_e pw_al (pc_t CL ρ σ a n) ++ ([s] ++ (pw_e pw_al (pc_t CL ρ σ b (n + pc_sz CL a)) ++ pw_tx 12))) = _
    rw [iha, ihb]
    rfl
  | site s a b ta tb iha ihb =>
    intro n
    show pw_tx 14 ++ (pw_e pw_al (pc_t CL ρ σ a n) ++ (pw_tx 1 ++ (pw_e pw_al (pc_t CL ρ σ b (n + pc_sz CL a)) ++ pw_tx 12))) = _
    rw [iha, ihb]
    rfl
theorem pw_back_g (M CL : Nat → Bool) (ρ σ : Nat → Nat) : ∀ (gs : ps_G) (g n g' : Nat), (∀ j, j < gs.length → pt_tw (pn_tr gs (pt_num 0) j)) → pw_g pw_al pw_al (pc_G M CL ρ σ gs g n) g' = pw_g M CL gs g := by
  intro gs
  induction gs with
  | nil => intro g n g' _; rfl
  | cons e q ih =>
    intro g n g' hj
    obtain ⟨x, v, u⟩ := e
    have tu : pt_tw u := hj 0 (Nat.zero_lt_succ _)
    have hj' : ∀ j, j < q.length → pt_tw (pn_tr q (pt_num 0) j) := fun j h => hj (j + 1) (Nat.succ_lt_succ h)
    have e1 : pw_g M CL ((x, v, u) :: q) g = (if M g = true then pw_tx 0 ++ (pw_nm x ++ (pw_tx 1 ++ (pw_nm v ++ (pw_tx 2 ++ ((if CL g = true then pw_e CL u else pw_tx 10) ++ pw_tx 3))))) else []) ++ pw_g M CL q (g + 1) := rfl
    by_cases zM : M g = true
    · have eG : pc_G M CL ρ σ ((x, v, u) :: q) g n = (x, v, if CL g = true then pc_t CL ρ σ u n else pt_dead n) :: pc_G M CL ρ σ q (g + 1) (n + if CL g = true then pc_sz CL u else 1) := if_pos zM
      rw [eG, e1, if_pos zM]
      show (pw_tx 0 ++ (pw_nm x ++ (pw_tx 1 ++ (pw_nm v ++ (pw_tx 2 ++ (pw_e pw_al (if CL g = true then pc_t CL ρ σ u n else pt_dead n) ++ pw_tx 3)))))) ++ pw_g pw_al pw_al (pc_G M CL ρ σ q (g + 1) (n + if CL g = true then pc_sz CL u else 1)) (g' + 1) = _
      rw [ih _ _ _ hj']
      by_cases zC : CL g = true
      · rw [if_pos zC, if_pos zC, pw_back CL ρ σ u tu n]
      · rw [if_neg zC, if_neg zC]
        rfl
    · have eG : pc_G M CL ρ σ ((x, v, u) :: q) g n = pc_G M CL ρ σ q (g + 1) n := if_neg zM
      rw [eG, e1, if_neg zM, List.nil_append]
      exact ih _ _ _ hj'
theorem pw_back_pr {M CL SV LV : Nat → Bool} {gs : ps_G} {t : pt_T} {la li si nd : Nat} (hV : pn_V gs t la li si nd) : pw_pr pw_al pw_al (pc_G M CL (pc_ρ M LV) (pc_rk SV) gs 0 0) (pc_t CL (pc_ρ M LV) (pc_rk SV) t (pc_N M CL gs 0 0)) = pw_pr M CL gs t := by
  obtain ⟨v1, v2, v3, v4, v5, v6, v7, k1, v8, v9⟩ := hV
  unfold pw_pr
  have tw := fun g => pn_tr_tw (t := pt_num 0) trivial gs [] _ _ v8 g
  rw [pw_back _ _ _ t v6, pw_back_g _ _ _ _ gs 0 0 0 (fun j _ => tw j)]
