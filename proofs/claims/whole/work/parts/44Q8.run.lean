/-! count(): THINGS of BACK, by the reference -/
theorem lw_thingsOf {nf nv ns cl : Nat} {w : fa_W} (h24 : nf ≤ 24) (h53 : w 181 53 = (cl : Int)) (hcl : cl < 2 ^ 24) (t : pt_T) (tt : pt_tw t) : ∀ (h : Int) (a n : Nat), pm_H t h a w → a + pt_sz t ≤ 101 → pf_W nf nv ns t → pt_sz t ≤ n → fm_Mod_thingsOf n ((a + pt_sz t - 1 : Nat) : Int) w = some ((pc_sz (bk_M cl) t : Nat) : Int) := by
  induction t, tt using pt_indh with
  | num v =>
    intro h a n H ha _ hn
    have e : pt_sz (pt_num v) = 1 := rfl
    obtain ⟨n, rfl⟩ : ∃ m, n = m + 1 := ⟨n - 1, by omega⟩
    unfold fm_Mod_thingsOf fm_Mod_thingsOf_b
    rw [e, show a + 1 - 1 = a by omega, pb_ix (show a < 101 by omega) (by omega), Option.bind_some, H.1, if_neg (by decide), if_neg (by decide), if_neg (by decide), if_neg (by decide), if_neg (by decide)]
    rfl
  | var v x =>
    intro h a n H ha _ hn
    have e : pt_sz (pt_var v x) = 1 := rfl
    obtain ⟨n, rfl⟩ : ∃ m, n = m + 1 := ⟨n - 1, by omega⟩
    unfold fm_Mod_thingsOf fm_Mod_thingsOf_b
    rw [e, show a + 1 - 1 = a by omega, pb_ix (show a < 101 by omega) (by omega), Option.bind_some, H.1, if_neg (by decide), if_neg (by decide), if_neg (by decide), if_neg (by decide), if_neg (by decide)]
    rfl
  | glo g x =>
    intro h a n H ha _ hn
    have e : pt_sz (pt_glo g x) = 1 := rfl
    obtain ⟨n, rfl⟩ : ∃ m, n = m + 1 := ⟨n - 1, by omega⟩
    unfold fm_Mod_thingsOf fm_Mod_thingsOf_b
    rw [e, show a + 1 - 1 = a by omega, pb_ix (show a < 101 by omega) (by omega), Option.bind_some, H.1, if_neg (by decide), if_neg (by decide), if_neg (by decide), if_neg (by decide), if_neg (by decide)]
    rfl
  | dead d =>
    intro h a n H ha _ hn
    have e : pt_sz (pt_dead d) = 1 := rfl
    obtain ⟨n, rfl⟩ : ∃ m, n = m + 1 := ⟨n - 1, by omega⟩
    unfold fm_Mod_thingsOf fm_Mod_thingsOf_b
    rw [e, show a + 1 - 1 = a by omega, pb_ix (show a < 101 by omega) (by omega), Option.bind_some, H.1, if_neg (by decide), if_neg (by decide), if_neg (by decide), if_neg (by decide), if_neg (by decide)]
    rfl
  | lam f x b tb ih =>
    intro h a n H ha hW hn
    have e : pt_sz (pt_lam f x b) = pt_sz b + 1 := rfl
    obtain ⟨n, rfl⟩ : ∃ m, n = m + 1 := ⟨n - 1, by omega⟩
    obtain ⟨H1, H2, H3, H4, _⟩ := H
    have f24 : f < 24 := by have := hW.1; omega
    have i := ih (f : Int) a n H1 (by omega) hW.2 (by omega)
    unfold fm_Mod_thingsOf fm_Mod_thingsOf_b
    rw [e, show a + (pt_sz b + 1) - 1 = a + pt_sz b by omega, pb_ix (show a + pt_sz b < 101 by omega) (by omega), Option.bind_some, H2, if_pos (by decide), Option.bind_some, H3, h53, pf_hd (by omega) (by omega)]
    show _ = some (((if bk_M cl f = true then pc_sz (bk_M cl) b + 1 else 2 : Nat)) : Int)
    by_cases z : cl.testBit f = true
    · rw [if_pos z, if_pos (show bk_M cl f = true from z), Option.bind_some, H3, pb_ix f24 (by omega), Option.bind_some, H4, i, Option.bind_some]
      congr 1
      omega
    · rw [if_neg z, if_neg (show ¬ bk_M cl f = true from z)]
      rfl
  | ife a0 b c ta tb tc iha ihb ihc =>
    intro h a n H ha hW hn
    have e : pt_sz (pt_ife a0 b c) = pt_sz a0 + pt_sz b + pt_sz c + 1 := rfl
    obtain ⟨n, rfl⟩ : ∃ m, n = m + 1 := ⟨n - 1, by omega⟩
    obtain ⟨H1, H2, H3, H4, H5, H6, H7⟩ := H
    have i1 := iha h a n H1 (by omega) hW.1 (by omega)
    have i2 := ihb h _ n H2 (by omega) hW.2.1 (by omega)
    have i3 := ihc h _ n H3 (by omega) hW.2.2 (by omega)
    unfold fm_Mod_thingsOf fm_Mod_thingsOf_b
    rw [e, show a + (pt_sz a0 + pt_sz b + pt_sz c + 1) - 1 = a + pt_sz a0 + pt_sz b + pt_sz c by omega, pb_ix (show a + pt_sz a0 + pt_sz b + pt_sz c < 101 by omega) (by omega), Option.bind_some, H4, if_neg (by decide), if_pos (by decide), Option.bind_some, H5, i1, Option.bind_some, Option.bind_some, H6, i2, Option.bind_some, Option.bind_some, H7, i3, Option.bind_some]
    show _ = some (((pc_sz (bk_M cl) a0 + pc_sz (bk_M cl) b + pc_sz (bk_M cl) c + 1 : Nat)) : Int)
    congr 1
    omega
  | lt v x a0 b ta tb iha ihb =>
    intro h a n H ha hW hn
    have e : pt_sz (pt_let v x a0 b) = pt_sz a0 + pt_sz b + 1 := rfl
    obtain ⟨n, rfl⟩ : ∃ m, n = m + 1 := ⟨n - 1, by omega⟩
    obtain ⟨H1, H2, H3, H4, H5, _⟩ := H
    have i1 := iha h a n H1 (by omega) hW.2.1 (by omega)
    have i2 := ihb h _ n H2 (by omega) hW.2.2 (by omega)
    unfold fm_Mod_thingsOf fm_Mod_thingsOf_b
    rw [e, show a + (pt_sz a0 + pt_sz b + 1) - 1 = a + pt_sz a0 + pt_sz b by omega, pb_ix (show a + pt_sz a0 + pt_sz b < 101 by omega) (by omega), Option.bind_some, H3, if_neg (by decide), if_neg (by decide), if_pos (by decide), Option.bind_some, H4, i1, Option.bind_some, Option.bind_some, H5, i2, Option.bind_some]
    show _ = some (((pc_sz (bk_M cl) a0 + pc_sz (bk_M cl) b + 1 : Nat)) : Int)
    congr 1
    omega
  | op s a0 b ta tb iha ihb =>
    intro h a n H ha hW hn
    have e : pt_sz (pt_op s a0 b) = pt_sz a0 + pt_sz b + 1 := rfl
    obtain ⟨n, rfl⟩ : ∃ m, n = m + 1 := ⟨n - 1, by omega⟩
    obtain ⟨H1, H2, H3, H4, H5, _⟩ := H
    have i1 := iha h a n H1 (by omega) hW.1 (by omega)
    have i2 := ihb h _ n H2 (by omega) hW.2 (by omega)
    unfold fm_Mod_thingsOf fm_Mod_thingsOf_b
    rw [e, show a + (pt_sz a0 + pt_sz b + 1) - 1 = a + pt_sz a0 + pt_sz b by omega, pb_ix (show a + pt_sz a0 + pt_sz b < 101 by omega) (by omega), Option.bind_some, H3, if_neg (by decide), if_neg (by decide), if_neg (by decide), if_pos (by decide), Option.bind_some, H4, i1, Option.bind_some, Option.bind_some, H5, i2, Option.bind_some]
    show _ = some (((pc_sz (bk_M cl) a0 + pc_sz (bk_M cl) b + 1 : Nat)) : Int)
    congr 1
    omega
  | site s a0 b ta tb iha ihb =>
    intro h a n H ha hW hn
    have e : pt_sz (pt_site s a0 b) = pt_sz a0 + pt_sz b + 1 := rfl
    obtain ⟨n, rfl⟩ : ∃ m, n = m + 1 := ⟨n - 1, by omega⟩
    obtain ⟨H1, H2, H3, H4, H5, _⟩ := H
    have i1 := iha h a n H1 (by omega) hW.2.1 (by omega)
    have i2 := ihb h _ n H2 (by omega) hW.2.2 (by omega)
    unfold fm_Mod_thingsOf fm_Mod_thingsOf_b
    rw [e, show a + (pt_sz a0 + pt_sz b + 1) - 1 = a + pt_sz a0 + pt_sz b by omega, pb_ix (show a + pt_sz a0 + pt_sz b < 101 by omega) (by omega), Option.bind_some, H3, if_neg (by decide), if_neg (by decide), if_neg (by decide), if_neg (by decide), if_pos (by decide), Option.bind_some, H4, i1, Option.bind_some, Option.bind_some, H5, i2, Option.bind_some]
    show _ = some (((pc_sz (bk_M cl) a0 + pc_sz (bk_M cl) b + 1 : Nat)) : Int)
    congr 1
    omega
