/-! feed() and end() -/
theorem lw_byte (X : BitVec 32) (s : Nat) (hs : s ≤ 24) : ((X.sshiftRight s).signExtend 8).toInt = pm_sb ((((X >>> s) &&& 255#32).toNat : Nat) : Int) ∧ ((X >>> s) &&& 255#32).toNat < 256 := by
  have e : ((X.sshiftRight s).signExtend 8).toNat = ((X >>> s) &&& 255#32).toNat := by
    have e1 : ((X.sshiftRight s).signExtend 8).setWidth 32 = (X >>> s) &&& 255#32 := by
      apply BitVec.eq_of_getLsbD_eq
      intro i hi
      have h255 : (255#32).getLsbD i = decide (i < 8) := by
        have : ∀ i : Fin 32, (255#32).getLsbD i.val = decide (i.val < 8) := by decide
        exact this ⟨i, hi⟩
      rw [BitVec.getLsbD_setWidth, BitVec.getLsbD_and, h255, BitVec.getLsbD_ushiftRight, BitVec.getLsbD_signExtend, BitVec.getLsbD_sshiftRight]
      by_cases z : i < 8
      · rw [if_pos (by omega), if_pos (by omega)]
        simp [z, hi, show ¬ 32 ≤ i by omega]
      · simp [z]
    have e2 := congrArg BitVec.toNat e1
    rw [BitVec.toNat_setWidth] at e2
    have := ((X.sshiftRight s).signExtend 8).isLt
    rw [Nat.mod_eq_of_lt (by omega)] at e2
    exact e2
  have l8 := ((X.sshiftRight s).signExtend 8).isLt
  refine ⟨?_, by rw [← e]; exact l8⟩
  rw [BitVec.toInt_eq_toNat_cond, ← e]
  unfold pm_sb
  by_cases z : ((X.sshiftRight s).signExtend 8).toNat < 128
  · rw [if_pos (by omega), if_pos (by omega)]
  · rw [if_neg (by omega), if_neg (by omega)]
    omega
theorem lw_I32 (Y : Int32) : fa_I Y.toInt = Y := Int32.ofInt_toInt Y
theorem lw_i2b2 (Y : Int32) : fa_i2b (fa_i2b Y.toInt) = (Y.toBitVec.signExtend 8).toInt := by
  unfold fa_i2b
  rw [lw_I32, lw_I32]
  have : ∀ Z : Int8, Z.toInt32.toInt8 = Z := fun Z => by simp
  rw [this]
  have h2 : ∀ Z : Int8, Z.toInt32.toInt = Z.toInt := fun Z => by simp
  rw [h2]
  rfl
theorem lw_fb (a : Int) (s : Nat) (hs : s = 24 ∨ s = 16 ∨ s = 8 ∨ s = 0) : ∃ x : Nat, x < 256 ∧ fa_iand (fa_iushr a (s : Int)) 255 = (x : Int) ∧ fa_i2b (fa_i2b (fa_ishr a (s : Int))) = pm_sb (x : Int) := by
  obtain ⟨X, hX⟩ : ∃ X, X = fa_I a := ⟨_, rfl⟩
  have key : s ≤ 24 := by omega
  obtain ⟨b1, b2⟩ := lw_byte X.toBitVec s key
  refine ⟨((X.toBitVec >>> s) &&& 255#32).toNat, b2, ?_, ?_⟩
  · have e1 : ((fa_I a).toUInt32 >>> ((fa_I (s : Int)).toUInt32 &&& Int32.toUInt32 31)).toInt32.toBitVec = X.toBitVec >>> s := by
      rw [← hX]
      rcases hs with h | h | h | h <;> subst h <;> rfl
    have e2 : (((fa_I a).toUInt32 >>> ((fa_I (s : Int)).toUInt32 &&& Int32.toUInt32 31)).toInt32 &&& fa_I 255).toBitVec = (X.toBitVec >>> s) &&& 255#32 := by
      rw [Int32.toBitVec_and, e1]
      rfl
    unfold fa_iand fa_iushr
    rw [lw_I32]
    show BitVec.toInt (((fa_I a).toUInt32 >>> ((fa_I (s : Int)).toUInt32 &&& Int32.toUInt32 31)).toInt32 &&& fa_I 255).toBitVec = _
    rw [e2, BitVec.toInt_eq_toNat_cond, if_pos (by omega)]
  · have e1 : (fa_I a >>> (fa_I (s : Int) &&& 31)).toBitVec = X.toBitVec.sshiftRight s := by
      rw [← hX]
      rcases hs with h | h | h | h <;> subst h <;> rfl
    unfold fa_ishr
    rw [lw_i2b2, e1, b1]
