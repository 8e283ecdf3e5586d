/-! PHASE B. Bits of numbers that are not below 0 -/
theorem pb_I_nat (a : Nat) : (fa_I (a : Int)).toBitVec = BitVec.ofNat 32 a := by
  show BitVec.ofInt 32 (a : Int) = _
  exact BitVec.ofInt_natCast 32 a
theorem pb_bvI {x : BitVec 32} {a : Nat} (h : x.toNat = a) (ha : a < 2147483648) : x.toInt = (a : Int) := by
  rw [BitVec.toInt_eq_toNat_of_lt (by rw [h]; omega), h]
theorem pb_tn {a : Nat} (ha : a < 2147483648) : (BitVec.ofNat 32 a).toNat = a := by
  rw [BitVec.toNat_ofNat]
  exact Nat.mod_eq_of_lt (by omega)
theorem pb_or {a b : Nat} (ha : a < 2147483648) (hb : b < 2147483648) : fa_ior (a : Int) (b : Int) = ((a ||| b : Nat) : Int) := by
  show ((fa_I (a : Int)) ||| (fa_I (b : Int))).toBitVec.toInt = _
  have e : ((fa_I (a : Int)) ||| (fa_I (b : Int))).toBitVec = BitVec.ofNat 32 a ||| BitVec.ofNat 32 b := by
    rw [← pb_I_nat, ← pb_I_nat]; rfl
  rw [e]
  refine pb_bvI ?_ (Nat.or_lt_two_pow (n := 31) ha hb)
  rw [BitVec.toNat_or, pb_tn ha, pb_tn hb]
theorem pb_and {a b : Nat} (ha : a < 2147483648) (hb : b < 2147483648) : fa_iand (a : Int) (b : Int) = ((a &&& b : Nat) : Int) := by
  show ((fa_I (a : Int)) &&& (fa_I (b : Int))).toBitVec.toInt = _
  have e : ((fa_I (a : Int)) &&& (fa_I (b : Int))).toBitVec = BitVec.ofNat 32 a &&& BitVec.ofNat 32 b := by
    rw [← pb_I_nat, ← pb_I_nat]; rfl
  rw [e]
  refine pb_bvI ?_ (Nat.and_lt_two_pow (n := 31) a hb)
  rw [BitVec.toNat_and, pb_tn ha, pb_tn hb]
theorem pb_k31 : ∀ k : Fin 32, ((fa_I ((k.val : Nat) : Int)).toUInt32 &&& Int32.toUInt32 31).toNat = k.val := by decide +kernel
theorem pb_s31 : ∀ k : Fin 32, (((fa_I ((k.val : Nat) : Int)) &&& 31).toBitVec.smod 32).toNat = k.val := by decide +kernel
theorem pb_shr {a k : Nat} (ha : a < 2147483648) (hk : k < 32) : fa_iushr (a : Int) (k : Int) = ((a >>> k : Nat) : Int) := by
  have hs : a >>> k ≤ a := Nat.shiftRight_le a k
  refine pb_bvI (x := (((fa_I (a : Int)).toUInt32 >>> ((fa_I (k : Int)).toUInt32 &&& Int32.toUInt32 31)).toInt32).toBitVec) ?_ (by omega)
  show ((fa_I (a : Int)).toUInt32 >>> ((fa_I (k : Int)).toUInt32 &&& Int32.toUInt32 31)).toNat = _
  rw [UInt32.toNat_shiftRight]
  have e := pb_k31 ⟨k, hk⟩
  dsimp only at e
  rw [e, Nat.mod_eq_of_lt hk]
  congr 1
  show (fa_I (a : Int)).toBitVec.toNat = a
  rw [pb_I_nat, pb_tn ha]
theorem pb_shl {a k : Nat} (ha : a < 2147483648) (hs : a <<< k < 2147483648) (hk : k < 32) : fa_ishl (a : Int) (k : Int) = ((a <<< k : Nat) : Int) := by
  refine pb_bvI (x := ((fa_I (a : Int)) <<< ((fa_I (k : Int)) &&& 31)).toBitVec) ?_ hs
  show ((fa_I (a : Int)).toBitVec <<< (((fa_I (k : Int)) &&& 31).toBitVec.smod 32)).toNat = _
  rw [BitVec.shiftLeft_eq', BitVec.toNat_shiftLeft]
  have e := pb_s31 ⟨k, hk⟩
  dsimp only at e
  rw [e, pb_I_nat, pb_tn ha, Nat.mod_eq_of_lt (by omega)]
