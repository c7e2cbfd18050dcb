/-! ===== bytes of a number ===== -/
theorem bv_nat (a : Int) : (Int32.ofInt a).toBitVec.toNat = (a % 4294967296).toNat := by
  show (BitVec.ofInt 32 a).toNat = _
  rw [BitVec.toNat_ofInt]
  rfl
theorem ian_mod (a : Int) : ian a 255 = a % 256 := by
  unfold ian
  have h : (Int32.ofInt a &&& Int32.ofInt 255).toBitVec.toNat = (a % 256).toNat := by
    rw [Int32.toBitVec_and, BitVec.toNat_and, bv_nat, bv_nat]
    rw [show ((255 : Int) % 4294967296).toNat = 2 ^ 8 - 1 from rfl, Nat.and_two_pow_sub_one_eq_mod]
    omega
  show (Int32.ofInt a &&& Int32.ofInt 255).toBitVec.toInt = _
  rw [BitVec.toInt_eq_toNat_of_lt (by rw [h]; omega), h]
  omega
theorem itb_mod (a : Int) : itb a % 256 = a % 256 := by
  unfold itb
  rw [Int8.toInt_toInt32, Int32.toInt_toInt8, Int32.toInt_ofInt]
  have h1 := Int.bmod_emod (x := (a.bmod Int32.size)) (m := 2 ^ 8)
  have h2 := Int.bmod_emod (x := a) (m := Int32.size)
  have e8 : ((2 ^ 8 : Nat) : Int) = 256 := rfl
  have e32 : ((Int32.size : Nat) : Int) = 4294967296 := rfl
  rw [e8] at h1
  rw [e32] at h2
  rw [h1]
  omega
theorem isr_val (v : Int) (hv : inR v) {s : Int} (n : Nat) (hs : ((Int32.ofInt s &&& 31).toBitVec.smod 32).toNat = n) : isr v s = v >>> n := by
  unfold isr
  show (Int32.ofInt v >>> (Int32.ofInt s &&& 31)).toBitVec.toInt = _
  rw [Int32.toBitVec_shiftRight]
  show ((Int32.ofInt v).toBitVec.sshiftRight ((Int32.ofInt s &&& 31).toBitVec.smod 32).toNat).toInt = _
  rw [BitVec.toInt_sshiftRight, hs]
  show (Int32.ofInt v).toInt >>> n = _
  rw [ofInt_toInt hv]
theorem ius_mod (v : Int) {s : Int} (n : Nat) (hs : ((Int32.ofInt s).toUInt32 &&& Int32.toUInt32 31).toNat % 32 = n) : ius v s % 256 = v % 4294967296 / ((2 ^ n : Nat) : Int) % 256 := by
  unfold ius
  have h : (((Int32.ofInt v).toUInt32 >>> ((Int32.ofInt s).toUInt32 &&& Int32.toUInt32 31))).toNat = (v % 4294967296).toNat / 2 ^ n := by
    rw [UInt32.toNat_shiftRight, hs, Nat.shiftRight_eq_div_pow]
    exact congrArg (· / 2 ^ n) (bv_nat v)
  show (((Int32.ofInt v).toUInt32 >>> ((Int32.ofInt s).toUInt32 &&& Int32.toUInt32 31))).toBitVec.toInt % 256 = _
  rw [BitVec.toInt_eq_toNat_bmod]
  have h1 := Int.bmod_emod (x := ((((Int32.ofInt v).toUInt32 >>> ((Int32.ofInt s).toUInt32 &&& Int32.toUInt32 31))).toBitVec.toNat : Int)) (m := 2 ^ 32)
  have e8 : ((2 ^ 32 : Nat) : Int) = 4294967296 := rfl
  rw [e8] at h1
  have h2 : (((((Int32.ofInt v).toUInt32 >>> ((Int32.ofInt s).toUInt32 &&& Int32.toUInt32 31))).toBitVec.toNat : Nat) : Int) = v % 4294967296 / ((2 ^ n : Nat) : Int) := by
    have h3 : (((Int32.ofInt v).toUInt32 >>> ((Int32.ofInt s).toUInt32 &&& Int32.toUInt32 31))).toBitVec.toNat = (v % 4294967296).toNat / 2 ^ n := h
    rw [h3, Int.natCast_ediv]
    rw [show (((v % 4294967296).toNat : Nat) : Int) = v % 4294967296 by omega]
  rw [h2] at h1 ⊢
  omega
/-- the same byte, in the class and in the model -/
theorem byte_same (v : Int) (hv : inR v) {s : Int} (hs : s = 24 ∨ s = 16 ∨ s = 8 ∨ s = 0) : ian (itb (itb (isr v s))) 255 = ian (ius v s) 255 := by
  rw [ian_mod, ian_mod, itb_mod, itb_mod]
  rcases hs with rfl | rfl | rfl | rfl
  · rw [isr_val v hv 24 (by decide), ius_mod v 24 (by decide), Int.shiftRight_eq_div_pow]
    show v / 16777216 % 256 = v % 4294967296 / 16777216 % 256
    omega
  · rw [isr_val v hv 16 (by decide), ius_mod v 16 (by decide), Int.shiftRight_eq_div_pow]
    show v / 65536 % 256 = v % 4294967296 / 65536 % 256
    omega
  · rw [isr_val v hv 8 (by decide), ius_mod v 8 (by decide), Int.shiftRight_eq_div_pow]
    show v / 256 % 256 = v % 4294967296 / 256 % 256
    omega
  · rw [isr_val v hv 0 (by decide), ius_mod v 0 (by decide), Int.shiftRight_eq_div_pow]
    show v / 1 % 256 = v % 4294967296 / 1 % 256
    omega
