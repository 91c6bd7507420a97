/-! a long as a natural number -/
def uNat (z : Int) : Nat := (BitVec.ofInt 64 z).toNat
theorem u_of (a : Int64) : uNat a.toInt = a.toBitVec.toNat := by
  unfold uNat
  congr 1
  show BitVec.ofInt 64 a.toBitVec.toInt = _
  exact BitVec.ofInt_toInt
theorem u_and (x y : Int) : uNat (and64 x y) = uNat x &&& uNat y := by
  unfold and64
  rw [u_of, Int64.toBitVec_and, BitVec.toNat_and]
  rfl
theorem u_ushr {v : Int} {p : Nat} (hp : p < 64) : uNat (ushr64 v (p : Int)) = uNat v / 2 ^ p := by
  unfold ushr64
  obtain ⟨h1, h2⟩ := sh_u ⟨p, hp⟩
  dsimp only at h1 h2
  rw [h1, u_of]
  have e : ((Int64.ofInt v).toUInt64 >>> UInt64.ofNat p).toBitVec = (Int64.ofInt v).toUInt64.toBitVec >>> ((UInt64.ofNat p).toBitVec % 64).toNat := by
    rw [UInt64.toBitVec_shiftRight]
    rfl
  have e2 : ((Int64.ofInt v).toUInt64 >>> UInt64.ofNat p).toInt64.toBitVec = ((Int64.ofInt v).toUInt64 >>> UInt64.ofNat p).toBitVec := rfl
  rw [e2, e, BitVec.toNat_ushiftRight, h2, Nat.shiftRight_eq_div_pow]
  rfl
theorem u_lt (z : Int) : uNat z < 18446744073709551616 := (BitVec.ofInt 64 z).isLt
theorem u_mod (z : Int) : ((uNat z : Int) - z) % 18446744073709551616 = 0 := by
  unfold uNat
  rw [BitVec.toNat_ofInt]
  omega
