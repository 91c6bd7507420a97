def pcN : Nat → Nat → Nat
  | 0, _ => 0
  | k + 1, x => pcB (x % 256) + pcN k (x / 256)
theorem pcB_le (b : Nat) : pcB b ≤ 8 := by
  unfold pcB
  omega
theorem l2i_mod (z : Int) : (l2i z - z) % 4294967296 = 0 := by
  unfold l2i
  rw [Int64.toInt_toInt32]
  have h : ((Int64.ofInt z).toInt - z) % 18446744073709551616 = 0 := by
    rw [Int64.toInt_ofInt]
    simp only [Int64.size, Int.bmod]
    split <;> omega
  generalize (Int64.ofInt z).toInt = y at h ⊢
  have : (y.bmod (2 ^ 32) - y) % 4294967296 = 0 := by
    simp only [Int.bmod]
    split <;> omega
  omega
theorem and127 (z : Int) : and32 z 127 = z % 128 := by
  unfold and32
  have e : (Int32.ofInt z &&& Int32.ofInt 127).toBitVec.toNat = (z % 4294967296).toNat % 128 := by
    rw [Int32.toBitVec_and, BitVec.toNat_and]
    show (BitVec.ofInt 32 z).toNat &&& 127 = _
    rw [BitVec.toNat_ofInt]
    exact Nat.and_two_pow_sub_one_eq_mod _ 7
  show (Int32.ofInt z &&& Int32.ofInt 127).toBitVec.toInt = _
  rw [BitVec.toInt_eq_toNat_of_lt (by omega), e]
  omega
theorem u_add8 {z : Int} {S p : Nat} (hp : p < 64) (h : uNat z = S) (hS : S + S / 2 ^ p < 18446744073709551616) : uNat (z + ushr64 z (p : Int)) = S + S / 2 ^ p := by
  have e1 := u_ushr (v := z) (p := p) hp
  rw [h] at e1
  have h1 := u_mod (z + ushr64 z (p : Int))
  have h2 := u_mod z
  have h3 := u_mod (ushr64 z (p : Int))
  have b1 := u_lt (z + ushr64 z (p : Int))
  rw [e1] at h3
  rw [h] at h2
  generalize S / 2 ^ p = y at h3 hS ⊢
  omega
