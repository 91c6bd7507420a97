/-! a long as a natural number -/
def uNat (z : Int) : Nat := (BitVec.ofInt 64 z).toNat
theorem u_of (a : Int64) : uNat a.toInt = a.toBitVec.toNat := by
  unfold uNat
  congr 1
  show BitVec.ofInt 64 a.toBitVec.toInt = _
  exact BitVec.ofInt_toInt
theorem u_and (x y : Int) : uNat (and64 x y) = uNat x &&& uNat y := by
  unfold and64
  rw [u_of, Int64.toBitVec_and, BitVec.toNat_and]
  rfl
theorem u_ushr {v : Int} {p : Nat} (hp : p < 64) : uNat (ushr64 v (p : Int)) = uNat v / 2 ^ p := by
  unfold ushr64
  obtain ⟨h1, h2⟩ := sh_u ⟨p, hp⟩
  dsimp only at h1 h2
  rw [h1, u_of]
  have e : ((Int64.ofInt v).toUInt64 >>> UInt64.ofNat p).toBitVec = (Int64.ofInt v).toUInt64.toBitVec >>> ((UInt64.ofNat p).toBitVec % 64).toNat := by
    rw [UInt64.toBitVec_shiftRight]
    rfl
  have e2 : ((Int64.ofInt v).toUInt64 >>> UInt64.ofNat p).toInt64.toBitVec = ((Int64.ofInt v).toUInt64 >>> UInt64.ofNat p).toBitVec := rfl
  rw [e2, e, BitVec.toNat_ushiftRight, h2, Nat.shiftRight_eq_div_pow]
  rfl
theorem u_lt (z : Int) : uNat z < 18446744073709551616 := (BitVec.ofInt 64 z).isLt
theorem u_mod (z : Int) : ((uNat z : Int) - z) % 18446744073709551616 = 0 := by
  unfold uNat
  rw [BitVec.toNat_ofInt]
  omega
noncomputable def pB1 (v : Int) : Int := v - and64 (ushr64 v 1) 6148914691236517205
noncomputable def pB2 (v : Int) : Int := and64 (pB1 v) 3689348814741910323 + and64 (ushr64 (pB1 v) 2) 3689348814741910323
noncomputable def pB3 (v : Int) : Int := and64 (pB2 v + ushr64 (pB2 v) 4) 1085102592571150095
noncomputable def pB4 (v : Int) : Int := pB3 v + ushr64 (pB3 v) 8
noncomputable def pB5 (v : Int) : Int := pB4 v + ushr64 (pB4 v) 16
noncomputable def pB6 (v : Int) : Int := pB5 v + ushr64 (pB5 v) 32
theorem bC_fold (v : Int) : J13_bitCount v = some (and32 (l2i (pB6 v)) 127) := by
  unfold J13_bitCount pB6 pB5 pB4 pB3 pB2 pB1
  rfl
theorem mk_85 : mkM 85 8 = 6148914691236517205 := by decide +kernel
theorem mk_51 : mkM 51 8 = 3689348814741910323 := by decide +kernel
theorem mk_15 : mkM 15 8 = 1085102592571150095 := by decide +kernel
theorem u_85 : uNat 6148914691236517205 = mkM 85 8 := by decide +kernel
theorem u_51 : uNat 3689348814741910323 = mkM 51 8 := by decide +kernel
theorem u_15 : uNat 1085102592571150095 = mkM 15 8 := by decide +kernel
theorem u_pB1 (v : Int) : uNat (pB1 v) = pS1 8 (uNat v) := by
  have h1 := u_mod (pB1 v)
  have h2 := u_mod v
  have h3 := u_mod (and64 (ushr64 v 1) 6148914691236517205)
  have e : uNat (and64 (ushr64 v 1) 6148914691236517205) = uNat v / 2 &&& mkM 85 8 := by
    have := u_ushr (v := v) (p := 1) (by decide)
    rw [u_and, u_85]
    rw [show ushr64 v 1 = ushr64 v ((1 : Nat) : Int) from rfl, this]
  have l : (uNat v / 2 &&& mkM 85 8) ≤ uNat v / 2 := Nat.and_le_left
  have b1 := u_lt (pB1 v)
  have b2 := u_lt v
  unfold pS1
  unfold pB1 at h1 b1 ⊢
  rw [e] at h3
  generalize (uNat v / 2 &&& mkM 85 8) = w at h3 l ⊢
  omega
theorem u_pB2 (v : Int) : uNat (pB2 v) = pS2 8 (pS1 8 (uNat v)) := by
  have h1 := u_mod (pB2 v)
  have h2 := u_mod (and64 (pB1 v) 3689348814741910323)
  have h3 := u_mod (and64 (ushr64 (pB1 v) 2) 3689348814741910323)
  have e1 : uNat (and64 (pB1 v) 3689348814741910323) = pS1 8 (uNat v) &&& mkM 51 8 := by rw [u_and, u_51, u_pB1]
  have e2 : uNat (and64 (ushr64 (pB1 v) 2) 3689348814741910323) = pS1 8 (uNat v) / 4 &&& mkM 51 8 := by
    have := u_ushr (v := pB1 v) (p := 2) (by decide)
    rw [u_and, u_51]
    rw [show ushr64 (pB1 v) 2 = ushr64 (pB1 v) ((2 : Nat) : Int) from rfl, this, u_pB1]
  have l1 : (pS1 8 (uNat v) &&& mkM 51 8) ≤ 3689348814741910323 := by
    rw [← mk_51]
    exact Nat.and_le_right
  have l2 : (pS1 8 (uNat v) / 4 &&& mkM 51 8) ≤ 3689348814741910323 := by
    rw [← mk_51]
    exact Nat.and_le_right
  have b1 := u_lt (pB2 v)
  unfold pS2
  unfold pB2 at h1 b1 ⊢
  rw [e1] at h2
  rw [e2] at h3
  generalize (pS1 8 (uNat v) &&& mkM 51 8) = w at h2 l1 ⊢
  generalize (pS1 8 (uNat v) / 4 &&& mkM 51 8) = y at h3 l2 ⊢
  omega
theorem pS2_le (v : Int) : pS2 8 (pS1 8 (uNat v)) ≤ 7378697629483820646 := by
  unfold pS2
  have l1 : (pS1 8 (uNat v) &&& mkM 51 8) ≤ 3689348814741910323 := by
    rw [← mk_51]
    exact Nat.and_le_right
  have l2 : (pS1 8 (uNat v) / 4 &&& mkM 51 8) ≤ 3689348814741910323 := by
    rw [← mk_51]
    exact Nat.and_le_right
  omega
theorem u_pB3 (v : Int) : uNat (pB3 v) = pcS 8 (uNat v) := by
  have hb := u_lt v
  have hz : pSd 8 (uNat v) = 0 := by
    have e : pSd 8 (uNat v) = uNat v / 256 / 256 / 256 / 256 / 256 / 256 / 256 / 256 := rfl
    rw [e]
    omega
  have key := (pS_all 8 (uNat v) hz).1
  have l := pS2_le v
  have e1 := u_ushr (v := pB2 v) (p := 4) (by decide)
  have h1 := u_mod (pB2 v + ushr64 (pB2 v) 4)
  have h2 := u_mod (pB2 v)
  have h3 := u_mod (ushr64 (pB2 v) 4)
  have b1 := u_lt (pB2 v + ushr64 (pB2 v) 4)
  rw [show ushr64 (pB2 v) ((4 : Nat) : Int) = ushr64 (pB2 v) 4 from rfl, u_pB2] at e1
  rw [u_pB2] at h2
  rw [e1] at h3
  have es : uNat (pB2 v + ushr64 (pB2 v) 4) = pS2 8 (pS1 8 (uNat v)) + pS2 8 (pS1 8 (uNat v)) / 16 := by
    generalize pS2 8 (pS1 8 (uNat v)) = w at l h2 h3 ⊢
    omega
  unfold pB3
  rw [u_and, u_15, es, ← key]
  rfl
