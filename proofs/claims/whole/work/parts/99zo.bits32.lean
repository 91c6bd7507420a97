/-! sets of places in an int -/
theorem ofInt_nat {a : Nat} (h : a < 4294967296) : (BitVec.ofInt 32 (a : Int)).toNat = a := by
  rw [BitVec.toNat_ofInt]
  omega
theorem or32_n {a b : Nat} (ha : a < 2147483648) (hb : b < 2147483648) : or32 (a : Int) (b : Int) = ((a ||| b : Nat) : Int) := by
  unfold or32
  have e : (Int32.ofInt (a : Int) ||| Int32.ofInt (b : Int)).toBitVec.toNat = a ||| b := by
    rw [Int32.toBitVec_or, BitVec.toNat_or]
    show (BitVec.ofInt 32 (a : Int)).toNat ||| (BitVec.ofInt 32 (b : Int)).toNat = _
    rw [ofInt_nat (by omega), ofInt_nat (by omega)]
  have l : a ||| b < 2 ^ 31 := Nat.or_lt_two_pow (n := 31) (by omega) (by omega)
  show (Int32.ofInt (a : Int) ||| Int32.ofInt (b : Int)).toBitVec.toInt = _
  rw [BitVec.toInt_eq_toNat_of_lt (by rw [e]; omega), e]
theorem and32_n {a b : Nat} (ha : a < 2147483648) (hb : b < 2147483648) : and32 (a : Int) (b : Int) = ((a &&& b : Nat) : Int) := by
  unfold and32
  have e : (Int32.ofInt (a : Int) &&& Int32.ofInt (b : Int)).toBitVec.toNat = a &&& b := by
    rw [Int32.toBitVec_and, BitVec.toNat_and]
    show (BitVec.ofInt 32 (a : Int)).toNat &&& (BitVec.ofInt 32 (b : Int)).toNat = _
    rw [ofInt_nat (by omega), ofInt_nat (by omega)]
  have l : a &&& b ≤ a := Nat.and_le_left
  show (Int32.ofInt (a : Int) &&& Int32.ofInt (b : Int)).toBitVec.toInt = _
  rw [BitVec.toInt_eq_toNat_of_lt (by rw [e]; omega), e]
theorem n1_32 : (BitVec.ofInt 32 (-1)).toNat = 4294967295 := by decide
theorem xor_n1 {b : Nat} (hb : b < 2147483648) : (BitVec.ofInt 32 (xor32 (b : Int) (-1))).toNat = b ^^^ 4294967295 := by
  unfold xor32
  show (BitVec.ofInt 32 (Int32.ofInt (b : Int) ^^^ Int32.ofInt (-1)).toBitVec.toInt).toNat = _
  rw [BitVec.ofInt_toInt, Int32.toBitVec_xor, BitVec.toNat_xor]
  show (BitVec.ofInt 32 (b : Int)).toNat ^^^ (BitVec.ofInt 32 (-1)).toNat = _
  rw [ofInt_nat (by omega), n1_32]
theorem andn_n {a b : Nat} (ha : a < 2147483648) (hb : b < 2147483648) : and32 (a : Int) (xor32 (b : Int) (-1)) = ((a &&& (b ^^^ 4294967295) : Nat) : Int) := by
  unfold and32
  have e : (Int32.ofInt (a : Int) &&& Int32.ofInt (xor32 (b : Int) (-1))).toBitVec.toNat = a &&& (b ^^^ 4294967295) := by
    rw [Int32.toBitVec_and, BitVec.toNat_and]
    show (BitVec.ofInt 32 (a : Int)).toNat &&& (BitVec.ofInt 32 (xor32 (b : Int) (-1))).toNat = _
    rw [ofInt_nat (by omega), xor_n1 hb]
  have l : a &&& (b ^^^ 4294967295) ≤ a := Nat.and_le_left
  show (Int32.ofInt (a : Int) &&& Int32.ofInt (xor32 (b : Int) (-1))).toBitVec.toInt = _
  rw [BitVec.toInt_eq_toNat_of_lt (by rw [e]; omega), e]
theorem shl32_t : ∀ y : Fin 30, shl32 1 ((y.val : Nat) : Int) = ((2 ^ y.val : Nat) : Int) := by decide +kernel
theorem shl32_n {y : Nat} (hy : y < 30) : shl32 1 (y : Int) = ((2 ^ y : Nat) : Int) := shl32_t ⟨y, hy⟩
/-- a number that says of each place whether it is in -/
def BSt (v : Int) (f : Nat → Bool) : Prop := ∃ u : Nat, v = (u : Int) ∧ u < 1073741824 ∧ ∀ i, u.testBit i = f i
theorem BSt_eq {v w : Int} {f : Nat → Bool} (H : BSt v f) (G : BSt w f) : v = w := by
  obtain ⟨u, rfl, -, hu⟩ := H
  obtain ⟨t, rfl, -, ht⟩ := G
  have : u = t := Nat.eq_of_testBit_eq (fun i => by rw [hu, ht])
  rw [this]
theorem BSt_cg {v : Int} {f g : Nat → Bool} (h : ∀ i, f i = g i) (H : BSt v f) : BSt v g := by
  obtain ⟨u, e, l, hu⟩ := H
  exact ⟨u, e, l, fun i => by rw [hu, h]⟩
theorem BSt_w {v : Int} {f : Nat → Bool} (H : BSt v f) : w32 v = v ∧ 0 ≤ v ∧ v < 1073741824 := by
  obtain ⟨u, rfl, l, hu⟩ := H
  exact ⟨w32_id (by omega) (by omega), by omega, by omega⟩
theorem BSt_0 : BSt 0 (fun _ => false) := ⟨0, rfl, by omega, fun i => Nat.zero_testBit i⟩
theorem BSt_or {v w : Int} {f g : Nat → Bool} (H : BSt v f) (G : BSt w g) : BSt (or32 v w) (fun i => f i || g i) := by
  obtain ⟨u, rfl, lu, hu⟩ := H
  obtain ⟨t, rfl, lt, ht⟩ := G
  have l : u ||| t < 2 ^ 30 := Nat.or_lt_two_pow (n := 30) (by omega) (by omega)
  exact ⟨u ||| t, or32_n (by omega) (by omega), by omega, fun i => by rw [Nat.testBit_or, hu, ht]⟩
theorem BSt_and {v w : Int} {f g : Nat → Bool} (H : BSt v f) (G : BSt w g) : BSt (and32 v w) (fun i => f i && g i) := by
  obtain ⟨u, rfl, lu, hu⟩ := H
  obtain ⟨t, rfl, lt, ht⟩ := G
  have l : u &&& t ≤ u := Nat.and_le_left
  exact ⟨u &&& t, and32_n (by omega) (by omega), by omega, fun i => by rw [Nat.testBit_and, hu, ht]⟩
theorem BSt_an {v w : Int} {f g : Nat → Bool} (H : BSt v f) (G : BSt w g) : BSt (and32 v (xor32 w (-1))) (fun i => f i && !g i) := by
  obtain ⟨u, rfl, lu, hu⟩ := H
  obtain ⟨t, rfl, lt, ht⟩ := G
  have l : u &&& (t ^^^ 4294967295) ≤ u := Nat.and_le_left
  refine ⟨u &&& (t ^^^ 4294967295), andn_n (by omega) (by omega), by omega, fun i => ?_⟩
  rw [Nat.testBit_and, Nat.testBit_xor, hu, ht, show (4294967295 : Nat) = 2 ^ 32 - 1 from by decide, Nat.testBit_two_pow_sub_one]
  by_cases c : i < 32
  · simp [c]
  · have : f i = false := by
      rw [← hu]
      exact Nat.testBit_lt_two_pow (Nat.lt_of_lt_of_le (show u < 2 ^ 30 by omega) (Nat.pow_le_pow_right (by decide) (by omega)))
    dsimp only
    rw [this, Bool.false_and, Bool.false_and]
theorem BSt_sh {y : Nat} (hy : y < 30) : BSt (shl32 1 (y : Int)) (fun i => decide (i = y)) := by
  refine ⟨2 ^ y, shl32_n hy, ?_, fun i => ?_⟩
  · have := Nat.pow_lt_pow_right (a := 2) (by decide) hy
    have e : (2 : Nat) ^ 30 = 1073741824 := by decide
    omega
  · rw [Nat.testBit_two_pow]
    by_cases c : y = i
    · simp [c]
    · have d : ¬ i = y := fun q => c q.symm
      simp [c, d]
theorem BSt_z {v : Int} {f : Nat → Bool} (H : BSt v f) : (v = 0) ↔ ∀ i, f i = false := by
  constructor
  · intro h i
    obtain ⟨u, rfl, l, hu⟩ := H
    have : u = 0 := by omega
    rw [← hu, this, Nat.zero_testBit]
  · intro h
    exact BSt_eq (BSt_cg h H) BSt_0
theorem BSt_bit {v : Int} {f : Nat → Bool} {i : Nat} (H : BSt v f) (hi : i < 30) : and32 (ushr32 v (i : Int)) 1 = if f i = true then 1 else 0 := by
  obtain ⟨u, rfl, l, hu⟩ := H
  have d : u / 2 ^ i ≤ u := Nat.div_le_self _ _
  have e := and32_n (a := u / 2 ^ i) (b := 1) (by omega) (by omega)
  rw [ushr32_n (by omega) (by omega), show and32 ((u / 2 ^ i : Nat) : Int) 1 = and32 ((u / 2 ^ i : Nat) : Int) ((1 : Nat) : Int) from rfl, e, Nat.and_one_is_mod, ← hu, Nat.testBit_eq_decide_div_mod_eq]
  by_cases c : u / 2 ^ i % 2 = 1
  · rw [c]
    simp
  · have : u / 2 ^ i % 2 = 0 := by omega
    rw [this]
    simp
theorem BSt_has {v : Int} {f : Nat → Bool} {i : Nat} (H : BSt v f) (hi : i < 30) : X12_has (w32 v) (i : Int) = some (if f i = true then 1 else 0) := by
  rw [(BSt_w H).1]
  obtain ⟨u, rfl, l, hu⟩ := H
  rw [has_m (by omega), tb_u]
  have e : uNat (u : Int) = u := by
    have a := u_mod (u : Int)
    have b := u_lt (u : Int)
    omega
  rw [e, hu]
/-- the lowest place that is in -/
theorem ntz_t : ∀ u : Fin 256, u.val ≠ 0 → (match J6_numberOfTrailingZeros ((u.val : Nat) : Int) with
    | some r => decide (0 ≤ r ∧ r < 8 ∧ u.val.testBit r.toNat = true)
    | none => false) = true := by decide +kernel
theorem ntz_s {v : Int} {f : Nat → Bool} (H : BSt v f) (h8 : ∀ i, 8 ≤ i → f i = false) (hne : v ≠ 0) : ∃ r : Nat, r < 8 ∧ f r = true ∧ J6_numberOfTrailingZeros v = some (r : Int) := by
  obtain ⟨u, rfl, l, hu⟩ := H
  have l8 : u < 2 ^ 8 := Nat.lt_pow_two_of_testBit u (fun i hi => by rw [hu, h8 i hi])
  have t := ntz_t ⟨u, by omega⟩ (by dsimp only; omega)
  dsimp only at t
  cases e : J6_numberOfTrailingZeros (u : Int) with
  | none =>
    rw [e] at t
    cases t
  | some r =>
    rw [e] at t
    dsimp only at t
    rw [decide_eq_true_iff] at t
    obtain ⟨q, rfl⟩ := Int.eq_ofNat_of_zero_le t.1
    exact ⟨q, by omega, by rw [← hu]; exact t.2.2, rfl⟩
