/-! QUOTIENTS, SETS OF BITS -/
theorem div32_nn {x y : Int} (h1 : 0 ≤ x) (h2 : x < 2147483648) (h3 : 0 < y) (h4 : y < 2147483648) : div32 x y = x / y := by
  unfold div32
  have e1 : (Int32.ofInt x).toInt = x := Int32.toInt_ofInt_of_le (by omega) (by omega)
  have e2 : (Int32.ofInt y).toInt = y := Int32.toInt_ofInt_of_le (by omega) (by omega)
  rw [Int32.toInt_div, e1, e2, Int.tdiv_eq_ediv_of_nonneg h1]
  have a := Int.ediv_nonneg h1 (Int.le_of_lt h3)
  have b := Int.ediv_le_self y h1
  simp only [Int.bmod]
  split <;> omega
theorem rem32_nn {x y : Int} (h1 : 0 ≤ x) (h2 : x < 2147483648) (h3 : 0 < y) (h4 : y < 2147483648) : rem32 x y = x % y := by
  have e0 := div32_nn h1 h2 h3 h4
  unfold div32 at e0
  have a := Int.ediv_nonneg h1 (Int.le_of_lt h3)
  have b := Int.ediv_le_self y h1
  have c := Int.emod_nonneg x (Int.ne_of_gt h3)
  have d := Int.emod_lt_of_pos x h3
  have e := Int.emod_add_mul_ediv x y
  have f : Int32.ofInt x / Int32.ofInt y = Int32.ofInt (x / y) := by
    apply Int32.toInt_inj.mp
    rw [e0]
    exact (Int32.toInt_ofInt_of_le (by omega) (by omega)).symm
  unfold rem32
  rw [f, ← Int32.ofInt_mul, ← Int32.ofInt_sub]
  have g : x - x / y * y = x % y := by
    rw [Int.mul_comm]
    omega
  rw [g]
  exact Int32.toInt_ofInt_of_le (by omega) (by omega)
theorem div64_nn {x y : Int} (h1 : 0 ≤ x) (h2 : x < 9223372036854775808) (h3 : 0 < y) (h4 : y < 9223372036854775808) : div64 x y = x / y := by
  unfold div64
  have e1 : (Int64.ofInt x).toInt = x := Int64.toInt_ofInt_of_le (by omega) (by omega)
  have e2 : (Int64.ofInt y).toInt = y := Int64.toInt_ofInt_of_le (by omega) (by omega)
  rw [Int64.toInt_div, e1, e2, Int.tdiv_eq_ediv_of_nonneg h1]
  have a := Int.ediv_nonneg h1 (Int.le_of_lt h3)
  have b := Int.ediv_le_self y h1
  simp only [Int.bmod]
  split <;> omega
theorem rem64_nn {x y : Int} (h1 : 0 ≤ x) (h2 : x < 9223372036854775808) (h3 : 0 < y) (h4 : y < 9223372036854775808) : rem64 x y = x % y := by
  have e0 := div64_nn h1 h2 h3 h4
  unfold div64 at e0
  have a := Int.ediv_nonneg h1 (Int.le_of_lt h3)
  have b := Int.ediv_le_self y h1
  have c := Int.emod_nonneg x (Int.ne_of_gt h3)
  have d := Int.emod_lt_of_pos x h3
  have e := Int.emod_add_mul_ediv x y
  have f : Int64.ofInt x / Int64.ofInt y = Int64.ofInt (x / y) := by
    apply Int64.toInt_inj.mp
    rw [e0]
    exact (Int64.toInt_ofInt_of_le (by omega) (by omega)).symm
  unfold rem64
  rw [f, ← Int64.ofInt_mul, ← Int64.ofInt_sub]
  have g : x - x / y * y = x % y := by
    rw [Int.mul_comm]
    omega
  rw [g]
  exact Int64.toInt_ofInt_of_le (by omega) (by omega)
/-- the bit at a place -/
def tb (z : Int) (i : Nat) : Bool := (BitVec.ofInt 64 z).getLsbD i
theorem tb_of (a : Int64) (i : Nat) : tb a.toInt i = a.toBitVec.getLsbD i := by
  unfold tb
  congr 1
  show BitVec.ofInt 64 a.toBitVec.toInt = _
  exact BitVec.ofInt_toInt
theorem tb_or (x y : Int) (i : Nat) : tb (or64 x y) i = (tb x i || tb y i) := by
  unfold or64
  rw [tb_of, Int64.toBitVec_or, BitVec.getLsbD_or]
  rfl
theorem tb_and (x y : Int) (i : Nat) : tb (and64 x y) i = (tb x i && tb y i) := by
  unfold and64
  rw [tb_of, Int64.toBitVec_and, BitVec.getLsbD_and]
  rfl
theorem tb_xor (x y : Int) (i : Nat) : tb (xor64 x y) i = (tb x i != tb y i) := by
  unfold xor64
  rw [tb_of, Int64.toBitVec_xor, BitVec.getLsbD_xor]
  rfl
theorem tb_0 (i : Nat) : tb 0 i = false := by
  unfold tb
  simp
theorem tb_n1 {i : Nat} (h : i < 64) : tb (-1) i = true := by
  have : ∀ i : Fin 64, tb (-1) i.val = true := by decide +kernel
  exact this ⟨i, h⟩
theorem tb_not {x : Int} {i : Nat} (h : i < 64) : tb (xor64 x (-1)) i = !tb x i := by
  rw [tb_xor, tb_n1 h]
  cases tb x i <;> rfl
theorem tb_shl {k i : Nat} (hk : k < 64) (hi : i < 64) : tb (shl64 1 (k : Int)) i = decide (i = k) := by
  have : ∀ k i : Fin 64, tb (shl64 1 ((k.val : Nat) : Int)) i.val = decide (i.val = k.val) := by decide +kernel
  exact this ⟨k, hk⟩ ⟨i, hi⟩
theorem tb_w (x : Int) (i : Nat) : tb (w64 x) i = tb x i := by
  unfold w64
  rw [tb_of]
  rfl
/-- two numbers with the same bits are kept alike -/
theorem tb_ext {x y : Int} (h : ∀ i, i < 64 → tb x i = tb y i) : w64 x = w64 y := by
  unfold w64
  congr 1
  apply Int64.toBitVec_inj.mp
  apply BitVec.eq_of_getLsbD_eq
  intro i hi
  exact h i hi
theorem or64_0 (x : Int) : or64 x 0 = w64 x := by
  have h : w64 (or64 x 0) = w64 x := tb_ext (fun i _ => by rw [tb_or, tb_0]; simp)
  have h2 : w64 (or64 x 0) = or64 x 0 := by
    unfold w64 or64
    rw [Int64.ofInt_toInt]
  rw [← h2, h]
theorem w64_or (x y : Int) : w64 (or64 x y) = or64 x y := by
  unfold w64 or64
  rw [Int64.ofInt_toInt]
theorem w64_and (x y : Int) : w64 (and64 x y) = and64 x y := by
  unfold w64 and64
  rw [Int64.ofInt_toInt]
theorem w64_xor (x y : Int) : w64 (xor64 x y) = xor64 x y := by
  unfold w64 xor64
  rw [Int64.ofInt_toInt]
theorem w64_shl (x y : Int) : w64 (shl64 x y) = shl64 x y := by
  unfold w64 shl64
  rw [Int64.ofInt_toInt]
theorem w64_0 : w64 0 = 0 := rfl
