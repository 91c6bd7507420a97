/-- how many places below n are so -/
def cnBt (f : Nat → Bool) : Nat → Nat
  | 0 => 0
  | n + 1 => cnBt f n + (if f n = true then 1 else 0)
theorem cnBt_cg {f g : Nat → Bool} : ∀ n, (∀ i, i < n → f i = g i) → cnBt f n = cnBt g n := by
  intro n
  induction n with
  | zero => intro _; rfl
  | succ n ih =>
    intro h
    unfold cnBt
    rw [ih (fun i hi => h i (by omega)), h n (by omega)]
theorem cnBt_front (f : Nat → Bool) : ∀ n, cnBt f (n + 1) = (if f 0 = true then 1 else 0) + cnBt (fun i => f (i + 1)) n := by
  intro n
  induction n with
  | zero => simp [cnBt]
  | succ n ih =>
    rw [cnBt, ih, cnBt]
    omega
theorem cnBt_ext {f : Nat → Bool} {n : Nat} : ∀ d, (∀ i, n ≤ i → i < n + d → f i = false) → cnBt f (n + d) = cnBt f n := by
  intro d
  induction d with
  | zero => intro _; rfl
  | succ d ih =>
    intro h
    rw [← Nat.add_assoc, cnBt, ih (fun i h1 h2 => h i h1 (by omega)), h (n + d) (by omega) (by omega)]
    rfl
theorem cnBt_le (f : Nat → Bool) : ∀ n, cnBt f n ≤ n := by
  intro n
  induction n with
  | zero => exact Nat.le_refl _
  | succ n ih =>
    unfold cnBt
    split <;> omega
theorem cnBt_z {f : Nat → Bool} : ∀ n, cnBt f n = 0 → ∀ i, i < n → f i = false := by
  intro n
  induction n with
  | zero => intro _ i hi; omega
  | succ n ih =>
    intro h i hi
    unfold cnBt at h
    by_cases e : f n = true
    · rw [if_pos e] at h
      omega
    · by_cases c : i = n
      · subst c
        simpa using e
      · exact ih (by omega) i (by omega)
def cbN : Nat → Nat → Nat
  | 0, _ => 0
  | n + 1, x => x % 2 + cbN n (x / 2)
theorem cbN_s (n x : Nat) : cbN (n + 1) x = x % 2 + cbN n (x / 2) := rfl
theorem cbN_cnBt : ∀ n x, cbN n x = cnBt (fun i => x.testBit i) n := by
  intro n
  induction n with
  | zero => intro x; rfl
  | succ n ih =>
    intro x
    rw [cbN_s, cnBt_front, ih]
    have e : (fun i => x.testBit (i + 1)) = (fun i => (x / 2).testBit i) := funext fun i => Nat.testBit_succ x i
    rw [e]
    congr 1
    rw [Nat.testBit_zero]
    by_cases c : x % 2 = 1
    · simp [c]
    · have : x % 2 = 0 := by omega
      simp [this]
theorem pcN_s (k x : Nat) : pcN (k + 1) x = pcB (x % 256) + pcN k (x / 256) := rfl
theorem pcN_cb : ∀ k x, pcN k x = cbN (8 * k) x := by
  intro k
  induction k with
  | zero => intro x; rfl
  | succ k ih =>
    intro x
    rw [show 8 * (k + 1) = 8 * k + 1 + 1 + 1 + 1 + 1 + 1 + 1 + 1 from by omega, cbN_s, cbN_s, cbN_s, cbN_s, cbN_s, cbN_s, cbN_s, cbN_s, pcN_s, ih]
    have e : x / 2 / 2 / 2 / 2 / 2 / 2 / 2 / 2 = x / 256 := by omega
    rw [e]
    generalize cbN (8 * k) (x / 256) = y
    unfold pcB
    have h0 : x % 256 % 2 = x % 2 := by omega
    have h1 : x % 256 / 2 % 2 = x / 2 % 2 := by omega
    have h2 : x % 256 / 4 % 2 = x / 2 / 2 % 2 := by omega
    have h3 : x % 256 / 8 % 2 = x / 2 / 2 / 2 % 2 := by omega
    have h4 : x % 256 / 16 % 2 = x / 2 / 2 / 2 / 2 % 2 := by omega
    have h5 : x % 256 / 32 % 2 = x / 2 / 2 / 2 / 2 / 2 % 2 := by omega
    have h6 : x % 256 / 64 % 2 = x / 2 / 2 / 2 / 2 / 2 / 2 % 2 := by omega
    have h7 : x % 256 / 128 % 2 = x / 2 / 2 / 2 / 2 / 2 / 2 / 2 % 2 := by omega
    rw [h0, h1, h2, h3, h4, h5, h6, h7]
    omega
theorem tb_u (v : Int) (i : Nat) : tb v i = (uNat v).testBit i := rfl
theorem bitCount_s (v : Int) : J13_bitCount v = some ((cnBt (tb v) 64 : Nat) : Int) := by
  rw [bC_s, pcN_cb, cbN_cnBt, cnBt_cg (f := fun i => (uNat v).testBit i) (g := tb v) (8 * 8) (fun i _ => rfl)]
theorem cbN_0 : ∀ n, cbN n 0 = 0 := by
  intro n
  induction n with
  | zero => rfl
  | succ n ih => rw [cbN_s, show 0 / 2 = 0 from rfl, ih]
theorem and_d2 (x y : Nat) : x &&& y = (x % 2) * (y % 2) + 2 * (x / 2 &&& y / 2) := by
  have e1 : (x &&& y) % 2 ^ 1 = (x % 2 ^ 1) &&& (y % 2 ^ 1) := Nat.and_mod_two_pow
  have e2 : (x &&& y) / 2 ^ 1 = (x / 2 ^ 1) &&& (y / 2 ^ 1) := Nat.and_div_two_pow
  rw [Nat.pow_one] at e1 e2
  have e3 : x % 2 &&& y % 2 = (x % 2) * (y % 2) := by
    have a : x % 2 = 0 ∨ x % 2 = 1 := by omega
    have b : y % 2 = 0 ∨ y % 2 = 1 := by omega
    rcases a with a | a <;> rcases b with b | b <;> rw [a, b] <;> rfl
  omega
theorem cbN_and : ∀ n x, x ≠ 0 → x < 2 ^ n → cbN n (x &&& (x - 1)) + 1 = cbN n x := by
  intro n
  induction n with
  | zero =>
    intro x h1 h2
    rw [Nat.pow_zero] at h2
    omega
  | succ n ih =>
    intro x h1 h2
    rw [Nat.pow_succ] at h2
    rw [and_d2, cbN_s, cbN_s]
    have c : x % 2 = 0 ∨ x % 2 = 1 := by omega
    rcases c with c | c
    · have e1 : (x - 1) / 2 = x / 2 - 1 := by omega
      rw [c, e1, Nat.zero_mul]
      have e2 : (0 + 2 * (x / 2 &&& x / 2 - 1)) / 2 = x / 2 &&& x / 2 - 1 := by omega
      have e3 : (0 + 2 * (x / 2 &&& x / 2 - 1)) % 2 = 0 := by omega
      rw [e2, e3]
      have := ih (x / 2) (by omega) (by omega)
      omega
    · have e1 : (x - 1) / 2 = x / 2 := by omega
      have e0 : (x - 1) % 2 = 0 := by omega
      rw [c, e1, e0, Nat.mul_zero, Nat.and_self]
      have e2 : (0 + 2 * (x / 2)) / 2 = x / 2 := by omega
      have e3 : (0 + 2 * (x / 2)) % 2 = 0 := by omega
      rw [e2, e3]
      omega
theorem w64_mod (z : Int) : (w64 z - z) % 18446744073709551616 = 0 := by
  unfold w64
  rw [Int64.toInt_ofInt]
  simp only [Int64.size, Int.bmod]
  split <;> omega
theorem w64_z (z : Int) : w64 z = 0 ↔ uNat z = 0 := by
  have a := w64_mod z
  have b := u_mod z
  have c := u_lt z
  have d := w64_ge z
  have e := w64_lt' z
  omega
theorem cmp_z (z : Int) : (w32 (cmp64 z 0) = 0) ↔ uNat z = 0 := by
  rw [← w64_z, cmp64_eq, w64_0]
  by_cases h : 0 < w64 z
  · rw [if_pos h]
    exact ⟨fun q => absurd q (by decide), fun q => by omega⟩
  · rw [if_neg h]
    by_cases g : w64 z = 0
    · rw [if_pos g]
      exact ⟨fun _ => g, fun _ => by decide⟩
    · rw [if_neg g]
      exact ⟨fun q => absurd q (by decide), fun q => absurd q g⟩
theorem u_pow (z : Int) : uNat z < 2 ^ 64 := (BitVec.ofInt 64 z).isLt
theorem sizeOf_k {N : Nat} (hN : N ≤ 1000) (hv : ∀ z : Int, uNat z < 2 ^ N) (v : Int) : OK (iter X12_sizeOf_l4 FU (0, v)) (fun z => z = ((cbN N (uNat v) : Nat) : Int)) := by
  have hle : cbN N (uNat v) ≤ N := by
    rw [cbN_cnBt]
    exact cnBt_le _ _
  refine iter_dn (fun n s => n = cbN N (uNat s.2) ∧ s.1 + (n : Int) = ((cbN N (uNat v) : Nat) : Int)) _ (fun n s hI => ?_) (cbN N (uNat v)) (by omega) ⟨rfl, by dsimp only; omega⟩
  obtain ⟨h1, h2⟩ := hI
  unfold X12_sizeOf_l4
  refine OK_if (fun c => ?_) (fun c => ?_)
  · rw [OK_some, LQ_r]
    rw [(cmp_z _).mp c, cbN_0] at h1
    rw [← h2, h1]
    omega
  · rw [OK_some, LQ_l]
    have hz : uNat s.2 ≠ 0 := fun q => c ((cmp_z _).mpr q)
    have e : uNat (s.2 - 1) = uNat s.2 - 1 := by
      have a := u_mod s.2
      have b := u_mod (s.2 - 1)
      have d := u_lt s.2
      have f := u_lt (s.2 - 1)
      clear h1 h2 hle hN
      omega
    have k := cbN_and N (uNat s.2) hz (hv _)
    refine ⟨cbN N (uNat (and64 s.2 (s.2 - 1))), ?_, rfl, ?_⟩
    · rw [u_and, e]
      omega
    · rw [u_and, e]
      dsimp only
      omega
theorem sizeOf_s (v : Int) : X12_sizeOf v = some ((cnBt (tb v) 64 : Nat) : Int) := by
  unfold X12_sizeOf
  obtain ⟨z, ez, hz⟩ := OK_ex (sizeOf_k (N := 64) (by decide) u_pow v)
  rw [ez, hz, Option.bind_some, cbN_cnBt, cnBt_cg (f := fun i => (uNat v).testBit i) (g := tb v) 64 (fun i _ => rfl)]
