/-! how many bits are set: by adding side by side -/
def mkM (b : Nat) : Nat → Nat
  | 0 => 0
  | k + 1 => b + 256 * mkM b k
theorem and_spl {a b m n : Nat} (ha : a < 256) (hm : m < 256) : (a + 256 * b) &&& (m + 256 * n) = (a &&& m) + 256 * (b &&& n) := by
  have e1 : ((a + 256 * b) &&& (m + 256 * n)) % 2 ^ 8 = ((a + 256 * b) % 2 ^ 8) &&& ((m + 256 * n) % 2 ^ 8) := Nat.and_mod_two_pow
  have e2 : ((a + 256 * b) &&& (m + 256 * n)) / 2 ^ 8 = ((a + 256 * b) / 2 ^ 8) &&& ((m + 256 * n) / 2 ^ 8) := Nat.and_div_two_pow
  rw [show (a + 256 * b) % 2 ^ 8 = a by omega, show (m + 256 * n) % 2 ^ 8 = m by omega] at e1
  rw [show (a + 256 * b) / 2 ^ 8 = b by omega, show (m + 256 * n) / 2 ^ 8 = n by omega] at e2
  omega
def pop1 (b : Nat) : Nat := b - (b / 2 &&& 85)
def pop2 (b : Nat) : Nat := (b &&& 51) + (b / 4 &&& 51)
def pop3 (b : Nat) : Nat := (b + b / 16) &&& 15
def pS1 (k x : Nat) : Nat := x - (x / 2 &&& mkM 85 k)
def pS2 (k x : Nat) : Nat := (x &&& mkM 51 k) + (x / 4 &&& mkM 51 k)
def pS3 (k x : Nat) : Nat := (x + x / 16) &&& mkM 15 k
theorem byte1 : ∀ b : Fin 256, ∀ y : Fin 2, (b.val / 2 + 128 * y.val) &&& 85 = b.val / 2 &&& 85 ∧ (b.val / 2 &&& 85) ≤ b.val ∧ b.val / 2 + 128 * y.val < 256 := by decide +kernel
theorem byte2 : ∀ b : Fin 256, ∀ y : Fin 4, (b.val / 4 + 64 * y.val) &&& 51 = b.val / 4 &&& 51 ∧ b.val / 4 + 64 * y.val < 256 := by decide +kernel
theorem byte3 : ∀ b : Fin 256, ∀ y : Fin 5, b.val % 16 ≤ 4 → b.val / 16 ≤ 4 → (b.val + b.val / 16 + 16 * y.val) &&& 15 = (b.val + b.val / 16) &&& 15 ∧ b.val + b.val / 16 + 16 * y.val < 256 := by decide +kernel
theorem byte4 : ∀ b : Fin 256, pop1 b.val < 256 ∧ pop2 (pop1 b.val) % 16 ≤ 4 ∧ pop2 (pop1 b.val) / 16 ≤ 4 ∧ pop2 (pop1 b.val) < 256 ∧ pop3 (pop2 (pop1 b.val)) = (b.val % 2) + (b.val / 2 % 2) + (b.val / 4 % 2) + (b.val / 8 % 2) + (b.val / 16 % 2) + (b.val / 32 % 2) + (b.val / 64 % 2) + (b.val / 128 % 2) := by decide +kernel
theorem mkM_s (b k : Nat) : mkM b (k + 1) = b + 256 * mkM b k := rfl
theorem pS1_s {k b y : Nat} (hb : b < 256) : pS1 (k + 1) (b + 256 * y) = pop1 b + 256 * pS1 k y := by
  obtain ⟨h1, h2, h3⟩ := byte1 ⟨b, hb⟩ ⟨y % 2, by omega⟩
  dsimp only at h1 h2 h3
  unfold pS1 pop1
  have e : (b + 256 * y) / 2 = (b / 2 + 128 * (y % 2)) + 256 * (y / 2) := by omega
  have l : (y / 2 &&& mkM 85 k) ≤ y / 2 := Nat.and_le_left
  rw [e]
  rw [mkM_s, and_spl h3 (by decide), h1]
  omega
theorem pS2_s {k b y : Nat} (hb : b < 256) : pS2 (k + 1) (b + 256 * y) = pop2 b + 256 * pS2 k y := by
  obtain ⟨h1, h3⟩ := byte2 ⟨b, hb⟩ ⟨y % 4, by omega⟩
  dsimp only at h1 h3
  unfold pS2 pop2
  have e : (b + 256 * y) / 4 = (b / 4 + 64 * (y % 4)) + 256 * (y / 4) := by omega
  rw [e]
  rw [mkM_s, and_spl h3 (by decide), and_spl hb (by decide), h1]
  omega
theorem pS3_s {k b y : Nat} (hb : b < 256) (h1 : b % 16 ≤ 4) (h2 : b / 16 ≤ 4) (hy : y % 16 ≤ 4) : pS3 (k + 1) (b + 256 * y) = pop3 b + 256 * pS3 k y := by
  obtain ⟨h3, h4⟩ := byte3 ⟨b, hb⟩ ⟨y % 16, by omega⟩ h1 h2
  dsimp only at h3 h4
  unfold pS3 pop3
  have e : b + 256 * y + (b + 256 * y) / 16 = (b + b / 16 + 16 * (y % 16)) + 256 * (y + y / 16) := by omega
  rw [e]
  rw [mkM_s, and_spl h4 (by decide), h3]
/-- the eight sums side by side -/
def pcB (b : Nat) : Nat := (b % 2) + (b / 2 % 2) + (b / 4 % 2) + (b / 8 % 2) + (b / 16 % 2) + (b / 32 % 2) + (b / 64 % 2) + (b / 128 % 2)
def pcS : Nat → Nat → Nat
  | 0, _ => 0
  | k + 1, x => pcB (x % 256) + 256 * pcS k (x / 256)
theorem pcS_s (k x : Nat) : pcS (k + 1) x = pcB (x % 256) + 256 * pcS k (x / 256) := rfl
theorem pS_z : pS3 0 (pS2 0 (pS1 0 0)) = 0 ∧ pS2 0 (pS1 0 0) % 16 ≤ 4 := by decide +kernel
theorem pS_step {k x : Nat} (i1 : pS3 k (pS2 k (pS1 k (x / 256))) = pcS k (x / 256)) (i2 : pS2 k (pS1 k (x / 256)) % 16 ≤ 4) : pS3 (k + 1) (pS2 (k + 1) (pS1 (k + 1) x)) = pcS (k + 1) x ∧ pS2 (k + 1) (pS1 (k + 1) x) % 16 ≤ 4 := by
  have hl : x % 256 < 256 := Nat.mod_lt _ (by decide)
  obtain ⟨b1, b2, b3, b4, b5⟩ := byte4 ⟨x % 256, hl⟩
  have e1 : pS1 (k + 1) (x % 256 + 256 * (x / 256)) = pop1 (x % 256) + 256 * pS1 k (x / 256) := pS1_s hl
  rw [Nat.mod_add_div] at e1
  have e2 : pS2 (k + 1) (pop1 (x % 256) + 256 * pS1 k (x / 256)) = pop2 (pop1 (x % 256)) + 256 * pS2 k (pS1 k (x / 256)) := pS2_s b1
  have e3 := pS3_s (k := k) b4 b2 b3 i2
  rw [e1, e2, e3, i1, b5, pcS_s, pcB]
  refine ⟨rfl, ?_⟩
  generalize pS2 k (pS1 k (x / 256)) = u
  generalize pop2 (pop1 (x % 256)) = w at b2 ⊢
  omega
def pSd : Nat → Nat → Nat
  | 0, x => x
  | k + 1, x => pSd k (x / 256)
theorem pS_all (k : Nat) : ∀ x, pSd k x = 0 → pS3 k (pS2 k (pS1 k x)) = pcS k x ∧ pS2 k (pS1 k x) % 16 ≤ 4 := by
  induction k with
  | zero =>
    intro x h
    have e : x = 0 := h
    rw [e]
    exact pS_z
  | succ k ih =>
    intro x h
    obtain ⟨i1, i2⟩ := ih (x / 256) h
    exact pS_step i1 i2
