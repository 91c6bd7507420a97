/-! indices as the machine reckons them -/
theorem tn (i : Nat) : (i : Int).toNat = i := rfl
theorem tn1 (i : Nat) : ((i : Int) + 1).toNat = i + 1 := rfl
theorem t8 (i p : Nat) : (8 * (i : Int) + (p : Int)).toNat = 8 * i + p := by omega
theorem t8a (i p : Nat) : ((i : Int) * 8 + (p : Int)).toNat = 8 * i + p := by omega
theorem t40 (i p : Nat) : (40 * (i : Int) + (p : Int)).toNat = 40 * i + p := by omega
theorem t40a (i p : Nat) : ((i : Int) * 40 + (p : Int)).toNat = 40 * i + p := by omega
theorem t9 (i p : Nat) : (9 * (i : Int) + (p : Int)).toNat = 9 * i + p := by omega
theorem t9a (i p : Nat) : ((i : Int) * 9 + (p : Int)).toNat = 9 * i + p := by omega
theorem tm2 (p : Nat) : (2 * (p : Int)).toNat = 2 * p := by omega
theorem tm21 (p : Nat) : (2 * (p : Int) + 1).toNat = 2 * p + 1 := by omega
theorem cs1 (p : Nat) : ((p + 1 : Nat) : Int) - 1 = (p : Int) := by omega
theorem wtn {v : Int} (j : Nat) (e : v = (j : Int)) (hj : j < 2147483648) : (w32 v).toNat = j := by
  rw [w32_id (by omega) (by omega)]
  omega
theorem at_e {a n : Nat} {v : Int} {h : Hp} (j : Nat) (e : v = (j : Int)) (hj : j < n) (hn : n < 2147483648) : X11_at a n v h = some (h a j) := by
  rw [at_in (by omega) (by omega) hn]
  congr 2
  omega
theorem put_e {a n : Nat} {v z : Int} {h : Hp} (j : Nat) (e : v = (j : Int)) (hj : j < n) (hn : n < 2147483648) : X11_put a n v z h = some (setH h a j z) := by
  rw [put_in (by omega) (by omega) hn]
  congr 2
  omega
/-! what is so of a number: on both sides -/
theorem x_isA {v : Int} {h : Hp} (h0 : 0 ≤ h 3 0) (h1 : h 3 0 ≤ 1000) : X7_isAuthor v h = some (if 0 ≤ w32 v ∧ w32 v < h 3 0 then 1 else 0) := by
  unfold X7_isAuthor
  rw [w32_id (z := h 3 0) (by omega) (by omega)]
  by_cases a : w32 v < 0
  · rw [if_pos a, if_neg (by omega)]
  · rw [if_neg a]
    by_cases b : h 3 0 ≤ w32 v
    · rw [if_pos b, if_neg (by omega)]
    · rw [if_neg b, if_pos (by omega)]
theorem x_isK {v : Int} {h : Hp} (h0 : 0 ≤ h 3 3) (h1 : h 3 3 ≤ 1000) : X7_isWork v h = some (if 0 ≤ w32 v ∧ w32 v < h 3 3 then 1 else 0) := by
  unfold X7_isWork
  rw [w32_id (z := h 3 3) (by omega) (by omega)]
  by_cases a : w32 v < 0
  · rw [if_pos a, if_neg (by omega)]
  · rw [if_neg a]
    by_cases b : h 3 3 ≤ w32 v
    · rw [if_pos b, if_neg (by omega)]
    · rw [if_neg b, if_pos (by omega)]
theorem x_isM {v : Int} {h : Hp} (h0 : 0 ≤ h 3 9) (h1 : h 3 9 ≤ 1000) : X7_isWriter v h = some (if 0 ≤ w32 v ∧ w32 v < h 3 9 then 1 else 0) := by
  unfold X7_isWriter
  rw [w32_id (z := h 3 9) (by omega) (by omega)]
  by_cases a : w32 v < 0
  · rw [if_pos a, if_neg (by omega)]
  · rw [if_neg a]
    by_cases b : h 3 9 ≤ w32 v
    · rw [if_pos b, if_neg (by omega)]
    · rw [if_neg b, if_pos (by omega)]
theorem x_isB {v : Int} {h : Hp} (h0 : 0 ≤ h 3 11) (h1 : h 3 11 ≤ 1000) : X7_isBit v h = some (if 0 ≤ w32 v ∧ w32 v < h 3 11 then 1 else 0) := by
  unfold X7_isBit
  rw [w32_id (z := h 3 11) (by omega) (by omega)]
  by_cases a : w32 v < 0
  · rw [if_pos a, if_neg (by omega)]
  · rw [if_neg a]
    by_cases b : h 3 11 ≤ w32 v
    · rw [if_pos b, if_neg (by omega)]
    · rw [if_neg b, if_pos (by omega)]
theorem m_is {v n : Int} (h0 : 0 ≤ n) (h1 : n ≤ 1000) : ((X12_lies (w32 v) 0 (w32 (n - 1))).bind fun r1 => if r1 = 0 ∨ r1 = 1 then some r1 else none) = some (if 0 ≤ w32 v ∧ w32 v < n then 1 else 0) := by
  have a := w32_ge v
  have b := w32_lt' v
  rw [w32_id (z := n - 1) (by omega) (by omega), lies_in (by omega) (by omega) (by omega) (by omega) (by omega) (by omega)]
  by_cases c : 0 ≤ w32 v ∧ w32 v < n
  · rw [if_pos c, if_pos (by omega)]
    rfl
  · rw [if_neg c, if_neg (by omega)]
    rfl
theorem m_isA {v : Int} {h : Hp} (h0 : 0 ≤ h 150 2) (h1 : h 150 2 ≤ 1000) : X12_isAuthor v h = some (if 0 ≤ w32 v ∧ w32 v < h 150 2 then 1 else 0) := m_is h0 h1
theorem m_isK {v : Int} {h : Hp} (h0 : 0 ≤ h 150 3) (h1 : h 150 3 ≤ 1000) : X12_isWork v h = some (if 0 ≤ w32 v ∧ w32 v < h 150 3 then 1 else 0) := m_is h0 h1
theorem m_isM {v : Int} {h : Hp} (h0 : 0 ≤ h 150 4) (h1 : h 150 4 ≤ 1000) : X12_isWriter v h = some (if 0 ≤ w32 v ∧ w32 v < h 150 4 then 1 else 0) := m_is h0 h1
theorem m_isB {v : Int} {h : Hp} (h0 : 0 ≤ h 150 5) (h1 : h 150 5 ≤ 1000) : X12_isBit v h = some (if 0 ≤ w32 v ∧ w32 v < h 150 5 then 1 else 0) := m_is h0 h1
/-! what the shelves hold: the one side beside the other -/
/-- bounds of what the model holds -/
def SB (m : Hp) : Prop :=
  ((0 ≤ m 150 2 ∧ m 150 2 ≤ 8) ∧ (0 ≤ m 150 3 ∧ m 150 3 ≤ 8) ∧ (0 ≤ m 150 4 ∧ m 150 4 ≤ 8) ∧ (0 ≤ m 150 5 ∧ m 150 5 ≤ 40)) ∧
  ((∀ i, 0 ≤ m 152 i ∧ m 152 i ≤ 999) ∧ (∀ i, 0 ≤ m 153 i ∧ m 153 i ≤ 100) ∧ (∀ i, 0 ≤ m 154 i ∧ m 154 i ≤ 7) ∧ (∀ i, 0 ≤ m 155 i ∧ m 155 i ≤ 40)) ∧
  ((∀ i, 0 ≤ m 156 i ∧ m 156 i ≤ 40) ∧ (∀ i, 0 ≤ m 157 i ∧ m 157 i ≤ 63) ∧ (∀ i, 0 ≤ m 158 i ∧ m 158 i ≤ 40) ∧ (∀ i, 0 ≤ m 159 i ∧ m 159 i ≤ 999)) ∧
  ((∀ i, 0 ≤ m 160 i ∧ m 160 i ≤ 7) ∧ (∀ i, -1 ≤ m 161 i ∧ m 161 i ≤ 7) ∧ (∀ i, 0 ≤ m 162 i ∧ m 162 i ≤ 40) ∧ (∀ i, 0 ≤ m 163 i ∧ m 163 i ≤ 9)) ∧
  ((∀ i, 0 ≤ m 164 i ∧ m 164 i ≤ 8) ∧ (∀ i, 0 ≤ m 165 i ∧ m 165 i ≤ 63)) ∧
  ((∀ i : Nat, (i : Int) < m 150 5 → 1 ≤ m 164 i ∧ m 160 i < m 150 4 ∧ m 161 i < m 150 3) ∧ (∀ k : Nat, (k : Int) < m 150 3 → m 154 k < m 150 2) ∧ (∀ k : Nat, m 150 3 ≤ (k : Int) → m 156 k = 0))
def RS (x m : Hp) : Prop :=
  ((x 3 0 = m 150 2 ∧ x 3 3 = m 150 3 ∧ x 3 9 = m 150 4 ∧ x 3 11 = m 150 5) ∧
   (x 4 = m 152 ∧ x 5 = m 153 ∧ x 6 = m 154 ∧ x 7 = m 155 ∧ x 8 = m 156 ∧ x 9 = m 157 ∧ x 10 = m 158 ∧ x 11 = m 159) ∧
   (x 12 = m 160 ∧ x 13 = m 161 ∧ x 14 = m 162 ∧ x 15 = m 163 ∧ x 16 = m 164) ∧
   (∀ i p : Nat, (i : Int) < m 150 5 → (p : Int) < m 164 i → x 17 (8 * i + p) = m 165 (8 * i + p)) ∧ (∀ j, 0 ≤ x 17 j ∧ x 17 j ≤ 63)) ∧ SB m
/-- what RS reads -/
def cXS (a : Nat) : Prop := 3 ≤ a ∧ a ≤ 17
def cMS (a j : Nat) : Prop := (152 ≤ a ∧ a ≤ 165) ∨ (a = 150 ∧ 2 ≤ j ∧ j ≤ 5)
theorem RS_cg {x m x' m' : Hp} (hx : ∀ a j, cXS a → x' a j = x a j) (hm : ∀ a j, cMS a j → m' a j = m a j) (R : RS x m) : RS x' m' := by
  have ex : ∀ a, cXS a → x' a = x a := fun a ha => funext fun j => hx a j ha
  have em : ∀ a, 152 ≤ a ∧ a ≤ 165 → m' a = m a := fun a ha => funext fun j => hm a j (Or.inl ha)
  have e2 := hm 150 2 (by unfold cMS; omega)
  have e3 := hm 150 3 (by unfold cMS; omega)
  have e4 := hm 150 4 (by unfold cMS; omega)
  have e5 := hm 150 5 (by unfold cMS; omega)
  unfold RS SB
  rw [ex 3 (by unfold cXS; omega), ex 4 (by unfold cXS; omega), ex 5 (by unfold cXS; omega), ex 6 (by unfold cXS; omega), ex 7 (by unfold cXS; omega), ex 8 (by unfold cXS; omega), ex 9 (by unfold cXS; omega), ex 10 (by unfold cXS; omega), ex 11 (by unfold cXS; omega), ex 12 (by unfold cXS; omega), ex 13 (by unfold cXS; omega), ex 14 (by unfold cXS; omega), ex 15 (by unfold cXS; omega), ex 16 (by unfold cXS; omega), ex 17 (by unfold cXS; omega)]
  rw [e2, e3, e4, e5, em 152 (by omega), em 153 (by omega), em 154 (by omega), em 155 (by omega), em 156 (by omega), em 157 (by omega), em 158 (by omega), em 159 (by omega), em 160 (by omega), em 161 (by omega), em 162 (by omega), em 163 (by omega), em 164 (by omega), em 165 (by omega)]
  exact R
