/-! CHOOSING, COMMON DIVISORS -/
def chD (d : Nat) : Nat → Nat
  | 0 => 1
  | i + 1 => chD d i * (d + (i + 1)) / (i + 1)
theorem chD_s (d i : Nat) : chD d (i + 1) = chD d i * (d + (i + 1)) / (i + 1) := rfl
theorem chD_t : ∀ d i : Fin 41, d.val + i.val ≤ 40 → 1 ≤ chD d.val i.val ∧ chD d.val i.val ≤ 2 ^ (d.val + i.val) ∧ chD d.val i.val ≤ 137846528820 := by decide +kernel
theorem chD_b {d i : Nat} (h : d + i ≤ 40) : 1 ≤ chD d i ∧ chD d i ≤ 2 ^ (d + i) ∧ chD d i ≤ 137846528820 := chD_t ⟨d, by omega⟩ ⟨i, by omega⟩ h
def chN (n k : Nat) : Nat := if k ≤ n then chD (n - k) k else 0
theorem chN_b {n k : Nat} (hn : n ≤ 40) : chN n k ≤ 2 ^ n ∧ chN n k ≤ 137846528820 := by
  unfold chN
  by_cases c : k ≤ n
  · rw [if_pos c]
    have h := chD_b (d := n - k) (i := k) (by omega)
    rw [show n - k + k = n from by omega] at h
    exact h.2
  · rw [if_neg c]
    exact ⟨Nat.zero_le _, by omega⟩
theorem chN_p {n k : Nat} (hn : n ≤ 40) (hk : k ≤ n) : 1 ≤ chN n k := by
  unfold chN
  rw [if_pos hk]
  exact (chD_b (by omega)).1
theorem choices_s {n k : Nat} (hn : n ≤ 40) (hk : k ≤ 1000) : X12_choices (n : Int) (k : Int) = some ((chN n k : Nat) : Int) := by
  unfold X12_choices chN
  rw [w32_id (z := (k : Int)) (by omega) (by omega), w32_id (z := (n : Int)) (by omega) (by omega), if_neg (by omega)]
  by_cases c : k ≤ n
  · rw [if_pos (by omega), if_pos c]
    have key : OK (iter (X12_choices_l11 (n : Int) (k : Int)) FU (1, 1)) (fun z => z = ((chD (n - k) k : Nat) : Int)) := by
      refine iter_up (fun p s => p ≤ k ∧ s = (((chD (n - k) p : Nat) : Int), ((p + 1 : Nat) : Int))) _ k (by omega) (fun p s hp hI => ?_) ⟨by omega, rfl⟩
      obtain ⟨hk2, rfl⟩ := hI
      unfold X12_choices_l11
      dsimp only
      rw [w32_id (z := (k : Int)) (by omega) (by omega), w32_id (z := ((p + 1 : Nat) : Int)) (by omega) (by omega)]
      refine OK_if (fun d => ?_) (fun d => ?_)
      · rw [OK_some, LQ_r]
        rw [show p = k from by omega]
      · have hp2 : p < k := by omega
        refine OK_gd (by rw [w64_id (by omega) (by omega)]; omega) ?_
        rw [OK_some, LQ_l]
        refine ⟨hp2, hp2, ?_⟩
        have b := (chD_b (d := n - k) (i := p) (by omega)).2.2
        have e : w32 ((n : Int) - (k : Int) + ((p + 1 : Nat) : Int)) = ((n - k + (p + 1) : Nat) : Int) := by
          rw [w32_id (by omega) (by omega)]
          omega
        have l : chD (n - k) p * (n - k + (p + 1)) ≤ 137846528820 * 40 := Nat.mul_le_mul b (by omega)
        rw [e, ← Int.natCast_mul, div64_nn (by omega) (by omega) (by omega) (by omega), chD_s]
        refine Prod.ext ?_ ?_
        · rw [← Int.natCast_ediv]
        · dsimp only
          omega
    obtain ⟨z, ez, hz⟩ := OK_ex key
    rw [ez, hz, Option.bind_some]
  · rw [if_neg (by omega), if_neg c]
    rfl
theorem ch_l : X4_choose_l11 = X12_choices_l11 := by
  funext a b x
  unfold X4_choose_l11 X12_choices_l11
  rfl
theorem choose_m (a b : Int) : X4_choose a b = X12_choices a b := by
  unfold X4_choose X12_choices
  rw [ch_l]
theorem choose_s {n k : Nat} (hn : n ≤ 40) (hk : k ≤ 1000) : X4_choose (n : Int) (k : Int) = some ((chN n k : Nat) : Int) := by
  rw [choose_m]
  exact choices_s hn hk
theorem mod_half {a b : Nat} (hb : b ≠ 0) (h : b < a) : 2 * (a % b) < a := by
  have e := Nat.mod_eq_sub_mod (a := a) (b := b) (Nat.le_of_lt h)
  have l := Nat.mod_le (a - b) b
  have m := Nat.mod_lt a (Nat.pos_of_ne_zero hb)
  omega
/-- one turn of the common divisor -/
theorem gcd_turn {a b n : Nat} (hb : b ≠ 0) (h : b < a) (hn : a * b < 2 ^ n) : 1 ≤ n ∧ a % b < b ∧ b * (a % b) < 2 ^ (n - 1) ∧ Nat.gcd b (a % b) = Nat.gcd a b := by
  have l := mod_half hb h
  have m := Nat.mod_lt a (Nat.pos_of_ne_zero hb)
  have p1 : 1 ≤ a * b := Nat.mul_pos (by omega) (Nat.pos_of_ne_zero hb)
  have hn1 : 1 ≤ n := by
    cases n with
    | zero => rw [Nat.pow_zero] at hn; omega
    | succ n => omega
  refine ⟨hn1, m, ?_, ?_⟩
  · obtain ⟨k, rfl⟩ : ∃ k, n = k + 1 := ⟨n - 1, by omega⟩
    rw [Nat.pow_succ] at hn
    have q : b * (2 * (a % b)) ≤ b * a := Nat.mul_le_mul_left b (by omega)
    rw [Nat.mul_comm b a] at q
    have q2 : b * (2 * (a % b)) = 2 * (b * (a % b)) := by rw [Nat.mul_left_comm]
    rw [show k + 1 - 1 = k from by omega]
    omega
  · rw [Nat.gcd_comm, ← Nat.gcd_rec, Nat.gcd_comm]
theorem w64_nz {b : Nat} (h : b < 9223372036854775808) : (w32 (cmp64 (b : Int) 0) = 0) ↔ b = 0 := by
  rw [cmp_z, ← w64_z, w64_id (by omega) (by omega)]
  omega
theorem gcd_first {a b : Nat} (hb : b ≠ 0) : Nat.gcd b (a % b) = Nat.gcd a b := by
  rw [Nat.gcd_comm, ← Nat.gcd_rec, Nat.gcd_comm]
theorem divisor_s {A B : Nat} (hA : A < 9223372036854775808) (hB : B < 1099511627776) : X12_divisor (A : Int) (B : Int) = some ((Nat.gcd A B : Nat) : Int) := by
  have key : OK (iter X12_divisor_l4 FU ((A : Int), (B : Int))) (fun z => z = ((Nat.gcd A B : Nat) : Int)) := by
    refine iter_dn (fun n s => ∃ a b : Nat, s = ((a : Int), (b : Int)) ∧ Nat.gcd a b = Nat.gcd A B ∧ a < 9223372036854775808 ∧ ((n = 90 ∧ b < 1099511627776) ∨ (n ≤ 80 ∧ b < a ∧ a * b < 2 ^ n))) _ (fun n s hI => ?_) 90 (by omega) ⟨A, B, rfl, rfl, hA, Or.inl ⟨rfl, hB⟩⟩
    obtain ⟨a, b, rfl, hg, ha, h⟩ := hI
    unfold X12_divisor_l4
    dsimp only
    have hb : b < 9223372036854775808 := by omega
    refine OK_if (fun c => ?_) (fun c => ?_)
    · rw [OK_some, LQ_r]
      have := (w64_nz hb).mp c
      subst this
      rw [← hg, Nat.gcd_zero_right]
    · have hb0 : b ≠ 0 := fun q => c ((w64_nz hb).mpr q)
      refine OK_gd (by rw [w64_id (by omega) (by omega)]; omega) ?_
      rw [OK_some, LQ_l, rem64_nn (by omega) (by omega) (by omega) (by omega)]
      have ml := Nat.mod_lt a (Nat.pos_of_ne_zero hb0)
      rcases h with ⟨rfl, h⟩ | ⟨h1, h2, h3⟩
      · refine ⟨80, by omega, b, a % b, by rw [Int.natCast_emod], by rw [gcd_first hb0, hg], hb, Or.inr ⟨by omega, ml, ?_⟩⟩
        have : b * (a % b) < 1099511627776 * 1099511627776 := Nat.mul_lt_mul'' (by omega) (by omega)
        have e : (2 : Nat) ^ 80 = 1099511627776 * 1099511627776 := by decide +kernel
        omega
      · obtain ⟨k1, k2, k3, k4⟩ := gcd_turn hb0 h2 h3
        exact ⟨n - 1, by omega, b, a % b, by rw [Int.natCast_emod], by rw [k4, hg], hb, Or.inr ⟨by omega, ml, k3⟩⟩
  unfold X12_divisor
  obtain ⟨z, ez, hz⟩ := OK_ex key
  rw [ez, hz, Option.bind_some]
theorem reduce_s {A B : Nat} {h : Hp} (hA : A < 9223372036854775808) (hB : B < 1099511627776) (hB1 : 1 ≤ B) : X4_reduce (A : Int) (B : Int) h = some (setH (setH h 52 0 ((A / Nat.gcd A B : Nat) : Int)) 52 1 ((B / Nat.gcd A B : Nat) : Int)) := by
  have key : OK (iter (X4_reduce_l6 (A : Int) (B : Int)) FU ((A : Int), (B : Int), 0, h)) (fun z => z = (((Nat.gcd A B : Nat) : Int), h)) := by
    refine iter_dn (fun n s => ∃ a b p : Nat, s = ((a : Int), (b : Int), (p : Int), h) ∧ Nat.gcd a b = Nat.gcd A B ∧ a < 9223372036854775808 ∧ ((n = 90 ∧ p = 0 ∧ b < 1099511627776) ∨ (n + p ≤ 81 ∧ b < a ∧ a * b < 2 ^ n))) _ (fun n s hI => ?_) 90 (by omega) ⟨A, B, 0, rfl, rfl, hA, Or.inl ⟨rfl, rfl, hB⟩⟩
    obtain ⟨a, b, p, rfl, hg, ha, hh⟩ := hI
    unfold X4_reduce_l6
    dsimp only
    have hb : b < 9223372036854775808 := by omega
    refine OK_gn (by rw [w32_id (z := (p : Int)) (by omega) (by omega), show w32 100 = 100 from rfl]; omega) ?_
    refine OK_if (fun c => ?_) (fun c => ?_)
    · rw [OK_some, LQ_r]
      have := (w64_nz hb).mp c
      subst this
      rw [← hg, Nat.gcd_zero_right]
    · have hb0 : b ≠ 0 := fun q => c ((w64_nz hb).mpr q)
      refine OK_gd (by rw [w64_id (by omega) (by omega)]; omega) ?_
      rw [OK_some, LQ_l, rem64_nn (by omega) (by omega) (by omega) (by omega)]
      have ml := Nat.mod_lt a (Nat.pos_of_ne_zero hb0)
      rcases hh with ⟨rfl, rfl, hh⟩ | ⟨h1, h2, h3⟩
      · refine ⟨80, by omega, b, a % b, 1, by rw [Int.natCast_emod]; rfl, by rw [gcd_first hb0, hg], hb, Or.inr ⟨by omega, ml, ?_⟩⟩
        have : b * (a % b) < 1099511627776 * 1099511627776 := Nat.mul_lt_mul'' (by omega) (by omega)
        have e : (2 : Nat) ^ 80 = 1099511627776 * 1099511627776 := by decide +kernel
        omega
      · obtain ⟨k1, k2, k3, k4⟩ := gcd_turn hb0 h2 h3
        exact ⟨n - 1, by omega, b, a % b, p + 1, by rw [Int.natCast_emod]; rfl, by rw [k4, hg], hb, Or.inr ⟨by omega, ml, k3⟩⟩
  unfold X4_reduce
  obtain ⟨z, ez, hz⟩ := OK_ex key
  have gp : 0 < Nat.gcd A B := Nat.gcd_pos_of_pos_right A hB1
  have gl : Nat.gcd A B ≤ B := Nat.le_of_dvd hB1 (Nat.gcd_dvd_right A B)
  rw [ez, hz, Option.bind_some, if_pos (fun q => by have := (w64_nz (b := Nat.gcd A B) (by omega)).mp q; omega)]
  unfold X4_reduce_j29
  have wn : w64 ((Nat.gcd A B : Nat) : Int) ≠ 0 := by
    rw [w64_id (by omega) (by omega)]
    omega
  rw [if_pos wn, if_pos wn, div64_nn (by omega) (by omega) (by omega) (by omega), div64_nn (by omega) (by omega) (by omega) (by omega), Int.natCast_ediv, Int.natCast_ediv]
