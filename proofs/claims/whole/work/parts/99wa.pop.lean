theorem pB6_s {v : Int} {S : Nat} (e3 : uNat (pB3 v) = S) (hS : S < 1152921504606846976) : uNat (pB6 v) = ((S + S / 256) + (S + S / 256) / 65536) + ((S + S / 256) + (S + S / 256) / 65536) / 4294967296 := by
  have p8 : (2 : Nat) ^ 8 = 256 := by decide
  have p16 : (2 : Nat) ^ 16 = 65536 := by decide
  have p32 : (2 : Nat) ^ 32 = 4294967296 := by decide
  have e4 : uNat (pB4 v) = S + S / 2 ^ 8 := u_add8 (z := pB3 v) (p := 8) (by decide) e3 (by rw [p8]; omega)
  rw [p8] at e4
  have e5 : uNat (pB5 v) = (S + S / 256) + (S + S / 256) / 2 ^ 16 := u_add8 (z := pB4 v) (p := 16) (by decide) e4 (by rw [p16]; omega)
  rw [p16] at e5
  have e6 : uNat (pB6 v) = ((S + S / 256) + (S + S / 256) / 65536) + ((S + S / 256) + (S + S / 256) / 65536) / 2 ^ 32 := u_add8 (z := pB5 v) (p := 32) (by decide) e5 (by rw [p32]; omega)
  rw [p32] at e6
  exact e6
theorem pS_lt {d0 d1 d2 d3 d4 d5 d6 d7 S : Nat} (l0 : d0 ≤ 8) (l1 : d1 ≤ 8) (l2 : d2 ≤ 8) (l3 : d3 ≤ 8) (l4 : d4 ≤ 8) (l5 : d5 ≤ 8) (l6 : d6 ≤ 8) (l7 : d7 ≤ 8) (eS : S = d0 + 256 * (d1 + 256 * (d2 + 256 * (d3 + 256 * (d4 + 256 * (d5 + 256 * (d6 + 256 * d7))))))) : S < 1152921504606846976 := by omega
theorem p128 {U N : Nat} {L P : Int} (key : U % 256 = N) (b : N ≤ 64) (m1 : ((U : Int) - P) % 18446744073709551616 = 0) (m2 : (L - P) % 4294967296 = 0) : L % 128 = (N : Int) := by omega
theorem bC_s (v : Int) : J13_bitCount v = some ((pcN 8 (uNat v) : Nat) : Int) := by
  have eS : pcS 8 (uNat v) = pcB (uNat v % 256) + 256 * (pcB (uNat v / 256 % 256) + 256 * (pcB (uNat v / 256 / 256 % 256) + 256 * (pcB (uNat v / 256 / 256 / 256 % 256) + 256 * (pcB (uNat v / 256 / 256 / 256 / 256 % 256) + 256 * (pcB (uNat v / 256 / 256 / 256 / 256 / 256 % 256) + 256 * (pcB (uNat v / 256 / 256 / 256 / 256 / 256 / 256 % 256) + 256 * (pcB (uNat v / 256 / 256 / 256 / 256 / 256 / 256 / 256 % 256)))))))) := by
    rw [pcS_s, pcS_s, pcS_s, pcS_s, pcS_s, pcS_s, pcS_s, pcS_s, pcS, Nat.mul_zero, Nat.add_zero]
  have eN : pcN 8 (uNat v) = pcB (uNat v % 256) + (pcB (uNat v / 256 % 256) + (pcB (uNat v / 256 / 256 % 256) + (pcB (uNat v / 256 / 256 / 256 % 256) + (pcB (uNat v / 256 / 256 / 256 / 256 % 256) + (pcB (uNat v / 256 / 256 / 256 / 256 / 256 % 256) + (pcB (uNat v / 256 / 256 / 256 / 256 / 256 / 256 % 256) + (pcB (uNat v / 256 / 256 / 256 / 256 / 256 / 256 / 256 % 256)))))))) := by
    simp only [pcN, Nat.add_zero]
  have l0 := pcB_le (uNat v % 256)
  have l1 := pcB_le (uNat v / 256 % 256)
  have l2 := pcB_le (uNat v / 256 / 256 % 256)
  have l3 := pcB_le (uNat v / 256 / 256 / 256 % 256)
  have l4 := pcB_le (uNat v / 256 / 256 / 256 / 256 % 256)
  have l5 := pcB_le (uNat v / 256 / 256 / 256 / 256 / 256 % 256)
  have l6 := pcB_le (uNat v / 256 / 256 / 256 / 256 / 256 / 256 % 256)
  have l7 := pcB_le (uNat v / 256 / 256 / 256 / 256 / 256 / 256 / 256 % 256)
  have e3 := u_pB3 v
  rw [bC_fold, and127, eN]
  generalize pcB (uNat v % 256) = d0 at l0 eS ⊢
  generalize pcB (uNat v / 256 % 256) = d1 at l1 eS ⊢
  generalize pcB (uNat v / 256 / 256 % 256) = d2 at l2 eS ⊢
  generalize pcB (uNat v / 256 / 256 / 256 % 256) = d3 at l3 eS ⊢
  generalize pcB (uNat v / 256 / 256 / 256 / 256 % 256) = d4 at l4 eS ⊢
  generalize pcB (uNat v / 256 / 256 / 256 / 256 / 256 % 256) = d5 at l5 eS ⊢
  generalize pcB (uNat v / 256 / 256 / 256 / 256 / 256 / 256 % 256) = d6 at l6 eS ⊢
  generalize pcB (uNat v / 256 / 256 / 256 / 256 / 256 / 256 / 256 % 256) = d7 at l7 eS ⊢
  generalize pcS 8 (uNat v) = S at e3 eS
  have e6 := pB6_s e3 (pS_lt l0 l1 l2 l3 l4 l5 l6 l7 eS)
  have key := pop_add l0 l1 l2 l3 l4 l5 l6 l7 eS rfl rfl e6
  rw [p128 key (Nat.add_le_add l0 (Nat.add_le_add l1 (Nat.add_le_add l2 (Nat.add_le_add l3 (Nat.add_le_add l4 (Nat.add_le_add l5 (Nat.add_le_add l6 l7))))))) (u_mod (pB6 v)) (l2i_mod (pB6 v))]
