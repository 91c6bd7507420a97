/-! counting bits: the sums of the last steps -/
theorem pa_A {d T S : Nat} (l : d ≤ 8) (e : S = d + 256 * T) : S / 256 = T := by omega
theorem pa_C {a b U S : Nat} (la : a ≤ 16) (lb : b ≤ 16) (e : S = a + 256 * b + 65536 * U) : S / 65536 = U := by omega
theorem pa_E {a b c d U S : Nat} (la : a ≤ 32) (lb : b ≤ 32) (lc : c ≤ 32) (ld : d ≤ 32) (e : S = a + 256 * b + 65536 * c + 16777216 * d + 4294967296 * U) : S / 4294967296 = U := by
  have h : a + 256 * b + 65536 * c + 16777216 * d < 4294967296 := by omega
  generalize a + 256 * b + 65536 * c + 16777216 * d = r at e h
  clear la lb lc ld
  omega
theorem pa_G {N T S : Nat} (l : N ≤ 64) (e : S = N + 256 * T) : S % 256 = N := by omega
theorem pa_B (d0 d1 d2 d3 d4 d5 d6 d7 : Nat) : (d0 + 256 * (d1 + 256 * (d2 + 256 * (d3 + 256 * (d4 + 256 * (d5 + 256 * (d6 + 256 * d7))))))) + (d1 + 256 * (d2 + 256 * (d3 + 256 * (d4 + 256 * (d5 + 256 * (d6 + 256 * d7)))))) = (d0 + d1) + 256 * (d1 + d2) + 65536 * ((d2 + d3) + 256 * ((d3 + d4) + 256 * ((d4 + d5) + 256 * ((d5 + d6) + 256 * ((d6 + d7) + 256 * d7))))) := by omega
theorem pa_D (d0 d1 d2 d3 d4 d5 d6 d7 : Nat) : ((d0 + d1) + 256 * (d1 + d2) + 65536 * ((d2 + d3) + 256 * ((d3 + d4) + 256 * ((d4 + d5) + 256 * ((d5 + d6) + 256 * ((d6 + d7) + 256 * d7)))))) + ((d2 + d3) + 256 * ((d3 + d4) + 256 * ((d4 + d5) + 256 * ((d5 + d6) + 256 * ((d6 + d7) + 256 * d7))))) = (d0 + d1 + d2 + d3) + 256 * (d1 + d2 + d3 + d4) + 65536 * (d2 + d3 + d4 + d5) + 16777216 * (d3 + d4 + d5 + d6) + 4294967296 * ((d4 + d5 + d6 + d7) + 256 * ((d5 + d6 + d7) + 256 * ((d6 + d7) + 256 * d7))) := by omega
theorem pa_F (d0 d1 d2 d3 d4 d5 d6 d7 : Nat) : ((d0 + d1 + d2 + d3) + 256 * (d1 + d2 + d3 + d4) + 65536 * (d2 + d3 + d4 + d5) + 16777216 * (d3 + d4 + d5 + d6) + 4294967296 * ((d4 + d5 + d6 + d7) + 256 * ((d5 + d6 + d7) + 256 * ((d6 + d7) + 256 * d7)))) + ((d4 + d5 + d6 + d7) + 256 * ((d5 + d6 + d7) + 256 * ((d6 + d7) + 256 * d7))) = (d0 + (d1 + (d2 + (d3 + (d4 + (d5 + (d6 + d7))))))) + 256 * ((d1 + d2 + d3 + d4) + 256 * (d2 + d3 + d4 + d5) + 65536 * (d3 + d4 + d5 + d6) + 16777216 * ((d4 + d5 + d6 + d7) + 256 * ((d5 + d6 + d7) + 256 * ((d6 + d7) + 256 * d7))) + ((d5 + d6 + d7) + 256 * ((d6 + d7) + 256 * d7))) := by omega
theorem pop_add {d0 d1 d2 d3 d4 d5 d6 d7 S S4 S5 S6 : Nat} (l0 : d0 ≤ 8) (l1 : d1 ≤ 8) (l2 : d2 ≤ 8) (l3 : d3 ≤ 8) (l4 : d4 ≤ 8) (l5 : d5 ≤ 8) (l6 : d6 ≤ 8) (l7 : d7 ≤ 8) (eS : S = d0 + 256 * (d1 + 256 * (d2 + 256 * (d3 + 256 * (d4 + 256 * (d5 + 256 * (d6 + 256 * d7))))))) (e4 : S4 = S + S / 256) (e5 : S5 = S4 + S4 / 65536) (e6 : S6 = S5 + S5 / 4294967296) : S6 % 256 = d0 + (d1 + (d2 + (d3 + (d4 + (d5 + (d6 + d7)))))) := by
  have a1 := pa_A l0 eS
  rw [a1, eS, pa_B] at e4
  have a2 := pa_C (Nat.add_le_add l0 l1) (Nat.add_le_add l1 l2) e4
  rw [a2, e4, pa_D] at e5
  have a3 := pa_E (Nat.add_le_add (Nat.add_le_add (Nat.add_le_add l0 l1) l2) l3) (Nat.add_le_add (Nat.add_le_add (Nat.add_le_add l1 l2) l3) l4) (Nat.add_le_add (Nat.add_le_add (Nat.add_le_add l2 l3) l4) l5) (Nat.add_le_add (Nat.add_le_add (Nat.add_le_add l3 l4) l5) l6) e5
  rw [a3, e5, pa_F] at e6
  exact pa_G (Nat.add_le_add l0 (Nat.add_le_add l1 (Nat.add_le_add l2 (Nat.add_le_add l3 (Nat.add_le_add l4 (Nat.add_le_add l5 (Nat.add_le_add l6 l7))))))) e6
