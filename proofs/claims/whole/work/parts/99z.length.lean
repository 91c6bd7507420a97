/-! LENGTH, SPAN -/
theorem sh32_u : ∀ p : Fin 32, ((Int32.ofInt (p.val : Int)).toUInt32 &&& Int32.toUInt32 31) = UInt32.ofNat p.val ∧ ((UInt32.ofNat p.val).toBitVec % 32).toNat = p.val := by decide +kernel
theorem ushr32_n {z p : Nat} (hz : z < 2147483648) (hp : p < 32) : ushr32 (z : Int) (p : Int) = ((z / 2 ^ p : Nat) : Int) := by
  unfold ushr32
  obtain ⟨h1, h2⟩ := sh32_u ⟨p, hp⟩
  dsimp only at h1 h2
  rw [h1]
  show ((Int32.ofInt (z : Int)).toUInt32 >>> UInt32.ofNat p).toBitVec.toInt = _
  have e : ((Int32.ofInt (z : Int)).toUInt32 >>> UInt32.ofNat p).toBitVec.toNat = z / 2 ^ p := by
    rw [UInt32.toBitVec_shiftRight]
    show ((Int32.ofInt (z : Int)).toUInt32.toBitVec >>> ((UInt32.ofNat p).toBitVec % 32).toNat).toNat = _
    rw [BitVec.toNat_ushiftRight, h2, Nat.shiftRight_eq_div_pow]
    congr 1
    show (BitVec.ofInt 32 (z : Int)).toNat = z
    rw [BitVec.toNat_ofInt]
    omega
  have l : z / 2 ^ p ≤ z := Nat.div_le_self _ _
  rw [BitVec.toInt_eq_toNat_of_lt (by rw [e]; omega), e]
theorem lg_big {z K p : Nat} (h1 : 2 ^ K ≤ z) (h2 : z < 2 ^ (K + 1)) (hp : 2 ^ p ≤ z) : p ≤ K ∧ 2 ^ (K - p) ≤ z / 2 ^ p ∧ z / 2 ^ p < 2 ^ (K - p + 1) := by
  have hpK : p ≤ K := by
    by_cases c : p ≤ K
    · exact c
    · have := Nat.pow_le_pow_right (n := 2) (by decide) (show K + 1 ≤ p by omega)
      omega
  have pp : 0 < 2 ^ p := Nat.pos_of_ne_zero (by
    intro q
    have := Nat.one_le_two_pow (n := p)
    omega)
  refine ⟨hpK, ?_, ?_⟩
  · rw [Nat.le_div_iff_mul_le pp, ← Nat.pow_add, show K - p + p = K from by omega]
    exact h1
  · rw [Nat.div_lt_iff_lt_mul pp, ← Nat.pow_add, show K - p + 1 + p = K + 1 from by omega]
    exact h2
theorem lg_small {z K p : Nat} (h1 : 2 ^ K ≤ z) (hp : z < 2 ^ p) : K < p := by
  by_cases c : K < p
  · exact c
  · have := Nat.pow_le_pow_right (n := 2) (by decide) (show p ≤ K by omega)
    omega
theorem nl42 {z K : Nat} {n : Int} (h1 : 2 ^ K ≤ z) (h2 : z < 2 ^ (K + 1)) (h : z < 4) : J6_numberOfLeadingZeros_j42 (z : Int) n = some (n - (K : Int)) := by
  unfold J6_numberOfLeadingZeros_j42
  have e := ushr32_n (z := z) (p := 1) (by omega) (by decide)
  rw [show ushr32 (z : Int) 1 = ushr32 (z : Int) ((1 : Nat) : Int) from rfl, e]
  have hK := lg_small (p := 2) h1 h
  have : K = 0 ∨ K = 1 := by omega
  rcases this with q | q
  · subst q
    have : z = 1 := by omega
    subst this
    rfl
  · subst q
    have : z = 2 ∨ z = 3 := by omega
    rcases this with r | r <;> subst r <;> rfl
theorem nl34 {z K : Nat} {n : Int} (h1 : 2 ^ K ≤ z) (h2 : z < 2 ^ (K + 1)) (h : z < 16) : J6_numberOfLeadingZeros_j34 (z : Int) n = some (n - (K : Int)) := by
  unfold J6_numberOfLeadingZeros_j34
  rw [w32_id (z := (z : Int)) (by omega) (by omega), show w32 4 = 4 from rfl]
  by_cases c : z < 4
  · rw [if_pos (by omega), nl42 h1 h2 c]
  · obtain ⟨a, b, d⟩ := lg_big (p := 2) h1 h2 (by omega)
    have e := ushr32_n (z := z) (p := 2) (by omega) (by decide)
    rw [if_neg (by omega), show ushr32 (z : Int) 2 = ushr32 (z : Int) ((2 : Nat) : Int) from rfl, e, nl42 b d (by omega)]
    congr 1
    omega
theorem nl26 {z K : Nat} {n : Int} (h1 : 2 ^ K ≤ z) (h2 : z < 2 ^ (K + 1)) (h : z < 256) : J6_numberOfLeadingZeros_j26 (z : Int) n = some (n - (K : Int)) := by
  unfold J6_numberOfLeadingZeros_j26
  rw [w32_id (z := (z : Int)) (by omega) (by omega), show w32 16 = 16 from rfl]
  by_cases c : z < 16
  · rw [if_pos (by omega), nl34 h1 h2 c]
  · obtain ⟨a, b, d⟩ := lg_big (p := 4) h1 h2 (by omega)
    have e := ushr32_n (z := z) (p := 4) (by omega) (by decide)
    rw [if_neg (by omega), show ushr32 (z : Int) 4 = ushr32 (z : Int) ((4 : Nat) : Int) from rfl, e, nl34 b d (by omega)]
    congr 1
    omega
theorem nl18 {z K : Nat} {n : Int} (h1 : 2 ^ K ≤ z) (h2 : z < 2 ^ (K + 1)) (h : z < 65536) : J6_numberOfLeadingZeros_j18 (z : Int) n = some (n - (K : Int)) := by
  unfold J6_numberOfLeadingZeros_j18
  rw [w32_id (z := (z : Int)) (by omega) (by omega), show w32 256 = 256 from rfl]
  by_cases c : z < 256
  · rw [if_pos (by omega), nl26 h1 h2 c]
  · obtain ⟨a, b, d⟩ := lg_big (p := 8) h1 h2 (by omega)
    have e := ushr32_n (z := z) (p := 8) (by omega) (by decide)
    rw [if_neg (by omega), show ushr32 (z : Int) 8 = ushr32 (z : Int) ((8 : Nat) : Int) from rfl, e, nl26 b d (by omega)]
    congr 1
    omega
theorem nl32 {z K : Nat} (h1 : 2 ^ K ≤ z) (h2 : z < 2 ^ (K + 1)) (h : z < 2147483648) : J6_numberOfLeadingZeros (z : Int) = some (31 - (K : Int)) := by
  unfold J6_numberOfLeadingZeros
  have pz := Nat.one_le_two_pow (n := K)
  rw [w32_id (z := (z : Int)) (by omega) (by omega), show w32 65536 = 65536 from rfl, if_pos (by omega)]
  by_cases c : z < 65536
  · rw [if_pos (by omega), nl18 h1 h2 c]
  · obtain ⟨a, b, d⟩ := lg_big (p := 16) h1 h2 (by omega)
    have e := ushr32_n (z := z) (p := 16) (by omega) (by decide)
    rw [if_neg (by omega), show ushr32 (z : Int) 16 = ushr32 (z : Int) ((16 : Nat) : Int) from rfl, e, nl18 b d (by omega)]
    congr 1
    omega
theorem l2i_bd (z : Int) : -2147483648 ≤ l2i z ∧ l2i z < 2147483648 := by
  unfold l2i
  exact ⟨by have := Int32.le_toInt (Int64.ofInt z).toInt32; omega, by have := Int32.toInt_lt (Int64.ofInt z).toInt32; omega⟩
theorem nlz_s {v : Int} {K : Nat} (hK : K < 40) (h1 : 2 ^ K ≤ uNat v) (h2 : uNat v < 2 ^ (K + 1)) : J13_numberOfLeadingZeros v = some (63 - (K : Int)) := by
  unfold J13_numberOfLeadingZeros
  have e1 := u_ushr (v := v) (p := 32) (by decide)
  have m1 := l2i_mod (ushr64 v 32)
  have b1 := l2i_bd (ushr64 v 32)
  have u1 := u_mod (ushr64 v 32)
  have m2 := l2i_mod v
  have b2 := l2i_bd v
  have u2 := u_mod v
  have ul : uNat v < 2 ^ 40 := Nat.lt_of_lt_of_le h2 (Nat.pow_le_pow_right (by decide) (by omega))
  have ul2 : uNat v < 1099511627776 := ul
  have e2 : uNat (ushr64 v 32) = uNat v / 4294967296 := e1
  rw [e2] at u1
  have hi : l2i (ushr64 v 32) = ((uNat v / 4294967296 : Nat) : Int) := by omega
  rw [hi, w32_id (z := ((uNat v / 4294967296 : Nat) : Int)) (by omega) (by omega)]
  by_cases c : uNat v < 4294967296
  · rw [if_neg (by omega)]
    by_cases d : uNat v < 2147483648
    · have e3 : l2i v = (uNat v : Int) := by omega
      rw [e3, nl32 h1 h2 d, Option.bind_some]
      congr 1
      omega
    · have k1 := lg_small (p := 32) h1 c
      have k2 : 31 ≤ K := by
        obtain ⟨a, -⟩ := lg_big (p := 31) h1 h2 (by omega)
        exact a
      have e3 : l2i v < 0 := by omega
      unfold J6_numberOfLeadingZeros
      rw [w32_id b2.1 b2.2, if_neg (by omega), if_pos (by omega), Option.bind_some]
      congr 1
      omega
  · obtain ⟨a, b, d⟩ := lg_big (p := 32) h1 h2 (by omega)
    have hd : uNat v / 2 ^ 32 < 2147483648 := by
      rw [show (2 : Nat) ^ 32 = 4294967296 from by decide]
      omega
    have hb : ((uNat v / 4294967296 : Nat) : Int) = ((uNat v / 2 ^ 32 : Nat) : Int) := by rw [show (2 : Nat) ^ 32 = 4294967296 from by decide]
    rw [if_pos (by omega), hb, nl32 b d hd, Option.bind_some]
    congr 1
    omega
/-- the highest place that is set -/
theorem great_s {v : Int} (hz : ∀ j, 40 ≤ j → j < 64 → tb v j = false) (hv : uNat v ≠ 0) : ∃ K, K < 40 ∧ 2 ^ K ≤ uNat v ∧ uNat v < 2 ^ (K + 1) ∧ X12_greatestOf v = some ((K + 1 : Nat) : Int) := by
  have key : OK (iter (X12_greatestOf_l4 v) FU (0, 0)) (fun z => ∃ g : Nat, z = (g : Int) ∧ g ≤ 40 ∧ (g = 0 ∨ tb v (g - 1) = true) ∧ ∀ i, g ≤ i → i < 40 → tb v i = false) := by
    refine iter_up (fun p s => ∃ g : Nat, s = ((g : Int), (p : Int)) ∧ g ≤ p ∧ (g = 0 ∨ tb v (g - 1) = true) ∧ ∀ i, g ≤ i → i < p → tb v i = false) _ 40 (by omega) (fun p s hp hI => ?_) ⟨0, rfl, by omega, Or.inl rfl, fun i h1 h2 => by omega⟩
    obtain ⟨g, rfl, hg, hb, hf⟩ := hI
    unfold X12_greatestOf_l4 X12_greatestOf_j16
    dsimp only
    rw [w32_id (z := (p : Int)) (by omega) (by omega), show w32 40 = 40 from rfl]
    refine OK_if (fun c => ?_) (fun c => ?_)
    · rw [OK_some, LQ_r]
      exact ⟨g, rfl, by omega, hb, fun i h1 h2 => hf i h1 (by omega)⟩
    · rw [has_m (by omega), OK_bindE, OK_some]
      by_cases d : tb v p = true
      · rw [if_pos d]
        refine OK_gn (by decide) ?_
        rw [OK_some, LQ_l]
        exact ⟨by omega, p + 1, rfl, by omega, Or.inr d, fun i h1 h2 => by omega⟩
      · rw [if_neg d]
        refine OK_gd (by decide) ?_
        rw [OK_some, LQ_l]
        refine ⟨by omega, g, rfl, by omega, hb, fun i h1 h2 => ?_⟩
        by_cases q : i = p
        · subst q
          simpa using d
        · exact hf i h1 (by omega)
  obtain ⟨z, ez, g, rfl, hg, hb, hf⟩ := OK_ex key
  have hlt : uNat v < 2 ^ g := Nat.lt_pow_two_of_testBit _ (fun i hi => by
    by_cases c : i < 40
    · exact hf i hi c
    · by_cases d : i < 64
      · exact hz i (by omega) d
      · exact Nat.testBit_lt_two_pow (Nat.lt_of_lt_of_le (u_pow v) (Nat.pow_le_pow_right (by decide) (by omega))))
  rcases hb with rfl | hb
  · rw [Nat.pow_zero] at hlt
    omega
  · have g1 : 1 ≤ g := by
      by_cases c : g = 0
      · subst c
        rw [Nat.pow_zero] at hlt
        omega
      · omega
    refine ⟨g - 1, by omega, Nat.ge_two_pow_of_testBit hb, by rw [show g - 1 + 1 = g from by omega]; exact hlt, ?_⟩
    unfold X12_greatestOf
    rw [ez, Option.bind_some, show g - 1 + 1 = g from by omega]
theorem cn_bd {v : Int} {K : Nat} (h2 : uNat v < 2 ^ (K + 1)) (hK : K < 40) : cnBt (tb v) 64 ≤ K + 1 := by
  have := cnBt_ext (f := tb v) (n := K + 1) (63 - K) (fun i h3 h4 => Nat.testBit_lt_two_pow (Nat.lt_of_lt_of_le h2 (Nat.pow_le_pow_right (by decide) h3)))
  rw [show K + 1 + (63 - K) = 64 from by omega] at this
  rw [this]
  exact cnBt_le _ _
/-- the odds that so many are the length -/
def upG (v : Int) (K : Nat) : Nat := chN K (cnBt (tb v) 64 - 1)
def dnG (v : Int) (n : Nat) : Nat := chN n (cnBt (tb v) 64)
theorem ofG_s {v : Int} {K n : Nat} {h : Hp} (hK : K < 40) (h1 : 2 ^ K ≤ uNat v) (h2 : uNat v < 2 ^ (K + 1)) (hn : n ≤ 40) : X4_ofGreatest v (n : Int) h = some (if n < K + 1 then setH (setH h 52 0 0) 52 1 1 else setH (setH h 52 0 ((upG v K / Nat.gcd (upG v K) (dnG v n) : Nat) : Int)) 52 1 ((dnG v n / Nat.gcd (upG v K) (dnG v n) : Nat) : Int)) := by
  have cb := cn_bd h2 hK
  have c0 : cnBt (tb v) 64 ≠ 0 := fun q => by
    have := (cn_z v).mp q
    have := Nat.one_le_two_pow (n := K)
    omega
  unfold X4_ofGreatest
  rw [bitCount_s, Option.bind_some, nlz_s hK h1 h2, Option.bind_some, w32_id (z := 64 - (63 - (K : Int))) (by omega) (by omega), w32_id (z := (n : Int)) (by omega) (by omega)]
  by_cases c : n < K + 1
  · rw [if_neg (by omega), if_pos c]
    have := reduce_s (A := 0) (B := 1) (h := h) (by omega) (by omega) (by omega)
    rw [show X4_reduce 0 1 h = X4_reduce ((0 : Nat) : Int) ((1 : Nat) : Int) h from rfl, this]
    rfl
  · rw [if_pos (by omega), if_neg c]
    have e1 : (64 - (63 - (K : Int))) - 1 = (K : Int) := by omega
    have e2 : ((cnBt (tb v) 64 : Nat) : Int) - 1 = ((cnBt (tb v) 64 - 1 : Nat) : Int) := by omega
    rw [e1, e2, choose_s (by omega) (by omega), Option.bind_some, choose_s (by omega) (by omega), Option.bind_some]
    have b1 := (chN_b (n := K) (k := cnBt (tb v) 64 - 1) (by omega)).2
    have b2 := (chN_b (n := n) (k := cnBt (tb v) 64) (by omega)).2
    have p2 := chN_p (n := n) (k := cnBt (tb v) 64) (by omega) (by omega)
    rw [reduce_s (by omega) (by omega) p2, Option.bind_some]
    rfl
theorem length_b {x m : Hp} (R : RS x m) {a b c : Int} (ha : I32 a) (hb : I32 b) (hc : I32 c) : OK (X11_length a b c x) (fun z => OK (X12_length a b c m) (fun w => z.1 = w ∧ ∀ e j, e ≠ 52 → z.2 e j = x e j)) := by
  obtain ⟨⟨⟨-, e33, -, -⟩, -⟩, S⟩ := id R
  obtain ⟨⟨-, b3, -, -⟩, -⟩ := id S
  unfold X11_length X12_length
  simp only [x_isK (h := x) (by omega) (by omega), m_isK (h := m) (by omega) (by omega), e33, I32_w ha, I32_w hb, I32_w hc, within_in (a := b) (b := 1) (c := 40) (by omega) (by omega) hb.1 hb.2 (by omega) (by omega), lies_in (a := b) (b := 1) (c := 40) (by have := hb.1; omega) (by have := hb.2; omega) (by omega) (by omega) (by omega) (by omega), within_in (a := c) (b := 0) (c := 1) (by omega) (by omega) hc.1 hc.2 (by omega) (by omega), lies_in (a := c) (b := 0) (c := 1) (by have := hc.1; omega) (by have := hc.2; omega) (by omega) (by omega) (by omega) (by omega), Option.bind_some]
  by_cases d1 : 0 ≤ a ∧ a < m 150 3
  · by_cases d2 : 1 ≤ b ∧ b ≤ 40
    · by_cases d3 : 0 ≤ c ∧ c ≤ 1
      · simp only [if_pos d1, if_pos d2, if_pos d3, q1, qn1, if_true, if_false]
        refine OK2_bind (OK2_mono (told_b R ha) (fun z w h => ?_))
        obtain ⟨rfl, hw, hz⟩ := h
        by_cases e0 : uNat z = 0
        · have := (cmp_z z).mpr e0
          rw [if_neg (fun q => q this), if_neg (fun q => q this)]
          exact ⟨rfl, fun _ _ _ => rfl⟩
        · have hne : w32 (cmp64 z 0) ≠ 0 := fun q => e0 ((cmp_z z).mp q)
          obtain ⟨K, hK, h1, h2, eg⟩ := great_s hz e0
          obtain ⟨n, rfl⟩ := Int.eq_ofNat_of_zero_le (show 0 ≤ b by omega)
          have cb := cn_bd h2 hK
          have c0 : cnBt (tb z) 64 ≠ 0 := fun q => e0 ((cn_z z).mp q)
          rw [if_pos hne, if_pos hne, ofG_s hK h1 h2 (by omega), eg, Option.bind_some, Option.bind_some, w32_id (z := ((K + 1 : Nat) : Int)) (by omega) (by omega)]
          by_cases f : n < K + 1
          · rw [if_pos f, if_neg (show ¬ ((K + 1 : Nat) : Int) ≤ (n : Int) by omega)]
            by_cases g : c ≠ 0
            · rw [if_pos g]
              have : c = 1 := by omega
              subst this
              unfold X4_below
              rw [setH_s]
              exact ⟨rfl, fun e j he => by dsimp only; rw [setH_o he, setH_o he]⟩
            · rw [if_neg g]
              have : c = 0 := by omega
              subst this
              unfold X4_above
              rw [setH_n (by decide), setH_s]
              exact ⟨rfl, fun e j he => by dsimp only; rw [setH_o he, setH_o he]⟩
          · rw [if_neg f, if_pos (show ((K + 1 : Nat) : Int) ≤ (n : Int) by omega), sizeOf_s, Option.bind_some]
            have e1 : ((K + 1 : Nat) : Int) - 1 = (K : Int) := by omega
            have e2 : ((cnBt (tb z) 64 : Nat) : Int) - 1 = ((cnBt (tb z) 64 - 1 : Nat) : Int) := by omega
            have b1 := (chN_b (n := K) (k := cnBt (tb z) 64 - 1) (by omega)).2
            have b2 := (chN_b (n := n) (k := cnBt (tb z) 64) (by omega)).2
            have p2 := chN_p (n := n) (k := cnBt (tb z) 64) (by omega) (by omega)
            rw [e1, e2, choices_s (by omega) (by omega), Option.bind_some, Option.bind_some, choices_s (by omega) (by omega), Option.bind_some, divisor_s (by omega) (by omega), Option.bind_some]
            have gp : 0 < Nat.gcd (chN K (cnBt (tb z) 64 - 1)) (chN n (cnBt (tb z) 64)) := Nat.gcd_pos_of_pos_right _ p2
            have gl : Nat.gcd (chN K (cnBt (tb z) 64 - 1)) (chN n (cnBt (tb z) 64)) ≤ chN n (cnBt (tb z) 64) := Nat.le_of_dvd p2 (Nat.gcd_dvd_right _ _)
            have wn : w64 ((Nat.gcd (chN K (cnBt (tb z) 64 - 1)) (chN n (cnBt (tb z) 64)) : Nat) : Int) ≠ 0 := by
              rw [w64_id (by omega) (by omega)]
              omega
            rw [if_pos wn, if_pos wn, div64_nn (by omega) (by omega) (by omega) (by omega), div64_nn (by omega) (by omega) (by omega) (by omega)]
            by_cases g : c ≠ 0
            · rw [if_pos g, if_pos g]
              unfold X4_below
              rw [setH_s]
              exact ⟨rfl, fun e j he => by dsimp only; rw [setH_o he, setH_o he]⟩
            · rw [if_neg g, if_neg g]
              unfold X4_above
              rw [setH_n (by decide), setH_s]
              exact ⟨rfl, fun e j he => by dsimp only; rw [setH_o he, setH_o he]⟩
      · simp only [if_pos d1, if_pos d2, if_neg d3, q1, q0, qn0, if_true, if_false]
        exact ⟨rfl, fun _ _ _ => rfl⟩
    · simp only [if_pos d1, if_neg d2, q1, q0, qn0, if_true, if_false]
      exact ⟨rfl, fun _ _ _ => rfl⟩
  · simp only [if_neg d1, q0, if_true]
    exact ⟨rfl, fun _ _ _ => rfl⟩
