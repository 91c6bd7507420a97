/-! THE TAPE: seed, feed, check -/
def RT (x m : Hp) : Prop := (x 1 1 = m 150 1 ∧ 0 ≤ m 150 1 ∧ m 150 1 ≤ 200) ∧ (x 0 15 = m 150 6 ∧ 0 ≤ m 150 6 ∧ m 150 6 ≤ 65535) ∧ (∀ i, x 2 i = m 151 i % 256 ∧ -128 ≤ m 151 i ∧ m 151 i ≤ 127)
theorem RT_cg {x m x' m' : Hp} (h1 : x' 1 1 = x 1 1) (h2 : x' 0 15 = x 0 15) (h3 : x' 2 = x 2) (h4 : m' 150 1 = m 150 1) (h5 : m' 150 6 = m 150 6) (h6 : m' 151 = m 151) (R : RT x m) : RT x' m' := by
  unfold RT
  rw [h1, h2, h3, h4, h5, h6]
  exact R
theorem seed_b {x m : Hp} (R : RT x m) {a : Int} (ha : I32 a) : OK (X11_seed a x) (fun z => OK (X12_seed a m) (fun w => z.1 = w.1 ∧ RT z.2 w.2 ∧ (∀ c j, ¬ (c = 0 ∧ j = 15) → z.2 c j = x c j) ∧ (∀ c j, ¬ (c = 150 ∧ j = 6) → w.2 c j = m c j))) := by
  obtain ⟨r1, r2, r3⟩ := id R
  unfold X11_seed X12_seed
  simp only [within_in (a := a) (b := 0) (c := 65535) (by omega) (by omega) ha.1 ha.2 (by omega) (by omega), I32_w ha, lies_in (a := a) (b := 0) (c := 65535) (by have := ha.1; omega) (by have := ha.2; omega) (by omega) (by omega) (by omega) (by omega), OK_bindE, OK_some]
  by_cases c : 0 ≤ a ∧ a ≤ 65535
  · simp only [if_pos c, qn1, if_true, OK_some]
    refine ⟨by trivial, ⟨r1, ⟨?_, ?_, ?_⟩, ?_⟩, fun c j h => setH_f h, fun c j h => setH_f h⟩
    · rw [setH_s, setH_s]
    · rw [setH_s]
      exact c.1
    · rw [setH_s]
      exact c.2
    · rw [setH_o (by decide), setH_o (by decide)]
      exact r3
  · simp only [if_neg c, qn0, if_false, OK_some]
    refine ⟨by trivial, R, ?_, ?_⟩ <;> intros <;> first | rfl | trivial
theorem and255 (z : Int) : and32 z 255 = z % 256 := by
  unfold and32
  have e : (Int32.ofInt z &&& Int32.ofInt 255).toBitVec.toNat = (z % 4294967296).toNat % 256 := by
    rw [Int32.toBitVec_and, BitVec.toNat_and]
    show (BitVec.ofInt 32 z).toNat &&& 255 = _
    rw [BitVec.toNat_ofInt]
    exact Nat.and_two_pow_sub_one_eq_mod _ 8
  show (Int32.ofInt z &&& Int32.ofInt 255).toBitVec.toInt = _
  rw [BitVec.toInt_eq_toNat_of_lt (by omega), e]
  omega
theorem and65535 (z : Int) : and32 z 65535 = z % 65536 := by
  unfold and32
  have e : (Int32.ofInt z &&& Int32.ofInt 65535).toBitVec.toNat = (z % 4294967296).toNat % 65536 := by
    rw [Int32.toBitVec_and, BitVec.toNat_and]
    show (BitVec.ofInt 32 z).toNat &&& 65535 = _
    rw [BitVec.toNat_ofInt]
    exact Nat.and_two_pow_sub_one_eq_mod _ 16
  show (Int32.ofInt z &&& Int32.ofInt 65535).toBitVec.toInt = _
  rw [BitVec.toInt_eq_toNat_of_lt (by omega), e]
  omega
theorem b8_eq (z : Int) : -128 ≤ b8 z ∧ b8 z ≤ 127 ∧ (b8 z - z) % 256 = 0 := by
  have e : b8 z = (w32 z).bmod 256 := by
    unfold b8 w32
    rw [Int8.toInt_toInt32, Int32.toInt_toInt8]
  have h := w32_mod z
  rw [e]
  simp only [Int.bmod]
  split <;> omega
/-- the lowest byte of a number moved down, on both sides -/
theorem byte_b (v : Int) {s : Int} (hs : s = 24 ∨ s = 16 ∨ s = 8 ∨ s = 0) : and32 (ushr32 v s) 255 = b8 (b8 (shr32 v s)) % 256 := by
  have key : ∀ (d : Nat), (d = 0 ∨ d = 8 ∨ d = 16 ∨ d = 24) → s = d → (ushr32 v s - shr32 v s) % 256 = 0 := by
    intro d hd e
    subst e
    have u1 : ushr32 v (d : Int) = ((Int32.ofInt v).toUInt32 >>> ((Int32.ofInt (d : Int)).toUInt32 &&& Int32.toUInt32 31)).toInt32.toInt := rfl
    have u2 : shr32 v (d : Int) = (Int32.ofInt v >>> (Int32.ofInt (d : Int) &&& 31)).toInt := rfl
    have n1 : (Int32.ofInt v).toBitVec.toNat < 4294967296 := (Int32.ofInt v).toBitVec.isLt
    have n2 : (Int32.ofInt v).toBitVec.toInt = if 2 * (Int32.ofInt v).toBitVec.toNat < 4294967296 then ((Int32.ofInt v).toBitVec.toNat : Int) else (Int32.ofInt v).toBitVec.toNat - 4294967296 := BitVec.toInt_eq_toNat_cond _
    have a1 : ∃ k : Int, ushr32 v (d : Int) = (((Int32.ofInt v).toBitVec.toNat / 2 ^ d : Nat) : Int) + 4294967296 * k := by
      have t : (((Int32.ofInt v).toUInt32 >>> ((Int32.ofInt (d : Int)).toUInt32 &&& Int32.toUInt32 31)).toInt32).toBitVec.toNat = (Int32.ofInt v).toBitVec.toNat / 2 ^ d := by
        show ((Int32.ofInt v).toUInt32 >>> ((Int32.ofInt (d : Int)).toUInt32 &&& Int32.toUInt32 31)).toNat = _
        rw [UInt32.toNat_shiftRight]
        have q : ((Int32.ofInt (d : Int)).toUInt32 &&& Int32.toUInt32 31).toNat % 32 = d := by
          rcases hd with h | h | h | h <;> subst h <;> decide
        rw [q, Nat.shiftRight_eq_div_pow]
        rfl
      rw [u1]
      show ∃ k : Int, (((Int32.ofInt v).toUInt32 >>> ((Int32.ofInt (d : Int)).toUInt32 &&& Int32.toUInt32 31)).toInt32).toBitVec.toInt = _
      rw [BitVec.toInt_eq_toNat_cond, t]
      split
      · exact ⟨0, by omega⟩
      · exact ⟨-1, by omega⟩
    have a2 : shr32 v (d : Int) = (Int32.ofInt v).toBitVec.toInt / 2 ^ d := by
      rw [u2]
      show (Int32.ofInt v >>> (Int32.ofInt (d : Int) &&& 31)).toBitVec.toInt = _
      rw [Int32.toBitVec_shiftRight]
      have q : ((Int32.ofInt (d : Int) &&& 31).toBitVec.smod 32).toNat = d := by
        rcases hd with h | h | h | h <;> subst h <;> decide
      show ((Int32.ofInt v).toBitVec.sshiftRight ((Int32.ofInt (d : Int) &&& 31).toBitVec.smod 32).toNat).toInt = _
      rw [q, BitVec.toInt_sshiftRight, Int.shiftRight_eq_div_pow]
      rcases hd with h | h | h | h <;> subst h <;> rfl
    obtain ⟨k, a1⟩ := a1
    rw [a1, a2, n2]
    rcases hd with h | h | h | h <;> subst h <;> split <;> omega
  have h1 := b8_eq (shr32 v s)
  have h2 := b8_eq (b8 (shr32 v s))
  rw [and255]
  rcases hs with e | e | e | e
  · have := key 24 (by omega) e
    omega
  · have := key 16 (by omega) e
    omega
  · have := key 8 (by omega) e
    omega
  · have := key 0 (by omega) e
    omega
theorem push_b {x m : Hp} (R : RT x m) (v : Int) (h : m 150 1 + 4 ≤ 200) : OK (X9_push v x) (fun z => OK (X12_push v m) (fun w => RT z w ∧ w 150 1 = m 150 1 + 4 ∧ (∀ c j, ¬ (c = 1 ∧ j = 1) → c ≠ 2 → z c j = x c j) ∧ (∀ c j, ¬ (c = 150 ∧ j = 1) → c ≠ 151 → w c j = m c j))) := by
  unfold X9_push X12_push
  simp only [OK_bindE, OK_some]
  refine iter_2 (fun p s t => p ≤ 4 ∧ ∃ (hx hm : Hp), s = (24 - 8 * (p : Int), hx) ∧ t = (24 - 8 * (p : Int), hm) ∧ RT hx hm ∧ hm 150 1 = m 150 1 + p ∧ (∀ c j, ¬ (c = 1 ∧ j = 1) → c ≠ 2 → hx c j = x c j) ∧ (∀ c j, ¬ (c = 150 ∧ j = 1) → c ≠ 151 → hm c j = m c j)) _ 4 (by omega) (fun p s t hp hI => ?_) ⟨by omega, x, m, rfl, rfl, R, by omega, fun _ _ _ _ => rfl, fun _ _ _ _ => rfl⟩
  obtain ⟨hp4, hx, hm, rfl, rfl, R', hn, fx, fm⟩ := hI
  obtain ⟨⟨r1, r2, r3⟩, r4, r5⟩ := id R'
  unfold X9_push_l2 X12_push_l2 X9_push_j24
  (try dsimp only)
  simp (disch := omega) only [w32_id]
  refine OK_if (fun c => ?_) (fun c => ?_)
  · rw [OK_some, if_pos c, OK_some, LQ2_r]
    have : p = 4 := by omega
    subst this
    exact ⟨R', hn, fx, fm⟩
  · rw [if_neg c]
    have h0 : 0 ≤ hx 1 1 := by omega
    obtain ⟨n, en⟩ := Int.eq_ofNat_of_zero_le h0
    have en2 : hm 150 1 = (n : Int) := by omega
    refine OK_gn (by omega) ?_
    have bb := byte_b v (s := 24 - 8 * (p : Int)) (by omega)
    have b1 := b8_eq (b8 (shr32 v (24 - 8 * (p : Int))))
    have p1 := put_e (a := 2) (n := 200) (v := (n : Int)) (z := and32 (ushr32 v (24 - 8 * (p : Int))) 255) (h := hx) n rfl (by omega) (by omega)
    simp only [en, p1, OK_bindE, OK_some]
    refine OK_gi (by omega) (by omega) (by omega) ?_
    rw [OK_some, LQ2_l, setH_o (by decide), en, en2, tn]
    refine ⟨by omega, by omega, _, _, by rw [show (24 - 8 * (p : Int) + -8) = 24 - 8 * ((p + 1 : Nat) : Int) by omega], by rw [show (24 - 8 * (p : Int) + -8) = 24 - 8 * ((p + 1 : Nat) : Int) by omega], ⟨⟨?_, ?_, ?_⟩, ?_, ?_⟩, ?_, ?_, ?_⟩
    · rw [setH_s, setH_s]
    · rw [setH_s]
      omega
    · rw [setH_s]
      omega
    · rw [setH_o (by decide), setH_o (by decide), setH_n (by decide), setH_o (by decide)]
      exact r4
    · intro i
      simp (disch := decide) only [setH_o]
      by_cases e : i = n
      · subst e
        rw [setH_s, setH_s]
        exact ⟨bb, b1.1, b1.2.1⟩
      · rw [setH_n e, setH_n e]
        exact r5 i
    · rw [setH_s]
      omega
    · intro c j h1 h2
      rw [setH_f h1, setH_o h2]
      exact fx c j h1 h2
    · intro c j h1 h2
      rw [setH_f h1, setH_o h2]
      exact fm c j h1 h2
theorem feed_b {x m : Hp} (R : RT x m) (a b c d e : Int) : OK (X11_feed a b c d e x) (fun z => OK (X12_feed a b c d e m) (fun w => z.1 = w.1 ∧ RT z.2 w.2 ∧ (∀ c j, ¬ (c = 1 ∧ j = 1) → c ≠ 2 → z.2 c j = x c j) ∧ (∀ c j, ¬ (c = 150 ∧ j = 1) → c ≠ 151 → w.2 c j = m c j))) := by
  obtain ⟨⟨r1, r2, r3⟩, -, -⟩ := id R
  unfold X11_feed X12_feed X9_hasRoomFor X9_size
  rw [r1]
  simp (disch := omega) only [w32_id]
  by_cases cc : m 150 1 + 20 ≤ 200
  · rw [if_pos cc, if_neg (by omega)]
    simp only [Option.bind_some, qn1, in10, if_true]
    refine OK2_bind (OK2_mono (push_b R a (by omega)) (fun x1 m1 h1 => ?_))
    refine OK2_bind (OK2_mono (push_b h1.1 b (by omega)) (fun x2 m2 h2 => ?_))
    refine OK2_bind (OK2_mono (push_b h2.1 c (by omega)) (fun x3 m3 h3 => ?_))
    refine OK2_bind (OK2_mono (push_b h3.1 d (by omega)) (fun x4 m4 h4 => ?_))
    refine OK2_bind (OK2_mono (push_b h4.1 e (by omega)) (fun x5 m5 h5 => ?_))
    refine ⟨h5.1.1.1, h5.1, fun c j q1 q2 => ?_, fun c j q1 q2 => ?_⟩
    · exact (h5.2.2.1 c j q1 q2).trans ((h4.2.2.1 c j q1 q2).trans ((h3.2.2.1 c j q1 q2).trans ((h2.2.2.1 c j q1 q2).trans (h1.2.2.1 c j q1 q2))))
    · exact (h5.2.2.2 c j q1 q2).trans ((h4.2.2.2 c j q1 q2).trans ((h3.2.2.2 c j q1 q2).trans ((h2.2.2.2 c j q1 q2).trans (h1.2.2.2 c j q1 q2))))
  · rw [if_neg cc, if_pos (by omega)]
    simp only [OK_bindE, OK_some, qn0, in00, if_false]
    refine ⟨by trivial, R, ?_, ?_⟩ <;> intros <;> first | rfl | trivial
