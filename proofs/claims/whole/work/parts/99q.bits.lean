/-! the bit at a place, as both sides look at it -/
theorem tb_1 : ∀ i : Fin 64, tb 1 i.val = decide (i.val = 0) := by decide +kernel
theorem sh_u : ∀ p : Fin 64, ((Int32.ofInt (p.val : Int)).toInt64.toUInt64 &&& Int64.toUInt64 63) = UInt64.ofNat p.val ∧ ((UInt64.ofNat p.val).toBitVec % 64).toNat = p.val := by decide +kernel
theorem sh_s : ∀ p : Fin 64, ((Int32.ofInt (p.val : Int)).toInt64 &&& 63) = Int64.ofNat p.val ∧ ((Int64.ofNat p.val).toBitVec.smod 64).toNat = p.val := by decide +kernel
theorem tb_ushr {v : Int} {p i : Nat} (hp : p < 64) : tb (ushr64 v (p : Int)) i = tb v (p + i) := by
  unfold ushr64
  obtain ⟨h1, h2⟩ := sh_u ⟨p, hp⟩
  dsimp only at h1 h2
  rw [h1, tb_of]
  show ((Int64.ofInt v).toUInt64 >>> UInt64.ofNat p).toBitVec.getLsbD i = _
  rw [UInt64.toBitVec_shiftRight]
  show ((Int64.ofInt v).toUInt64.toBitVec >>> ((UInt64.ofNat p).toBitVec % 64).toNat).getLsbD i = _
  rw [BitVec.getLsbD_ushiftRight, h2]
  rfl
theorem tb_shr {v : Int} {p i : Nat} (hp : p < 64) (hi : i < 64) : tb (shr64 v (p : Int)) i = if p + i < 64 then tb v (p + i) else tb v 63 := by
  unfold shr64
  obtain ⟨h1, h2⟩ := sh_s ⟨p, hp⟩
  dsimp only at h1 h2
  rw [h1, tb_of, Int64.toBitVec_shiftRight]
  show ((Int64.ofInt v).toBitVec.sshiftRight ((Int64.ofNat p).toBitVec.smod 64).toNat).getLsbD i = _
  rw [BitVec.getLsbD_sshiftRight, h2]
  unfold tb
  have e : (Int64.ofInt v).toBitVec = BitVec.ofInt 64 v := rfl
  rw [e, BitVec.msb_eq_getLsbD_last]
  by_cases c : p + i < 64
  · rw [if_pos c]
    simp [c, hi]
  · rw [if_neg c]
    simp [c]
    intro h
    omega
theorem and1 (x : Int) : w64 (and64 x 1) = if tb x 0 = true then 1 else 0 := by
  have h : w64 (and64 x 1) = w64 (if tb x 0 = true then 1 else 0) := tb_ext (fun i hi => by
    have t1 := tb_1 ⟨i, hi⟩
    dsimp only at t1
    rw [tb_and, t1]
    by_cases c : tb x 0 = true
    · rw [if_pos c, t1]
      by_cases e : i = 0
      · subst e
        rw [c]
        rfl
      · simp [e]
    · rw [if_neg c, tb_0]
      by_cases e : i = 0
      · subst e
        simp at c
        rw [c]
        rfl
      · simp [e])
  rw [h]
  split <;> rfl
theorem cmp1 (x : Int) : cmp64 (and64 x 1) 1 = if tb x 0 = true then 0 else -1 := by
  rw [cmp64_eq, and1]
  by_cases c : tb x 0 = true
  · rw [if_pos c, if_pos c]
    rfl
  · rw [if_neg c, if_neg c]
    rfl
theorem bit_x {v : Int} {p : Nat} (hp : p < 64) : (w32 (cmp64 (and64 (ushr64 v (p : Int)) 1) 1) ≠ 0) ↔ tb v p = false := by
  rw [cmp1, tb_ushr hp, Nat.add_zero]
  cases tb v p
  · exact ⟨fun _ => rfl, fun _ => by decide⟩
  · exact ⟨fun h => absurd rfl h, fun h => by cases h⟩
theorem has_m {v : Int} {p : Nat} (hp : p < 64) : X12_has v (p : Int) = some (if tb v p = true then 1 else 0) := by
  unfold X12_has
  rw [cmp1, tb_shr hp (by omega), Nat.add_zero, if_pos hp]
  cases tb v p
  · rfl
  · rfl
