/-! SURE: what the one side marks -/
def btA (v : Int) (i : Nat) : Bool := (BitVec.ofInt 32 v).toNat.testBit i
theorem btA_0 (i : Nat) : btA 0 i = false := by
  unfold btA
  rw [show (BitVec.ofInt 32 0).toNat = 0 from rfl, Nat.zero_testBit]
theorem btA_or (v w : Int) (i : Nat) : btA (or32 v w) i = (btA v i || btA w i) := by
  unfold btA or32
  show (BitVec.ofInt 32 (Int32.ofInt v ||| Int32.ofInt w).toBitVec.toInt).toNat.testBit i = _
  rw [BitVec.ofInt_toInt, Int32.toBitVec_or, BitVec.toNat_or, Nat.testBit_or]
  rfl
theorem btA_not {s i : Nat} (hs : s < 2147483648) (hi : i < 32) : btA (xor32 (s : Int) (-1)) i = !s.testBit i := by
  unfold btA
  rw [xor_n1 hs, Nat.testBit_xor, show (4294967295 : Nat) = 2 ^ 32 - 1 from by decide, Nat.testBit_two_pow_sub_one, decide_eq_true hi]
  cases s.testBit i <;> rfl
theorem btA_sh {y : Nat} (hy : y < 30) (i : Nat) : btA (shl32 1 (y : Int)) i = decide (i = y) := by
  have p := Nat.pow_le_pow_right (n := 2) (by decide) (show y ≤ 29 by omega)
  unfold btA
  rw [shl32_n hy, ofInt_nat (by omega), Nat.testBit_two_pow]
  by_cases c : i = y
  · rw [decide_eq_true c, decide_eq_true c.symm]
  · rw [decide_eq_false c, decide_eq_false (fun q => c q.symm)]
theorem ushr_b (v : Int) {p : Nat} (hp : p < 32) : (BitVec.ofInt 32 (ushr32 v (p : Int))).toNat = (BitVec.ofInt 32 v).toNat / 2 ^ p := by
  unfold ushr32
  obtain ⟨h1, h2⟩ := sh32_u ⟨p, hp⟩
  dsimp only at h1 h2
  rw [h1]
  show (BitVec.ofInt 32 ((Int32.ofInt v).toUInt32 >>> UInt32.ofNat p).toBitVec.toInt).toNat = _
  rw [BitVec.ofInt_toInt, UInt32.toBitVec_shiftRight]
  show ((Int32.ofInt v).toUInt32.toBitVec >>> ((UInt32.ofNat p).toBitVec % 32).toNat).toNat = _
  rw [BitVec.toNat_ushiftRight, h2, Nat.shiftRight_eq_div_pow]
  rfl
theorem and1_b (a : Int) : and32 a 1 = (((BitVec.ofInt 32 a).toNat % 2 : Nat) : Int) := by
  unfold and32
  have e : (Int32.ofInt a &&& Int32.ofInt 1).toBitVec.toNat = (BitVec.ofInt 32 a).toNat % 2 := by
    rw [Int32.toBitVec_and, BitVec.toNat_and]
    show (BitVec.ofInt 32 a).toNat &&& (BitVec.ofInt 32 1).toNat = _
    rw [show (BitVec.ofInt 32 1).toNat = 1 from rfl, Nat.and_one_is_mod]
  show (Int32.ofInt a &&& Int32.ofInt 1).toBitVec.toInt = _
  rw [BitVec.toInt_eq_toNat_of_lt (by rw [e]; omega), e]
theorem btA_bit (v : Int) {i : Nat} (hi : i < 32) : and32 (ushr32 v (i : Int)) 1 = if btA v i = true then 1 else 0 := by
  unfold btA
  rw [and1_b, ushr_b v hi, Nat.testBit_eq_decide_div_mod_eq]
  by_cases c : (BitVec.ofInt 32 v).toNat / 2 ^ i % 2 = 1
  · rw [c, if_pos (decide_eq_true rfl)]
    rfl
  · rw [if_neg (by rw [decide_eq_true_iff]; exact c), show (BitVec.ofInt 32 v).toNat / 2 ^ i % 2 = 0 by omega]
    rfl
def nxP (N : Nat) (A : Nat → Nat → Bool) (g : Nat → Nat → Int) (s l a : Nat) : Prop := a < N ∧ (cdV N A g (VV N A g) s l a).2 ≠ 0 ∧ (cdV N A g (VV N A g) s l a).1 = (VV N A g s l).1
def mkP (N : Nat) (A : Nat → Nat → Bool) (g : Nat → Nat → Int) (s t a : Nat) : Prop := ∃ t' l', t' < s ∧ brP N A g t' l' ∧ nxP N A g t' l' a ∧ t = t' ||| 2 ^ a
theorem brP_mk {N : Nat} {A : Nat → Nat → Bool} {g : Nat → Nat → Int} {t l : Nat} (h : brP N A g t l) : (t = 0 ∧ l = 10) ∨ mkP N A g t t l := by
  have key := h (fun t l => brP N A g t l ∧ ((t = 0 ∧ l = 10) ∨ mkP N A g t t l)) ⟨brP_0 N A g, Or.inl ⟨rfl, rfl⟩⟩ (fun s l a ⟨q1, q2⟩ ha h1 h2 => by
    refine ⟨brP_s q1 ha h1 h2, Or.inr ⟨s, l, or2_gt (mayB_nb (cdV_nz.mp h1).1), q1, ⟨ha, h1, h2⟩, rfl⟩⟩)
  exact key.2
theorem mk_brP {N : Nat} {A : Nat → Nat → Bool} {g : Nat → Nat → Int} {s t l : Nat} (h : mkP N A g s t l) : brP N A g t l := by
  obtain ⟨t', l', -, h1, ⟨h2, h3, h4⟩, rfl⟩ := h
  exact brP_s h1 h2 h3 h4
theorem brP_ok {N : Nat} {A : Nat → Nat → Bool} {g : Nat → Nat → Int} {t l : Nat} (h0 : (VV N A g 0 10).2 ≠ 0) (h : brP N A g t l) : t < 2 ^ N ∧ (VV N A g t l).2 ≠ 0 ∧ ((t = 0 ∧ l = 10) ∨ (t ≠ 0 ∧ l < N ∧ t.testBit l = true)) := by
  refine h (fun t l => t < 2 ^ N ∧ (VV N A g t l).2 ≠ 0 ∧ ((t = 0 ∧ l = 10) ∨ (t ≠ 0 ∧ l < N ∧ t.testBit l = true))) ⟨by have := Nat.one_le_two_pow (n := N); omega, h0, Or.inl ⟨rfl, rfl⟩⟩ (fun s l a ⟨q1, q2, q3⟩ ha h1 h2 => ?_)
  obtain ⟨o, w⟩ := cdV_nz.mp h1
  have := or2_gt (mayB_nb o)
  exact ⟨or2_lt q1 ha, w, Or.inr ⟨by omega, ha, by rw [tb_or2, decide_eq_true rfl, Bool.or_true]⟩⟩
theorem mk_s {N : Nat} {A : Nat → Nat → Bool} {g : Nat → Nat → Int} {s t a : Nat} : mkP N A g (s + 1) t a ↔ mkP N A g s t a ∨ ∃ l', brP N A g s l' ∧ nxP N A g s l' a ∧ t = s ||| 2 ^ a := by
  constructor
  · intro ⟨t', l', h1, h2, h3, h4⟩
    by_cases e : t' = s
    · subst e
      exact Or.inr ⟨l', h2, h3, h4⟩
    · exact Or.inl ⟨t', l', by omega, h2, h3, h4⟩
  · intro h
    rcases h with ⟨t', l', h1, h2, h3, h4⟩ | ⟨l', h2, h3, h4⟩
    · exact ⟨t', l', by omega, h2, h3, h4⟩
    · exact ⟨s, l', by omega, h2, h3, h4⟩
theorem mk_0 {N : Nat} {A : Nat → Nat → Bool} {g : Nat → Nat → Int} {t a : Nat} : ¬ mkP N A g 0 t a := fun ⟨_, _, h, _⟩ => absurd h (Nat.not_lt_zero _)
theorem markX_s {N : Nat} {A : Nat → Nat → Bool} {g : Nat → Nat → Int} {h : Hp} (G : okG N A g) (H : grX N A g h) (T : tbX N A g h 1) {s l : Nat} {v rest : Int} (hs : s < 2 ^ N) (hv : v = lIx l) (hl : l < N ∨ l = 10) (hr : rest = (VV N A g s l).1) : OK (X5_markNext (s : Int) v rest h) (fun z => (∀ t a, t < 2 ^ N → a < N → (btA (z 75 t) a = true ↔ btA (h 75 t) a = true ∨ (nxP N A g s l a ∧ t = s ||| 2 ^ a))) ∧ ∀ e j, e ≠ 75 → z e j = h e j) := by
  obtain ⟨hN, hAN, h10, hg⟩ := id G
  obtain ⟨h5, -, -⟩ := id H
  have s10 := p2_10 hN
  have vb := VV_bd G s l
  subst hr
  unfold X5_markNext
  rw [OK_bindE]
  refine OK_mono (iter_up (fun p st => p ≤ N ∧ ∃ u : Hp, st = ((p : Int), u) ∧ (∀ t a, t < 2 ^ N → a < N → (btA (u 75 t) a = true ↔ btA (h 75 t) a = true ∨ (a < p ∧ nxP N A g s l a ∧ t = s ||| 2 ^ a))) ∧ ∀ e j, e ≠ 75 → u e j = h e j) (fun u => (∀ t a, t < 2 ^ N → a < N → (btA (u 75 t) a = true ↔ btA (h 75 t) a = true ∨ (nxP N A g s l a ∧ t = s ||| 2 ^ a))) ∧ ∀ e j, e ≠ 75 → u e j = h e j) N (by omega) (fun p st hp hI => ?_) ⟨Nat.zero_le _, h, rfl, fun t a _ _ => ⟨fun q => Or.inl q, fun q => by rcases q with q | ⟨q, -⟩; exact q; omega⟩, fun _ _ _ => rfl⟩) (fun z hz => by rw [OK_some]; exact hz)
  obtain ⟨-, u, rfl, hu, uf⟩ := hI
  unfold X5_markNext_l2 X5_markNext_j31
  dsimp only
  simp only [uf 66 5 (by decide), h5, w32_id (z := (N : Int)) (by omega) (by omega), w32_id (z := (p : Int)) (by omega) (by omega)]
  refine OK_if (fun c => ?_) (fun c => ?_)
  · rw [OK_some, LQ_r]
    refine ⟨fun t a h1 h2 => ?_, uf⟩
    rw [hu t a h1 h2]
    exact ⟨fun q => by rcases q with q | q; exact Or.inl q; exact Or.inr q.2, fun q => by rcases q with q | q; exact Or.inl q; exact Or.inr ⟨by omega, q⟩⟩
  · have hpN : p < N := by omega
    have Hu : grX N A g u := grX_cg (uf 66 5 (by decide)) (funext fun j => uf 70 j (by decide)) (funext fun j => uf 71 j (by decide)) H
    have cb := cd_bd G (s := s) (l := l) hpN
    have iff := mpV_iff G (s := s) (l := l) hpN
    have mb : -1000000 ≤ mpV (cdV N A g (VV N A g) s l p) ∧ mpV (cdV N A g (VV N A g) s l p) ≤ 20000 := by
      unfold mpV
      split <;> omega
    rw [behind_s G Hu hs hpN hv hl (fun q => by rw [uf 72 _ (by decide)]; exact (T _ p (by have := or2_gt q; omega) (or2_lt hs hpN) hpN (by rw [tb_or2, decide_eq_true rfl, Bool.or_true])).1), OK_bindE, OK_some]
    simp only [w32_id (z := mpV (cdV N A g (VV N A g) s l p)) (by omega) (by omega), w32_id (z := (VV N A g s l).1) (by omega) (by omega)]
    refine OK_if (fun d => ?_) (fun d => ?_)
    · rw [OK_some, LQ_l]
      refine ⟨hpN, by omega, u, rfl, fun t a h1 h2 => ?_, uf⟩
      rw [hu t a h1 h2]
      refine ⟨fun q => by rcases q with q | q; exact Or.inl q; exact Or.inr ⟨by omega, q.2⟩, fun q => ?_⟩
      rcases q with q | ⟨q1, q2, q3⟩
      · exact Or.inl q
      · by_cases e : a = p
        · subst e
          exact absurd (iff.mpr ⟨q2.2.1, q2.2.2⟩) d
        · exact Or.inr ⟨by omega, q2, q3⟩
    · have dd := iff.mp (by omega)
      have l2 := or2_lt hs hpN
      rw [or2_i (by omega) (by omega), at_e (a := 75) (n := 1024) (s ||| 2 ^ p) rfl (by omega) (by omega), OK_bindE, OK_some, put_e (a := 75) (n := 1024) (s ||| 2 ^ p) rfl (by omega) (by omega), OK_bindE, OK_some, OK_some, LQ_l]
      refine ⟨hpN, by omega, _, rfl, fun t a h1 h2 => ?_, fun e j q => by rw [setH_o q, uf e j q]⟩
      by_cases e : t = s ||| 2 ^ p
      · subst e
        rw [setH_s, btA_or, btA_sh (by omega), Bool.or_eq_true, hu _ a h1 h2, decide_eq_true_iff]
        constructor
        · intro q
          rcases q with (q | q) | q
          · exact Or.inl q
          · exact Or.inr ⟨by omega, q.2⟩
          · subst q
            exact Or.inr ⟨by omega, ⟨hpN, dd.1, dd.2⟩, rfl⟩
        · intro q
          rcases q with q | ⟨q1, q2, q3⟩
          · exact Or.inl (Or.inl q)
          · by_cases e2 : a = p
            · exact Or.inr e2
            · exact Or.inl (Or.inr ⟨by omega, q2, q3⟩)
      · rw [setH_n e, hu t a h1 h2]
        refine ⟨fun q => by rcases q with q | q; exact Or.inl q; exact Or.inr ⟨by omega, q.2⟩, fun q => ?_⟩
        rcases q with q | ⟨q1, q2, q3⟩
        · exact Or.inl q
        · by_cases e2 : a = p
          · subst e2
            exact absurd q3 e
          · exact Or.inr ⟨by omega, q2, q3⟩
