/-! THE ORDER: the one side's tables -/
def mpV (R : Int × Nat) : Int := if R.2 = 0 then -1000000 else R.1
def lIx (l : Nat) : Int := if l = 10 then -1 else (l : Int)
theorem or2_lt {N s a : Nat} (hs : s < 2 ^ N) (ha : a < N) : s ||| 2 ^ a < 2 ^ N := Nat.or_lt_two_pow hs (Nat.pow_lt_pow_right (by decide) ha)
theorem p2_10 {N : Nat} (h : N ≤ 10) : 2 ^ N ≤ 1024 := Nat.pow_le_pow_right (n := 2) (by decide) h
theorem or2_i {s a : Nat} (hs : s < 1024) (ha : a < 10) : or32 (s : Int) (shl32 1 (a : Int)) = ((s ||| 2 ^ a : Nat) : Int) := by
  have := Nat.pow_lt_pow_right (a := 2) (by decide) (show a < 10 from ha)
  have e : (2 : Nat) ^ 10 = 1024 := by decide
  rw [shl32_n (by omega), or32_n (by omega) (by omega)]
/-- the ground that both tables stand on -/
def grX (N : Nat) (A : Nat → Nat → Bool) (g : Nat → Nat → Int) (h : Hp) : Prop := h 66 5 = (N : Int) ∧ (∀ p, p < N → BSt (h 70 p) (A p)) ∧ ∀ l a, l < N → a < N → h 71 (10 * l + a) = g l a
def okG (N : Nat) (A : Nat → Nat → Bool) (g : Nat → Nat → Int) : Prop := N ≤ 10 ∧ (∀ a b, A a b = true → b < N) ∧ (∀ a, g 10 a = 0) ∧ ∀ l a, -1000 ≤ g l a ∧ g l a ≤ 1000
theorem cd_bd {N : Nat} {A : Nat → Nat → Bool} {g : Nat → Nat → Int} (G : okG N A g) {s l a : Nat} (ha : a < N) : -20000 ≤ (cdV N A g (VV N A g) s l a).1 ∧ (cdV N A g (VV N A g) s l a).1 ≤ 20000 ∧ (cdV N A g (VV N A g) s l a).2 ≤ 3628800 := by
  obtain ⟨hN, -, -, hg⟩ := G
  by_cases c : mayB N A s a = true
  · have b := VV_b (N := N) (A := A) hg _ (s ||| 2 ^ a) a rfl
    have r : remN N (s ||| 2 ^ a) ≤ N := cnBt_le _ _
    have k := hg l a
    have m : fcl (remN N (s ||| 2 ^ a)) ≤ 3628800 := by
      have t : ∀ i : Fin 11, fcl i.val ≤ 3628800 := by decide +kernel
      exact t ⟨remN N (s ||| 2 ^ a), by omega⟩
    rw [cdV_p c]
    exact ⟨by dsimp only; omega, by dsimp only; omega, by dsimp only; omega⟩
  · rw [cdV_n c]
    exact ⟨by decide, by decide, by decide⟩
theorem VV_bd {N : Nat} {A : Nat → Nat → Bool} {g : Nat → Nat → Int} (G : okG N A g) (s l : Nat) : -10000 ≤ (VV N A g s l).1 ∧ (VV N A g s l).1 ≤ 10000 ∧ (VV N A g s l).2 ≤ 3628800 := by
  obtain ⟨hN, -, -, hg⟩ := G
  have b := VV_b (N := N) (A := A) hg _ s l rfl
  have r : remN N s ≤ N := cnBt_le _ _
  have m : fcl (remN N s) ≤ 3628800 := by
    have t : ∀ i : Fin 11, fcl i.val ≤ 3628800 := by decide +kernel
    exact t ⟨remN N s, by omega⟩
  exact ⟨by omega, by omega, by omega⟩
theorem behind_s {N : Nat} {A : Nat → Nat → Bool} {g : Nat → Nat → Int} {h : Hp} (G : okG N A g) (H : grX N A g h) {s l p : Nat} {v : Int} (hs : s < 2 ^ N) (hp : p < N) (hv : v = lIx l) (hl : l < N ∨ l = 10) (HT : s.testBit p = false → h 72 (10 * (s ||| 2 ^ p) + p) = mpV (VV N A g (s ||| 2 ^ p) p)) : X5_behind (s : Int) v (p : Int) h = some (mpV (cdV N A g (VV N A g) s l p)) := by
  obtain ⟨hN, hAN, h10, hg⟩ := id G
  obtain ⟨h5, h70, h71⟩ := H
  have s10 := p2_10 hN
  have BA := h70 p hp
  have BS : BSt (s : Int) (fun i => s.testBit i) := BSt_nat (by omega)
  unfold X5_behind X5_behind_j16
  rw [BSt_bit BS (by omega)]
  cases hb : s.testBit p with
  | true =>
    have n1 : ¬ mayB N A s p = true := fun q => by
      have := mayB_nb q
      rw [hb] at this
      cases this
    rw [if_pos (by decide), cdV_n n1]
    rfl
  | false =>
    rw [if_neg (by decide), at_e (a := 70) (n := 10) p rfl (by omega) (by omega), Option.bind_some]
    have BZ := BSt_an BA BS
    rw [(BSt_w BZ).1]
    by_cases c : mayB N A s p = true
    · have ci := mayB_iff.mp c
      have z : and32 (h 70 p) (xor32 (s : Int) (-1)) = 0 := (BSt_z BZ).mpr (fun i => by
        cases q : A p i with
        | false => rfl
        | true => rw [ci.2 i (hAN p i q) q]; rfl)
      have l2 := or2_lt hs hp
      rw [if_pos z, or2_i (by omega) (by omega), at_e (a := 72) (n := 10240) (10 * (s ||| 2 ^ p) + p) (by omega) (by omega) (by omega), Option.bind_some, HT hb, cdV_p c]
      have vb := VV_bd G (s ||| 2 ^ p) p
      unfold mpV
      dsimp only
      by_cases d : (VV N A g (s ||| 2 ^ p) p).2 = 0
      · rw [if_pos d, if_pos d, if_neg (fun q => q rfl)]
      · rw [if_neg d, if_neg d, if_pos (by rw [w32_id (z := (VV N A g (s ||| 2 ^ p) p).1) (by omega) (by omega), show w32 (-1000000) = -1000000 from rfl]; omega), hv]
        unfold lIx
        by_cases e : l = 10
        · rw [if_pos e, if_neg (by decide), e, h10, Int.add_zero]
        · have hlN : l < N := by omega
          rw [if_neg e, if_pos (by rw [w32_id (z := (l : Int)) (by omega) (by omega)]; omega), at_e (a := 71) (n := 100) (10 * l + p) (by omega) (by omega) (by omega), Option.bind_some, h71 l p hlN hp]
    · have z : ¬ and32 (h 70 p) (xor32 (s : Int) (-1)) = 0 := fun q => c (mayB_iff.mpr ⟨hb, fun b hb2 hA => by
        have := (BSt_z BZ).mp q b
        rw [hA, Bool.true_and, Bool.not_eq_false'] at this
        exact this⟩)
      rw [if_neg z, cdV_n c]
      rfl
theorem all_iff {N s : Nat} (hs : s < 2 ^ N) : s = 2 ^ N - 1 ↔ remN N s = 0 := by
  unfold remN
  rw [cnBt_0]
  constructor
  · intro h i hi
    rw [h, Nat.testBit_two_pow_sub_one, decide_eq_true hi]
    rfl
  · intro h
    refine Nat.eq_of_testBit_eq (fun i => ?_)
    rw [Nat.testBit_two_pow_sub_one]
    by_cases c : i < N
    · have := h i c
      rw [Bool.not_eq_false'] at this
      rw [this, decide_eq_true c]
    · rw [decide_eq_false c]
      exact Nat.testBit_lt_two_pow (Nat.lt_of_lt_of_le hs (Nat.pow_le_pow_right (by decide) (by omega)))
theorem complete_s {N : Nat} {A : Nat → Nat → Bool} {g : Nat → Nat → Int} {h : Hp} (G : okG N A g) (H : grX N A g h) {s l : Nat} {v : Int} (hs : s < 2 ^ N) (hN1 : 1 ≤ N) (hv : v = lIx l) (hl : l < N ∨ l = 10) (hl0 : s ≠ 0 → l < N) (HT : ∀ p, p < N → s.testBit p = false → h 72 (10 * (s ||| 2 ^ p) + p) = mpV (VV N A g (s ||| 2 ^ p) p) ∧ h 73 (10 * (s ||| 2 ^ p) + p) = (((VV N A g (s ||| 2 ^ p) p).2 : Nat) : Int)) : X5_complete (s : Int) v h = some (if s = 0 then setH (setH h 66 14 (mpV (VV N A g s l))) 66 15 (((VV N A g s l).2 : Nat) : Int) else setH (setH h 72 (10 * s + l) (mpV (VV N A g s l))) 73 (10 * s + l) (((VV N A g s l).2 : Nat) : Int)) := by
  obtain ⟨hN, hAN, h10, hg⟩ := id G
  obtain ⟨h5, h70, h71⟩ := id H
  have s10 := p2_10 hN
  have pN1 : 1 ≤ 2 ^ N := Nat.one_le_two_pow
  have bh : ∀ p, p < N → X5_behind (s : Int) v (p : Int) h = some (mpV (cdV N A g (VV N A g) s l p)) := fun p hp => behind_s G H hs hp hv hl (fun q => (HT p hp q).1)
  -- the loop, from what it begins with
  have lp : ∀ (b0 n0 : Int) (R : Nat → Int × Nat), b0 = mpV (R 0) → n0 = (((R 0).2 : Nat) : Int) → (∀ p, p < N → R (p + 1) = joV (R p) (cdV N A g (VV N A g) s l p)) → (∀ p, p ≤ N → -20000 ≤ (R p).1 ∧ (R p).1 ≤ 20000) → iter (X5_complete_l26 (s : Int) v) FU (b0, n0, 0, h) = some (mpV (R N), (((R N).2 : Nat) : Int), h) := by
    intro b0 n0 R hb0 hn0 hR hRb
    have key : OK (iter (X5_complete_l26 (s : Int) v) FU (b0, n0, 0, h)) (fun z => z = (mpV (R N), (((R N).2 : Nat) : Int), h)) := by
      refine iter_up (fun p st => p ≤ N ∧ st = (mpV (R p), (((R p).2 : Nat) : Int), (p : Int), h)) _ N (by omega) (fun p st hp hI => ?_) ⟨Nat.zero_le _, by rw [hb0, hn0]; rfl⟩
      obtain ⟨-, rfl⟩ := hI
      unfold X5_complete_l26 X5_complete_j68
      dsimp only
      simp only [h5, w32_id (z := (N : Int)) (by omega) (by omega), w32_id (z := (p : Int)) (by omega) (by omega)]
      refine OK_if (fun c => ?_) (fun c => ?_)
      · rw [OK_some, LQ_r, show p = N from by omega]
      · have hpN : p < N := by omega
        have cb := cd_bd G (s := s) (l := l) hpN
        have rb := hRb p (by omega)
        have hj := hR p hpN
        rw [bh p hpN, OK_bindE, OK_some]
        by_cases d : (cdV N A g (VV N A g) s l p).2 = 0
        · have e1 : mpV (cdV N A g (VV N A g) s l p) = -1000000 := if_pos d
          rw [e1]
          refine OK_gn (fun q => q rfl) ?_
          rw [OK_some, LQ_l, hj]
          unfold joV
          rw [if_pos d]
          exact ⟨by omega, by omega, rfl⟩
        · have e1 : mpV (cdV N A g (VV N A g) s l p) = (cdV N A g (VV N A g) s l p).1 := if_neg d
          obtain ⟨o, w⟩ := cdV_nz.mp d
          have nb := mayB_nb o
          have l2 := or2_lt hs hpN
          have ec : (cdV N A g (VV N A g) s l p).2 = (VV N A g (s ||| 2 ^ p) p).2 := by rw [cdV_p o]
          rw [e1, or2_i (by omega) (by omega), at_e (a := 73) (n := 10240) (10 * (s ||| 2 ^ p) + p) (by omega) (by omega) (by omega)]
          simp only [w32_id (z := (cdV N A g (VV N A g) s l p).1) (by omega) (by omega), show w32 (-1000000) = -1000000 from rfl]
          refine OK_gd (by omega) ?_
          rw [OK_bindE, OK_some, (HT p hpN nb).2, ← ec]
          unfold joV at hj
          rw [if_neg d] at hj
          by_cases r0 : (R p).2 = 0
          · have e2 : mpV (R p) = -1000000 := if_pos r0
            rw [if_pos (Or.inl r0)] at hj
            rw [e2]
            refine OK_gn (by rw [show w32 (-1000000) = -1000000 from rfl]; omega) ?_
            rw [OK_some, LQ_l, hj, e1]
            exact ⟨by omega, by omega, rfl⟩
          · have e2 : mpV (R p) = (R p).1 := if_neg r0
            rw [e2]
            simp only [w32_id (z := (R p).1) (by omega) (by omega)]
            refine OK_if (fun f => OK_if (fun f2 => ?_) (fun f2 => ?_)) (fun f => ?_)
            · rw [if_neg (fun q => by rcases q with q | q; exact r0 q; omega), if_neg f2] at hj
              rw [OK_some, LQ_l, hj, e2]
              exact ⟨by omega, by omega, rfl⟩
            · have f3 : (cdV N A g (VV N A g) s l p).1 = (R p).1 := by omega
              rw [if_neg (fun q => by rcases q with q | q; exact r0 q; omega), if_pos f3] at hj
              rw [OK_some, LQ_l, hj]
              refine ⟨by omega, by omega, ?_⟩
              unfold mpV
              dsimp only
              rw [if_neg (by omega)]
              rfl
            · rw [if_pos (Or.inr (by omega))] at hj
              rw [OK_some, LQ_l, hj, e1]
              exact ⟨by omega, by omega, rfl⟩
    obtain ⟨z, ez, hz⟩ := OK_ex key
    rw [ez, hz]
  have fin : ∀ (b0 n0 : Int), iter (X5_complete_l26 (s : Int) v) FU (b0, n0, 0, h) = some (mpV (VV N A g s l), (((VV N A g s l).2 : Nat) : Int), h) → X5_complete_j23 (s : Int) v b0 n0 h = some (if s = 0 then setH (setH h 66 14 (mpV (VV N A g s l))) 66 15 (((VV N A g s l).2 : Nat) : Int) else setH (setH h 72 (10 * s + l) (mpV (VV N A g s l))) 73 (10 * s + l) (((VV N A g s l).2 : Nat) : Int)) := by
    intro b0 n0 hit
    unfold X5_complete_j23
    rw [hit, Option.bind_some]
    dsimp only
    by_cases c : s = 0
    · rw [if_neg (by rw [w32_id (z := (s : Int)) (by omega) (by omega)]; omega), if_pos c]
    · have hlN := hl0 c
      have ev : v = (l : Int) := by
        rw [hv]
        unfold lIx
        rw [if_neg (by omega)]
      rw [if_pos (by rw [w32_id (z := (s : Int)) (by omega) (by omega)]; omega), if_neg c, ev, put_e (a := 72) (n := 10240) (10 * s + l) (by omega) (by omega) (by omega), Option.bind_some, put_e (a := 73) (n := 10240) (10 * s + l) (by omega) (by omega) (by omega), Option.bind_some]
  have sh := shl32_n (y := N) (by omega)
  have ai := all_iff hs
  unfold X5_complete X5_complete_j11 X5_complete_j17
  simp only [h5, sh]
  have e1 : w32 (((2 ^ N : Nat) : Int) - 1) = ((2 ^ N - 1 : Nat) : Int) := by
    rw [w32_id (by omega) (by omega)]
    omega
  rw [e1, w32_id (z := (s : Int)) (by omega) (by omega)]
  by_cases c : s = 2 ^ N - 1
  · have r0 := ai.mp c
    rw [if_neg (by omega), if_neg (by decide), if_neg (by decide)]
    refine fin _ _ ?_
    have v0 := VV_0 (A := A) (g := g) (l := l) r0
    have := lp 0 1 (fun _ => (0, 1)) rfl rfl (fun p hp => by
      have nb : (cdV N A g (VV N A g) s l p).2 = 0 := by
        have : ¬ mayB N A s p = true := fun q => by
          have q2 := mayB_nb q
          have q3 := cnBt_0.mp r0 p hp
          rw [q2] at q3
          cases q3
        rw [cdV_n this]
      unfold joV
      rw [if_pos nb]) (fun _ _ => ⟨by decide, by decide⟩)
    rw [this, v0]
  · have r0 : remN N s ≠ 0 := fun q => c (ai.mpr q)
    rw [if_pos (by omega), if_pos (by decide), if_pos (by decide)]
    refine fin _ _ ?_
    have := lp (-1000000) 0 (foV (cdV N A g (VV N A g) s l)) rfl rfl (fun p hp => rfl) (fun p hp => by
      rcases foV_m (cdV N A g (VV N A g) s l) p with ⟨-, q2, -⟩ | ⟨-, ⟨a, q2, -, q4⟩, -, -⟩
      · omega
      · have := cd_bd G (s := s) (l := l) (a := a) (by omega)
        omega)
    rw [this, ← VV_s r0]
