/-! TRUTH -/
theorem bitBook_out {h : Hp} (i : Nat) (hi : h 3 11 ≤ (i : Int)) (h0 : 0 ≤ h 3 11) (hb : h 3 11 ≤ 40) (h64 : i < 1000) : X7_bitBook (i : Int) h = some 0 := by
  unfold X7_bitBook
  rw [x_isB (by omega) (by omega), w32_id (by omega) (by omega), if_neg (by omega), Option.bind_some, if_pos (by decide)]
theorem u_z (z : Int) : uNat z = 0 ↔ ∀ i, i < 64 → tb z i = false := by
  constructor
  · intro h i _
    rw [tb_u, h, Nat.zero_testBit]
  · intro h
    rw [← w64_z, ← w64_0]
    exact tb_ext (fun i hi => by rw [h i hi, tb_0])
theorem cn_z (z : Int) : cnBt (tb z) 64 = 0 ↔ uNat z = 0 := by
  constructor
  · intro h
    exact (u_z z).mpr (cnBt_z 64 h)
  · intro h
    have k := (u_z z).mp h
    have := cnBt_ext (f := tb z) (n := 0) 64 (fun i _ h2 => k i (by omega))
    rw [Nat.zero_add] at this
    rw [this]
    rfl
theorem tb63 (z : Int) : tb z 63 = true ↔ w64 z < 0 := by
  have a := w64_mod z
  have b := u_mod z
  have c := u_lt z
  have d := w64_ge z
  have e := w64_lt' z
  have f : tb z 63 = decide (uNat z / 9223372036854775808 % 2 = 1) := by
    rw [tb_u, Nat.testBit_eq_decide_div_mod_eq]
  rw [f, decide_eq_true_iff]
  omega
theorem cmp_neg (z : Int) : (w32 (cmp64 z 0) < 0) ↔ tb z 63 = true := by
  rw [tb63, cmp64_eq, w64_0]
  by_cases h : 0 < w64 z
  · rw [if_pos h]
    exact ⟨fun q => absurd q (by decide), fun q => by omega⟩
  · rw [if_neg h]
    by_cases g : w64 z = 0
    · rw [if_pos g]
      exact ⟨fun q => absurd q (by decide), fun q => by omega⟩
    · rw [if_neg g]
      exact ⟨fun _ => by omega, fun _ => by decide⟩
/-- what truth wants of a set of bits -/
def gdT (bk : Nat → Int) (bt : Nat) (v : Int) : Prop := ∀ i, i < 64 → tb v i = true → i < bt ∧ 1 ≤ bk i
theorem x_tr {x m : Hp} {v a b : Int} {bt : Nat} (R : RS x m) (hbt : m 150 5 = (bt : Int)) : OK (iter (X11_truth_l22 v a b) FU (0, x)) (LQ (fun h => h = x ∧ ¬ gdT (m 162) bt v) (fun h => h = x ∧ gdT (m 162) bt v)) := by
  obtain ⟨⟨⟨e30, e33, e39, e311⟩, -, ⟨e12, e13, e14, e15, e16⟩, -⟩, ⟨b2, b3, b4, b5⟩, -, -, ⟨c60, c61, c62, c63⟩, -⟩ := id R
  refine iter_up (fun p s => s = ((p : Int), x) ∧ ∀ i, i < p → tb v i = true → i < bt ∧ 1 ≤ m 162 i) _ 64 (by omega) (fun p s hp hI => ?_) ⟨rfl, fun i hi => by omega⟩
  obtain ⟨rfl, hg⟩ := hI
  have wp := w32_id (z := (p : Int)) (by omega) (by omega)
  unfold X11_truth_l22 X11_truth_j41
  dsimp only
  rw [wp, show w32 64 = 64 from rfl]
  refine OK_if (fun c => ?_) (fun c => ?_)
  · rw [OK_some, LQ_r, LQ_r]
    exact ⟨rfl, fun i hi => hg i (by omega)⟩
  · refine OK_if (fun d => ?_) (fun d => ?_)
    · have df := (bit_x (by omega)).mp d
      rw [OK_some, LQ_l]
      refine ⟨by omega, rfl, fun i hi ht => ?_⟩
      by_cases q : i = p
      · subst q
        rw [df] at ht
        cases ht
      · exact hg i (by omega) ht
    · have dt : tb v p = true := by
        cases h : tb v p
        · exact absurd ((bit_x (by omega)).mpr h) d
        · rfl
      have c2 := c62 p
      by_cases k : p < bt
      · rw [bitBook_in p (by omega) (by omega), OK_bindE, OK_some, e14, w32_id (z := m 162 p) (by omega) (by omega), show w32 1 = 1 from rfl]
        refine OK_if (fun f => ?_) (fun f => ?_)
        · rw [OK_some, LQ_l]
          refine ⟨by omega, rfl, fun i hi ht => ?_⟩
          by_cases q : i = p
          · subst q
            exact ⟨k, f⟩
          · exact hg i (by omega) ht
        · rw [OK_some, LQ_r, LQ_l]
          exact ⟨rfl, fun g => f (g p (by omega) dt).2⟩
      · rw [bitBook_out p (by omega) (by omega) (by omega) (by omega), OK_bindE, OK_some]
        refine OK_gn (by decide) ?_
        rw [OK_some, LQ_r, LQ_l]
        exact ⟨rfl, fun g => k (g p (by omega) dt).1⟩
theorem m_tr {m : Hp} {v a b : Int} {bt : Nat} (S : SB m) (hbt : m 150 5 = (bt : Int)) : OK (iter (X12_truth_l36 v a b) FU (0, m)) (LQ (fun h => h = m ∧ ∃ i, i < bt ∧ tb v i = true ∧ m 162 i = 0) (fun h => h = m ∧ ∀ i, i < bt → tb v i = true → 1 ≤ m 162 i)) := by
  obtain ⟨⟨b2, b3, b4, b5⟩, -, -, ⟨c60, c61, c62, c63⟩, -⟩ := id S
  refine iter_up (fun p s => s = ((p : Int), m) ∧ ∀ i, i < p → tb v i = true → 1 ≤ m 162 i) _ bt (by omega) (fun p s hp hI => ?_) ⟨rfl, fun i hi => by omega⟩
  obtain ⟨rfl, hg⟩ := hI
  have wp := w32_id (z := (p : Int)) (by omega) (by omega)
  unfold X12_truth_l36 X12_truth_j51
  dsimp only
  simp only [wp, hbt, w32_id (z := (bt : Int)) (by omega) (by omega)]
  refine OK_if (fun c => ?_) (fun c => ?_)
  · rw [OK_some, LQ_r, LQ_r]
    exact ⟨rfl, fun i hi => hg i (by omega)⟩
  · rw [has_m (by omega), OK_bindE, OK_some]
    have c2 := c62 p
    by_cases ct : tb v p = true
    · rw [if_pos ct]
      refine OK_gn (by decide) (OK_gi (by omega) (by omega) (by omega) ?_)
      rw [tn, w32_id (z := m 162 p) (by omega) (by omega)]
      refine OK_if (fun f => ?_) (fun f => ?_)
      · rw [OK_some, LQ_l]
        refine ⟨by omega, rfl, fun i hi ht => ?_⟩
        by_cases q : i = p
        · subst q
          omega
        · exact hg i (by omega) ht
      · rw [OK_some, LQ_r, LQ_l]
        exact ⟨rfl, p, by omega, ct, by omega⟩
    · rw [if_neg ct]
      refine OK_gd (by decide) ?_
      rw [OK_some, LQ_l]
      refine ⟨by omega, rfl, fun i hi ht => ?_⟩
      by_cases q : i = p
      · subst q
        exact absurd ht ct
      · exact hg i (by omega) ht
theorem truth_b {x m : Hp} (R : RS x m) (X : TX x m 44 10) (K : CKm m) (W : RLt x) {v n c : Int} (hn : I32 n) (hc : I32 c) : OK (X11_truth v n c x) (fun z => OK (X12_truth v n c m) (fun w => z.1 = w.1 ∧ XFp x z.2 ∧ RLt z.2 ∧ MFp m w.2)) := by
  obtain ⟨-, S⟩ := id R
  obtain ⟨⟨b2, b3, b4, b5⟩, -⟩ := id S
  obtain ⟨bt, hbt⟩ := Int.eq_ofNat_of_zero_le b5.1
  obtain ⟨zx, ezx, hzx⟩ := OK_ex (x_tr (v := v) (a := n) (b := c) R hbt)
  obtain ⟨zm, ezm, hzm⟩ := OK_ex (m_tr (v := v) (a := n) (b := c) S hbt)
  have hle := cnBt_le (tb v) 64
  have shz : uNat (shr64 v (bt : Int)) = 0 ↔ ((∀ i, bt ≤ i → i < 64 → tb v i = false) ∧ (bt = 0 → True)) := by
    rw [u_z]
    constructor
    · intro h
      refine ⟨fun i h1 h2 => ?_, fun _ => trivial⟩
      have := h (i - bt) (by omega)
      rw [tb_shr (by omega) (by omega), if_pos (by omega), show bt + (i - bt) = i from by omega] at this
      exact this
    · intro h i hi
      rw [tb_shr (by omega) hi]
      split
      · exact h.1 _ (by omega) (by omega)
      · exact h.1 63 (by omega) (by omega)
  have xa1 : (1 ≤ cnBt (tb v) 64 ∧ cnBt (tb v) 64 ≤ 6) ∧ (1 ≤ n ∧ n ≤ 40) ∧ (0 ≤ c ∧ c ≤ n) ∧ gdT (m 162) bt v → X11_truth v n c x = if w32 c ≤ 0 then (iter (X11_truth_l55 v n) FU (0, 1, x)).bind fun x10 => some (x10.1, x10.2) else (X11_tableProduct v n c x).bind fun r11 => some (r11.1, r11.2) := by
    intro ⟨c1, c2, c3, c4⟩
    unfold X11_truth
    rw [bitCount_s, Option.bind_some, within_in (by omega) (by omega) (by omega) (by omega) (by omega) (by omega), within_in (by omega) (by omega) hn.1 hn.2 (by omega) (by omega), within_in (by omega) hn.2 hc.1 hc.2 (by omega) hn.1, if_pos (show (1 : Int) ≤ ((cnBt (tb v) 64 : Nat) : Int) ∧ ((cnBt (tb v) 64 : Nat) : Int) ≤ 6 by omega), if_pos c2, if_pos c3]
    simp only [Option.bind_some, q0, q1, qn0, qn1, i10, i00, in10, in00, if_true, if_false, OK_bindE, OK_some, Option.bind_some]
    rw [ezx, Option.bind_some]
    cases zx with
    | inl h =>
      obtain ⟨rfl, hg⟩ := hzx
      exact absurd c4 hg
    | inr h =>
      obtain ⟨rfl, hg⟩ := hzx
      rfl
  have xa2 : ¬ ((1 ≤ cnBt (tb v) 64 ∧ cnBt (tb v) 64 ≤ 6) ∧ (1 ≤ n ∧ n ≤ 40) ∧ (0 ≤ c ∧ c ≤ n) ∧ gdT (m 162) bt v) → X11_truth v n c x = some (-1, x) := by
    intro G
    unfold X11_truth
    rw [bitCount_s, Option.bind_some, within_in (by omega) (by omega) (by omega) (by omega) (by omega) (by omega), within_in (by omega) (by omega) hn.1 hn.2 (by omega) (by omega), within_in (by omega) hn.2 hc.1 hc.2 (by omega) hn.1]
    by_cases c1 : 1 ≤ cnBt (tb v) 64 ∧ cnBt (tb v) 64 ≤ 6
    · rw [if_pos (show (1 : Int) ≤ ((cnBt (tb v) 64 : Nat) : Int) ∧ ((cnBt (tb v) 64 : Nat) : Int) ≤ 6 by omega)]
      by_cases c2 : 1 ≤ n ∧ n ≤ 40
      · by_cases c3 : 0 ≤ c ∧ c ≤ n
        · rw [if_pos c2, if_pos c3]
          simp only [Option.bind_some, q0, q1, qn0, qn1, i10, i00, in10, in00, if_true, if_false, OK_bindE, OK_some, Option.bind_some]
          rw [ezx, Option.bind_some]
          cases zx with
          | inl h =>
            obtain ⟨rfl, hg⟩ := hzx
            rfl
          | inr h =>
            obtain ⟨rfl, hg⟩ := hzx
            exact absurd ⟨c1, c2, c3, hg⟩ G
        · rw [if_pos c2, if_neg c3]
          simp only [Option.bind_some, q0, q1, qn0, qn1, i10, i00, in10, in00, if_true, if_false, OK_bindE, OK_some, Option.bind_some]
      · rw [if_neg c2]
        simp only [Option.bind_some, q0, q1, qn0, qn1, i10, i00, in10, in00, if_true, if_false, OK_bindE, OK_some, Option.bind_some]
    · rw [if_neg (show ¬ ((1 : Int) ≤ ((cnBt (tb v) 64 : Nat) : Int) ∧ ((cnBt (tb v) 64 : Nat) : Int) ≤ 6) by omega)]
      simp only [Option.bind_some, q0, q1, qn0, qn1, i10, i00, in10, in00, if_true, if_false, OK_bindE, OK_some, Option.bind_some]
  have ma1 : (1 ≤ cnBt (tb v) 64 ∧ cnBt (tb v) 64 ≤ 6) ∧ (1 ≤ n ∧ n ≤ 40) ∧ (0 ≤ c ∧ c ≤ n) ∧ gdT (m 162) bt v → X12_truth v n c m = if w32 c ≤ 0 then (iter (X12_truth_l65 v n) FU (0, 1, m)).bind fun x10 => some (x10.1, x10.2) else (X12_truthOf v n c m).bind fun r11 => some (r11.1, r11.2) := by
    intro ⟨c1, c2, c3, c4⟩
    have k0 : ¬ tb v 63 = true := fun q => by have := (c4 63 (by omega) q).1; omega
    have k1 : uNat (shr64 v (bt : Int)) = 0 := shz.mpr ⟨fun i h1 h2 => by
      cases h : tb v i
      · rfl
      · have := (c4 i h2 h).1
        omega, fun _ => trivial⟩
    have k2 : ¬ uNat v = 0 := fun q => by have := (cn_z v).mpr q; omega
    have i1 : ¬ w32 (cmp64 v 0) < 0 := fun q => k0 ((cmp_neg v).mp q)
    have i2 : ¬ w32 (cmp64 (shr64 v (bt : Int)) 0) ≠ 0 := fun q => q ((cmp_z _).mpr k1)
    have i3 : ¬ w32 (cmp64 v 0) = 0 := fun q => k2 ((cmp_z _).mp q)
    have i4 : ¬ w32 6 < w32 ((cnBt (tb v) 64 : Nat) : Int) := by
      rw [show w32 6 = 6 from rfl, w32_id (z := ((cnBt (tb v) 64 : Nat) : Int)) (by omega) (by omega)]
      omega
    unfold X12_truth
    rw [if_neg i1, hbt, if_neg i2, if_neg i3, sizeOf_s, Option.bind_some, if_neg i4, I32_w hn, I32_w hc, lies_in (a := n) (by have := hn.1; omega) (by have := hn.2; omega) (by omega) (by omega) (by omega) (by omega), lies_in (a := c) (by have := hc.1; omega) (by have := hc.2; omega) (by omega) (by omega) (by have := hn.1; omega) (by have := hn.2; omega), if_pos c2, if_pos c3]
    simp only [Option.bind_some, q0, q1, qn0, qn1, i10, i00, in10, in00, if_true, if_false, OK_bindE, OK_some, Option.bind_some]
    rw [ezm, Option.bind_some]
    cases zm with
    | inl h =>
      obtain ⟨rfl, i, hi, ht, h0⟩ := hzm
      have := (c4 i (by omega) ht).2
      omega
    | inr h =>
      obtain ⟨rfl, hg⟩ := hzm
      rfl
  have ma2 : ¬ ((1 ≤ cnBt (tb v) 64 ∧ cnBt (tb v) 64 ≤ 6) ∧ (1 ≤ n ∧ n ≤ 40) ∧ (0 ≤ c ∧ c ≤ n) ∧ gdT (m 162) bt v) → X12_truth v n c m = some (-1, m) := by
    intro G
    unfold X12_truth
    by_cases c0 : tb v 63 = true
    · rw [if_pos ((cmp_neg v).mpr c0)]
    · rw [if_neg (fun q => c0 ((cmp_neg v).mp q)), hbt]
      by_cases c9 : uNat (shr64 v (bt : Int)) = 0
      · rw [if_neg (fun q => q ((cmp_z _).mpr c9))]
        have sh := (shz.mp c9).1
        by_cases c8 : uNat v = 0
        · rw [if_pos ((cmp_z _).mpr c8)]
        · have n0 : cnBt (tb v) 64 ≠ 0 := fun q => c8 ((cn_z v).mp q)
          rw [if_neg (fun q => c8 ((cmp_z _).mp q)), sizeOf_s, Option.bind_some]
          by_cases c1 : cnBt (tb v) 64 ≤ 6
          · have i4 : ¬ w32 6 < w32 ((cnBt (tb v) 64 : Nat) : Int) := by
              rw [show w32 6 = 6 from rfl, w32_id (z := ((cnBt (tb v) 64 : Nat) : Int)) (by omega) (by omega)]
              omega
            rw [if_neg i4, I32_w hn, I32_w hc, lies_in (a := n) (by have := hn.1; omega) (by have := hn.2; omega) (by omega) (by omega) (by omega) (by omega), lies_in (a := c) (by have := hc.1; omega) (by have := hc.2; omega) (by omega) (by omega) (by have := hn.1; omega) (by have := hn.2; omega)]
            by_cases c2 : 1 ≤ n ∧ n ≤ 40
            · by_cases c3 : 0 ≤ c ∧ c ≤ n
              · rw [if_pos c2, if_pos c3]
                simp only [Option.bind_some, q0, q1, qn0, qn1, i10, i00, in10, in00, if_true, if_false, OK_bindE, OK_some, Option.bind_some]
                rw [ezm, Option.bind_some]
                cases zm with
                | inl h =>
                  obtain ⟨rfl, i, hi, ht, h0⟩ := hzm
                  rfl
                | inr h =>
                  obtain ⟨rfl, hg⟩ := hzm
                  refine absurd ⟨⟨by omega, c1⟩, c2, c3, fun i hi ht => ?_⟩ G
                  by_cases q : i < bt
                  · exact ⟨q, hg i q ht⟩
                  · rw [sh i (by omega) hi] at ht
                    cases ht
              · rw [if_pos c2, if_neg c3]
                simp only [Option.bind_some, q0, q1, qn0, qn1, i10, i00, in10, in00, if_true, if_false, OK_bindE, OK_some, Option.bind_some]
            · rw [if_neg c2]
              simp only [Option.bind_some, q0, q1, qn0, qn1, i10, i00, in10, in00, if_true, if_false, OK_bindE, OK_some, Option.bind_some]
          · have i4 : w32 6 < w32 ((cnBt (tb v) 64 : Nat) : Int) := by
              rw [show w32 6 = 6 from rfl, w32_id (z := ((cnBt (tb v) 64 : Nat) : Int)) (by omega) (by omega)]
              omega
            rw [if_pos i4]
      · rw [if_pos (fun q => c9 ((cmp_z _).mp q))]
  by_cases G : (1 ≤ cnBt (tb v) 64 ∧ cnBt (tb v) 64 ≤ 6) ∧ (1 ≤ n ∧ n ≤ 40) ∧ (0 ≤ c ∧ c ≤ n) ∧ gdT (m 162) bt v
  · rw [xa1 G, ma1 G]
    have hv : ∀ p, bt ≤ p → p < 40 → tb v p = false := fun p h1 h2 => by
      cases h : tb v p
      · rfl
      · have := (G.2.2.2 p (by omega) h).1
        omega
    obtain ⟨N, rfl⟩ := Int.eq_ofNat_of_zero_le (show 0 ≤ n by omega)
    by_cases c0 : w32 c ≤ 0
    · rw [if_pos c0, if_pos c0]
      refine OK2_bind (OK2_mono (sum_b R X K W hbt hv (n := N) (by omega)) (fun z w h => ?_))
      exact h
    · rw [if_neg c0, if_neg c0]
      refine OK2_bind (OK2_mono (product_b R X K hbt hv hn hc (fun _ _ _ _ _ => rfl) W (fun _ _ _ _ _ => rfl)) (fun z w h => ?_))
      exact h
  · rw [xa2 G, ma2 G]
    exact ⟨rfl, fun _ _ _ _ _ => rfl, W, fun _ _ _ _ _ => rfl⟩
