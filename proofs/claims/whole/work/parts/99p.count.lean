/-! COUNT -/
theorem w32_sub {v : Int} {k : Nat} {n : Int} (hv : I32 v) (hk : k ≤ 20) (hn : n ≤ 8) : (0 ≤ w32 (v - (k : Int)) ∧ w32 (v - (k : Int)) < n) ↔ ((k : Int) ≤ v ∧ v < (k : Int) + n) := by
  obtain ⟨h1, h2⟩ := hv
  have a := w32_mod (v - (k : Int))
  have b := w32_ge (v - (k : Int))
  have c := w32_lt' (v - (k : Int))
  omega
theorem count_b {x m : Hp} (R : RS x m) (T : RT x m) (P : RP x m) (hp : x 66 2 = m 150 75) {v : Int} (hv : I32 v) : OK (X11_count v x) (fun z => OK (X12_count v m) (fun w => z = w)) := by
  obtain ⟨⟨⟨e30, e33, e39, e311⟩, ⟨e4, e5, e6, e7, e8, e9, e10, e11⟩, -, -⟩, S⟩ := id R
  obtain ⟨⟨b2, b3, b4, b5⟩, -⟩ := id S
  obtain ⟨⟨t1, t2, t3⟩, t4, t5⟩ := T
  have s10 := w32_sub (v := v) (k := 10) (n := m 150 4) hv (by decide) b4.2
  have s20 := w32_sub (v := v) (k := 20) (n := m 150 3) hv (by decide) b3.2
  have tx : ∀ T, T ≤ 10 → x (tOf T) 0 = m 166 T := fun T hT => by
    obtain ⟨c, -, h2, h3, -⟩ := P.1 T hT
    rw [h2, h3]
  have wv := I32_w hv
  unfold X11_count X12_count
  rw [within_in (a := v) (b := 10) (c := 19) (by decide) (by decide) hv.1 hv.2 (by decide) (by decide), m_isM (by omega) (by omega), m_isK (by omega) (by omega), OK_bindE, OK_some]
  by_cases c1 : 10 ≤ v ∧ v ≤ 19
  · rw [if_pos c1]
    refine OK_gn (by decide) ?_
    have n20 : ¬ (0 ≤ w32 (v - 20) ∧ w32 (v - 20) < m 150 3) := fun q => by
      have := s20.mp q
      omega
    unfold X11_wayOf X11_wayOf_j15
    rw [x_isM (by omega) (by omega), e39]
    have w10 : w32 (v - 10) = v - 10 := w32_id (by omega) (by omega)
    simp only [w10, Option.bind_some]
    by_cases c2 : 0 ≤ v - 10 ∧ v - 10 < m 150 4
    · obtain ⟨T, hT⟩ := Int.eq_ofNat_of_zero_le c2.1
      rw [hT] at c2 ⊢
      have hok : okO (some (86 + 8 * ((T : Int)).toNat)) = true := okO_some (by
        have : T = 0 ∨ T = 1 ∨ T = 2 ∨ T = 3 ∨ T = 4 ∨ T = 5 ∨ T = 6 ∨ T = 7 := by omega
        rcases this with q | q | q | q | q | q | q | q <;> subst q <;> decide)
      rw [if_pos c2, if_neg (by decide), if_neg (by rw [show w32 8 = 8 from rfl]; omega), if_inb (by omega) (by omega) (by omega), Option.bind_some, if_pos hok, if_neg (by decide), if_inb (by omega) (by omega) (by omega)]
      unfold X10_clauses
      dsimp only
      rw [Option.bind_some, OK_some, OK_some]
      have := tx T (by omega)
      unfold tOf at this
      rw [if_pos (by omega)] at this
      exact this
    · rw [if_neg c2, if_pos (by decide), if_pos (by decide), Option.bind_some, if_pos (by rfl)]
      have n20' : ¬ (0 ≤ w32 (v - 20) ∧ w32 (v - 20) < m 150 3) := n20
      dsimp only
      rw [if_neg n20', if_pos (by decide)]
      simp only [wv]
      rw [if_neg (by omega), if_neg (by omega), if_neg (by omega), if_neg (by omega), if_neg (by omega), if_neg (by omega), if_neg (by omega), if_neg (by omega), if_neg (by omega), if_neg (by omega), OK_some, OK_some]
  · have n10 : ¬ (0 ≤ w32 (v - 10) ∧ w32 (v - 10) < m 150 4) := fun q => by
      have := s10.mp q
      omega
    rw [if_neg c1, if_neg n10, Option.bind_some]
    have k00 : w32 (0 : Int) = 0 := by decide
    refine OK_gd k00 ?_
    rw [if_pos k00]
    by_cases c2 : v < 20
    · have n20 : ¬ (0 ≤ w32 (v - 20) ∧ w32 (v - 20) < m 150 3) := fun q => by
        have := s20.mp q
        omega
      refine OK_gd (by rw [wv, show w32 20 = 20 from rfl]; exact c2) ?_
      rw [if_neg n20, Option.bind_some, if_pos k00]
      simp only [X7_authors, X7_works, X7_writers, X7_bits, X9_size, X10_clauses, X5_pairs, Option.bind_some]
      have t8 := tx 8 (by omega)
      have t9 := tx 9 (by omega)
      have t10 := tx 10 (by omega)
      have e8' : tOf 8 = 28 := rfl
      have e9' : tOf 9 = 36 := rfl
      have e10' : tOf 10 = 44 := rfl
      rw [e8'] at t8
      rw [e9'] at t9
      rw [e10'] at t10
      have fin : ∀ (a b : Int), a = b → OK (some a) (fun z => OK (some b) (fun w => z = w)) := fun a b h => by rw [OK_some, OK_some]; exact h
      have i11 : ∀ {α : Type} (j : Nat) (p q : α) (dc : Decidable (inb (j : Int) 11)), j < 11 → @ite α (inb (j : Int) 11) dc p q = p := fun j p q dc hj => if_inb (by omega) (by omega) (by omega)
      by_cases k0 : w32 v = 0
      · rw [if_pos k0, if_pos k0]; exact fin _ _ e30
      rw [if_neg k0, if_neg k0]
      by_cases k1 : w32 v = 1
      · rw [if_pos k1, if_pos k1]; exact fin _ _ e33
      rw [if_neg k1, if_neg k1]
      by_cases k2 : w32 v = 2
      · rw [if_pos k2, if_pos k2]; exact fin _ _ e39
      rw [if_neg k2, if_neg k2]
      by_cases k3 : w32 v = 3
      · rw [if_pos k3, if_pos k3]; exact fin _ _ e311
      rw [if_neg k3, if_neg k3]
      by_cases k4 : w32 v = 4
      · rw [if_pos k4, if_pos k4]; exact fin _ _ t4.1
      rw [if_neg k4, if_neg k4]
      by_cases k5 : w32 v = 5
      · rw [if_pos k5, if_pos k5]; exact fin _ _ t1
      rw [if_neg k5, if_neg k5]
      by_cases k6 : w32 v = 6
      · rw [if_pos k6, if_pos k6, if_inb (by omega) (by omega) (by omega)]; exact fin _ _ t8
      rw [if_neg k6, if_neg k6]
      by_cases k7 : w32 v = 7
      · rw [if_pos k7, if_pos k7, if_inb (by omega) (by omega) (by omega)]; exact fin _ _ t9
      rw [if_neg k7, if_neg k7]
      by_cases k8 : w32 v = 8
      · rw [if_pos k8, if_pos k8, if_inb (by omega) (by omega) (by omega)]; exact fin _ _ t10
      rw [if_neg k8, if_neg k8]
      by_cases k9 : w32 v = 9
      · rw [if_pos k9, if_pos k9]; exact fin _ _ hp
      rw [if_neg k9, if_neg k9]
      exact fin _ _ rfl
    · refine OK_gn (by rw [wv, show w32 20 = 20 from rfl]; exact c2) ?_
      have w20 : w32 (v - 20) = v - 20 := by
        have := hv.2
        exact w32_id (by omega) (by omega)
      rw [x_isK (by omega) (by omega), e33, OK_bindE, OK_some]
      simp only [w20]
      by_cases c3 : 0 ≤ v - 20 ∧ v - 20 < m 150 3
      · obtain ⟨k, hk⟩ := Int.eq_ofNat_of_zero_le c3.1
        rw [hk] at c3 ⊢
        rw [if_pos c3, Option.bind_some]
        refine OK_gn (by decide) ?_
        unfold X7_wordsLeft
        rw [if_neg (by decide), at_e k rfl (by omega) (by omega), if_inb (by omega) (by omega) (by omega), Option.bind_some, OK_bindE, OK_some, OK_some, OK_some, e8]
        rfl
      · rw [if_neg c3, Option.bind_some]
        refine OK_gd (by decide) ?_
        rw [if_pos k00, if_neg (by rw [wv]; omega), if_neg (by rw [wv]; omega), if_neg (by rw [wv]; omega), if_neg (by rw [wv]; omega), if_neg (by rw [wv]; omega), if_neg (by rw [wv]; omega), if_neg (by rw [wv]; omega), if_neg (by rw [wv]; omega), if_neg (by rw [wv]; omega), if_neg (by rw [wv]; omega), OK_some, OK_some]
