/-- what a new BIT leaves as it was: on both sides -/
def BF (x m x' m' : Hp) : Prop := (∀ c j : Nat, ¬ (c = 0 ∧ (j = 14 ∨ j = 15)) → ¬ (c = 1 ∧ j = 1) → c ≠ 3 → ¬ (12 ≤ c ∧ c ≤ 17) → ¬ (c = 66 ∧ j = 16) → c ≠ 85 → x' c j = x c j) ∧ (∀ c j : Nat, ¬ (c = 150 ∧ (j = 1 ∨ j = 5 ∨ j = 6)) → ¬ (160 ≤ c ∧ c ≤ 164 ∧ m 150 5 ≤ (j : Int)) → ¬ (c = 165 ∧ 8 * m 150 5 ≤ (j : Int)) → m' c j = m c j) ∧ ((x' 66 16 = -1 ∧ m' 150 5 = m 150 5 + 1) ∨ (x' 66 16 = x 66 16 ∧ m' 150 5 = m 150 5 ∧ ∀ c j : Nat, 160 ≤ c → c ≤ 164 → m' c j = m c j))
theorem BF_rf {x m : Hp} : BF x m x m := ⟨fun _ _ _ _ _ _ _ _ => rfl, fun _ _ _ _ _ => rfl, Or.inr ⟨rfl, rfl, fun _ _ _ _ => rfl⟩⟩
theorem RC_bit {x m x' m' : Hp} (S : SB m) (C : RC x m) (hx : ∀ a j, cXC a → x' a j = x a j) (h0 : m 150 5 ≤ m' 150 5) (hm : ∀ c j : Nat, ¬ (c = 150 ∧ (j = 1 ∨ j = 5 ∨ j = 6)) → ¬ (160 ≤ c ∧ c ≤ 164 ∧ m 150 5 ≤ (j : Int)) → ¬ (c = 165 ∧ 8 * m 150 5 ≤ (j : Int)) → m' c j = m c j) : RC x' m' := by
  obtain ⟨-, -, -, -, ⟨c64, -⟩, -⟩ := id S
  refine RC_cg hx h0 (fun i k hi hl hk => ⟨hm 156 k (by omega) (by omega) (by omega), neM_cg (hm 164 i (by omega) (by omega) (by omega)) (fun p hp => hm 165 _ (by omega) (by omega) (by have := c64 i; omega)) (hm 156 k (by omega) (by omega) (by omega)) (fun p _ => hm 157 _ (by omega) (by omega) (by omega))⟩) C
theorem RS_b {x m x' m' : Hp} (hx : ∀ a j, cXS a → x' a j = x a j) (hm : ∀ a j, cMS a j → a ≠ 165 → m' a j = m a j) (h5 : ∀ j : Nat, (j : Int) < 8 * m 150 5 → m' 165 j = m 165 j) (hb : ∀ j, 0 ≤ m' 165 j ∧ m' 165 j ≤ 63) (R : RS x m) : RS x' m' := by
  have ex : ∀ a, cXS a → x' a = x a := fun a ha => funext fun j => hx a j ha
  have em : ∀ a, 152 ≤ a ∧ a ≤ 164 → m' a = m a := fun a ha => funext fun j => hm a j (Or.inl ⟨ha.1, by omega⟩) (by omega)
  have e2 := hm 150 2 (by unfold cMS; omega) (by decide)
  have e3 := hm 150 3 (by unfold cMS; omega) (by decide)
  have e4 := hm 150 4 (by unfold cMS; omega) (by decide)
  have e5 := hm 150 5 (by unfold cMS; omega) (by decide)
  obtain ⟨⟨r1, r2, r3, r4, r5⟩, ⟨s1, s2, s3, s4, ⟨s5, -⟩, s6⟩⟩ := id R
  unfold RS SB
  rw [ex 3 (by unfold cXS; omega), ex 4 (by unfold cXS; omega), ex 5 (by unfold cXS; omega), ex 6 (by unfold cXS; omega), ex 7 (by unfold cXS; omega), ex 8 (by unfold cXS; omega), ex 9 (by unfold cXS; omega), ex 10 (by unfold cXS; omega), ex 11 (by unfold cXS; omega), ex 12 (by unfold cXS; omega), ex 13 (by unfold cXS; omega), ex 14 (by unfold cXS; omega), ex 15 (by unfold cXS; omega), ex 16 (by unfold cXS; omega), ex 17 (by unfold cXS; omega)]
  rw [e2, e3, e4, e5, em 152 (by omega), em 153 (by omega), em 154 (by omega), em 155 (by omega), em 156 (by omega), em 157 (by omega), em 158 (by omega), em 159 (by omega), em 160 (by omega), em 161 (by omega), em 162 (by omega), em 163 (by omega), em 164 (by omega)]
  refine ⟨⟨r1, r2, r3, fun i p hi hp => ?_, r5⟩, ⟨s1, s2, s3, s4, ⟨s5, hb⟩, s6⟩⟩
  have := s5 i
  rw [h5 _ (by omega)]
  exact r4 i p hi hp
theorem bit_b {x m : Hp} (R : RS x m) (T : RT x m) (C : RC x m) {a b c d e : Int} (ha : I32 a) (hb : I32 b) (hc : I32 c) (hd : I32 d) (he : I32 e) : OK (X11_bit a b c d e x) (fun z => OK (X12_bit a b c d e m) (fun w => z.1 = w.1 ∧ RS z.2 w.2 ∧ RT z.2 w.2 ∧ RC z.2 w.2 ∧ BF x m z.2 w.2)) := by
  obtain ⟨⟨⟨e30, e33, e39, e311⟩, -⟩, S⟩ := id R
  obtain ⟨⟨b2, b3, b4, b5⟩, cA, cC, cB, ⟨c64, c65⟩, -⟩ := id S
  obtain ⟨⟨t1, t2, t3⟩, t4, t5⟩ := id T
  have triv : ∀ v : Int, (v, x).1 = (v, m).1 ∧ RS x m ∧ RT x m ∧ RC x m ∧ BF x m x m := fun _ => ⟨rfl, R, T, C, BF_rf⟩
  obtain ⟨n, en⟩ := Int.eq_ofNat_of_zero_le b5.1
  -- refused ahead of reading
  have hno : ∀ y : Option (Int × Hp), y = some (-1, m) → OK (X11_bit_j31 a b c d e 0 x) (fun z => OK y (fun w => z.1 = w.1 ∧ RS z.2 w.2 ∧ RT z.2 w.2 ∧ RC z.2 w.2 ∧ BF x m z.2 w.2)) := by
    intro y hy
    rw [hy]
    unfold X11_bit_j31
    exact OK_gd (by decide) (triv (-1))
  unfold X11_bit X12_bit X11_bit_j30
  simp only [x_isM (h := x) (by omega) (by omega), m_isM (h := m) (by omega) (by omega), x_isK (h := x) (by omega) (by omega), m_isK (h := m) (by omega) (by omega), e39, e33, I32_w ha, I32_w hb, w32_n1, w32_id (z := m 150 5) (by omega) (by omega), show w32 40 = 40 from rfl, Option.bind_some]
  by_cases c0 : m 150 5 = 40
  · rw [if_pos c0]
    have key : ∀ s : Int, OK (X11_bit_j31 a b c d e s x) (fun z => OK (some (-1, m)) (fun w => z.1 = w.1 ∧ RS z.2 w.2 ∧ RT z.2 w.2 ∧ RC z.2 w.2 ∧ BF x m z.2 w.2)) := by
      intro s
      unfold X11_bit_j31 X7_bits
      refine OK_if (fun _ => triv (-1)) (fun _ => ?_)
      rw [OK_bindE, OK_some, e311, c0]
      exact OK_gd (by decide) (triv (-1))
    have key2 : OK (X11_bit_j13 a b c d e x) (fun z => OK (some (-1, m)) (fun w => z.1 = w.1 ∧ RS z.2 w.2 ∧ RT z.2 w.2 ∧ RC z.2 w.2 ∧ BF x m z.2 w.2)) := by
      unfold X11_bit_j13 X11_bit_j30
      simp only [within_eq, OK_bindE, OK_some]
      refine OK_if (fun _ => key 0) (fun _ => ?_)
      simp only [OK_bindE, OK_some]
      refine OK_if (fun _ => key 0) (fun _ => ?_)
      simp only [OK_bindE, OK_some]
      exact OK_if (fun _ => key 0) (fun _ => key 1)
    exact OK_if (fun _ => key 0) (fun _ => OK_if (fun _ => key2) (fun _ => OK_if (fun _ => key 0) (fun _ => key2)))
  · rw [if_neg c0]
    have main : 0 ≤ a → a < m 150 4 → -1 ≤ b → b < m 150 3 → OK (X11_bit_j13 a b c d e x) (fun z => OK (X12_bit_j15 a b c d e m) (fun w => z.1 = w.1 ∧ RS z.2 w.2 ∧ RT z.2 w.2 ∧ RC z.2 w.2 ∧ BF x m z.2 w.2)) := by
      intro a1 a2 a3 a4
      unfold X11_bit_j13 X12_bit_j15 X11_bit_j30
      simp only [within_in (a := c) (b := 0) (c := 40) (by omega) (by omega) hc.1 hc.2 (by omega) (by omega), within_in (a := d) (b := 0) (c := 9) (by omega) (by omega) hd.1 hd.2 (by omega) (by omega), within_in (a := e) (b := 1) (c := 8) (by omega) (by omega) he.1 he.2 (by omega) (by omega), I32_w hc, I32_w hd, I32_w he, lies_in (a := c) (b := 0) (c := 40) (by have := hc.1; omega) (by have := hc.2; omega) (by omega) (by omega) (by omega) (by omega), lies_in (a := d) (b := 0) (c := 9) (by have := hd.1; omega) (by have := hd.2; omega) (by omega) (by omega) (by omega) (by omega), lies_in (a := e) (b := 1) (c := 8) (by have := he.1; omega) (by have := he.2; omega) (by omega) (by omega) (by omega) (by omega), Option.bind_some, w32_id (z := m 150 1) (by omega) (by omega)]
      by_cases k1 : 0 ≤ c ∧ c ≤ 40
      · by_cases k2 : 0 ≤ d ∧ d ≤ 9
        · by_cases k3 : 1 ≤ e ∧ e ≤ 8
          · simp only [if_pos k1, if_pos k2, if_pos k3, q1, if_false]
            obtain ⟨s, rfl⟩ := Int.eq_ofNat_of_zero_le (show 0 ≤ e by omega)
            unfold X11_bit_j31 X7_bits X9_clear
            rw [if_neg (by decide), OK_bindE, OK_some, e311]
            refine OK_gn (by rw [show w32 40 = 40 from rfl, w32_id (by omega) (by omega)]; omega) ?_
            rw [holds_eq (by omega), OK_bindE, OK_some, t1, w32_id (z := (s : Int)) (by omega) (by omega), w32_id (z := m 150 1) (by omega) (by omega)]
            by_cases k4 : (s : Int) ≤ m 150 1
            · rw [if_pos k4, if_pos (show 0 ≤ (s : Int) ∧ (s : Int) * 1 ≤ m 150 1 by omega)]
              refine OK_gd (by decide) ?_
              refine OK2_bind (OK2_mono (take_b T (b := n) en (by omega) (by omega) k4 c65 a b c d) (fun z w h => ?_))
              obtain ⟨h, fz⟩ := h
              rw [OK_bindE, OK_some]
              have nf : ∀ y : Hp, (∀ j, 0 ≤ y 165 j ∧ y 165 j ≤ 63) → (∀ c j, ¬ (c = 150 ∧ j = 1) → ¬ (c = 165 ∧ 8 * n ≤ j) → y c j = m c j) → y 150 1 = 0 → RS (setH z.2 1 1 0) y ∧ RT (setH z.2 1 1 0) y ∧ RC (setH z.2 1 1 0) y := by
                intro y yb fy y1
                refine ⟨RS_b (fun c j h => (setH_f (by unfold cXS at h; omega)).trans (fz c j (by unfold cXS at h; omega) (by unfold cXS at h; omega))) (fun c j h h2 => fy c j (by unfold cMS at h; omega) (by omega)) (fun j hj => fy 165 j (by omega) (by omega)) yb R, ⟨⟨by rw [setH_s, y1], by omega, by omega⟩, ?_, fun i => ?_⟩, RC_bit S C (fun c j h => (setH_f (by unfold cXC at h; omega)).trans (fz c j (by unfold cXC at h; omega) (by unfold cXC at h; omega))) (by rw [fy 150 5 (by omega) (by omega)]; exact Int.le_refl _) (fun c j h1 h2 h3 => fy c j (by omega) (by omega))⟩
                · rw [setH_o (by decide), fz 0 15 (by omega) (by decide), fy 150 6 (by omega) (by omega)]
                  exact t4
                · rw [setH_o (by decide), fz 2 i (by omega) (by decide), fy 151 i (by omega) (by omega)]
                  exact t5 i
              rcases h with ⟨y, rfl, hz, yb, fy, y1⟩ | ⟨y, rfl, hz, hz14, hw, yb, fy, y1⟩
              · obtain ⟨R', T', C'⟩ := nf y yb fy y1
                rw [hz]
                refine OK_gd (by decide) ?_
                exact ⟨rfl, R', T', C', fun c j h1 h2 h3 h4 h5 h6 => (setH_f h2).trans (fz c j (by omega) h6), fun c j h1 h2 h3 => fy c j (by omega) (by omega), Or.inr ⟨by show setH z.2 1 1 0 66 16 = _; rw [setH_o (by decide)]; exact fz 66 16 (by omega) (by decide), fy 150 5 (by omega) (by omega), fun c j h1 h2 => fy c j (by omega) (by omega)⟩⟩
              · obtain ⟨R', T', C'⟩ := nf y yb fy y1
                rw [hz]
                refine OK_gn (by decide) ?_
                have y5 : y 150 5 = (n : Int) := by rw [fy 150 5 (by omega) (by omega)]; exact en
                refine OK2_bind (OK2_mono (keep_b R' (n := n) (s := s) y5 (by omega) (by omega) (by rw [setH_o (by decide)]; exact hz14) (wr := a) (wk := b) (bk := c) (sj := d) (by rw [fy 150 4 (by omega) (by omega)]; omega) (by rw [fy 150 3 (by omega) (by omega)]; omega) k1 k2 (fun p hp => by rw [setH_o (by decide)]; exact hw p hp)) (fun u v q => ?_))
                obtain ⟨q1', q2, q3, q4, q5, q6⟩ := q
                have S' : SB y := R'.2
                refine ⟨?_, q3, ?_, RC_bit S' C' (fun c j h => q5 c j (by unfold cXC at h; omega) (by unfold cXC at h; omega) (by unfold cXC at h; omega)) (by show y 150 5 ≤ v 150 5; omega) (fun c j h1 h2 h3 => q6 c j (by omega) (by omega)), fun c j h1 h2 h3 h4 h5 h6 => ?_, fun c j h1 h2 h3 => ?_, Or.inl ⟨q4, ?_⟩⟩
                · show u.1 = v 150 5 - 1
                  omega
                · exact RT_cg (q5 1 1 (by decide) (by omega) (by omega)) (q5 0 15 (by decide) (by omega) (by omega)) (funext fun j => q5 2 j (by decide) (by omega) (by omega)) (q6 150 1 (by omega) (by omega)) (q6 150 6 (by omega) (by omega)) (funext fun j => q6 151 j (by omega) (by omega)) T'
                · exact (q5 c j h3 h4 h5).trans ((setH_f h2).trans (fz c j (by omega) h6))
                · exact (q6 c j (by omega) (by omega)).trans (fy c j (by omega) (by omega))
                · show v 150 5 = m 150 5 + 1
                  omega
            · rw [if_neg k4, if_neg (show ¬ (0 ≤ (s : Int) ∧ (s : Int) * 1 ≤ m 150 1) by omega)]
              exact OK_gn (by decide) (triv (-1))
          · simp only [if_pos k1, if_pos k2, if_neg k3, q0, q1, if_true, if_false]
            exact hno _ rfl
        · simp only [if_pos k1, if_neg k2, q0, q1, if_true, if_false]
          exact hno _ rfl
      · simp only [if_neg k1, q0, if_true]
        exact hno _ rfl
    by_cases k1 : 0 ≤ a ∧ a < m 150 4
    · simp only [if_pos k1, q1, if_false]
      by_cases k2 : b = -1
      · rw [if_pos k2, if_pos k2]
        exact main k1.1 k1.2 (by omega) (by omega)
      · rw [if_neg k2, if_neg k2]
        by_cases k3 : 0 ≤ b ∧ b < m 150 3
        · simp only [if_pos k3, q1, if_false]
          exact main k1.1 k1.2 (by omega) k3.2
        · simp only [if_neg k3, q0, if_true]
          exact hno _ rfl
    · simp only [if_neg k1, q0, if_true]
      exact hno _ rfl
