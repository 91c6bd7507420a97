/-! EDITORS: gives, given, wrong -/
def RE (x m : Hp) : Prop := (x 81 1 = m 150 88 ∧ 0 ≤ m 150 88 ∧ m 150 88 ≤ 60) ∧ (x 82 = m 196 ∧ x 83 = m 197 ∧ x 84 = m 198) ∧ ((∀ g, 0 ≤ m 196 g ∧ m 196 g ≤ 39) ∧ (∀ g, -1 ≤ m 197 g ∧ m 197 g ≤ 7) ∧ (∀ g, 0 ≤ m 198 g ∧ m 198 g ≤ 2000)) ∧ (∀ g : Nat, (g : Int) < m 150 88 → m 197 g < m 150 3) ∧ (∀ g h : Nat, g ≤ h → (h : Int) < m 150 88 → m 198 g ≤ m 198 h)
theorem RE_cg {x m x' m' : Hp} (h1 : x' 81 1 = x 81 1) (h2 : x' 82 = x 82) (h3 : x' 83 = x 83) (h4 : x' 84 = x 84) (g1 : m' 150 88 = m 150 88) (g2 : m' 196 = m 196) (g3 : m' 197 = m 197) (g4 : m' 198 = m 198) (g5 : m 150 3 ≤ m' 150 3) (R : RE x m) : RE x' m' := by
  obtain ⟨r1, r2, r3, r4, r5⟩ := R
  unfold RE
  rw [h1, h2, h3, h4, g1, g2, g3, g4]
  exact ⟨r1, r2, r3, fun g hg => by have := r4 g hg; omega, r5⟩
/-- the WORK that was given last by a YEAR, after the first n giving -/
def gvW (m : Hp) (i y k0 : Int) : Nat → Int
  | 0 => k0
  | g + 1 => if m 196 g = i ∧ m 198 g ≤ y then m 197 g else gvW m i y k0 g
theorem gvW_stop {m : Hp} {i y k0 : Int} {g n : Nat} (h : ∀ q : Nat, g ≤ q → q < n → y < m 198 q) : ∀ c, g + c ≤ n → gvW m i y k0 (g + c) = gvW m i y k0 g
  | 0, _ => rfl
  | c + 1, hc => by
    show (if m 196 (g + c) = i ∧ m 198 (g + c) ≤ y then m 197 (g + c) else gvW m i y k0 (g + c)) = _
    have := h (g + c) (by omega) (by omega)
    rw [if_neg (by omega)]
    exact gvW_stop h c (by omega)
theorem gvW_bd {m : Hp} {i y k0 W : Int} (h0 : -1 ≤ k0 ∧ k0 < W) (h1 : ∀ g, -1 ≤ m 197 g ∧ m 197 g ≤ 7) : ∀ n : Nat, (∀ g : Nat, g < n → m 197 g < W) → -1 ≤ gvW m i y k0 n ∧ gvW m i y k0 n < W
  | 0, _ => h0
  | g + 1, h => by
    have a := h1 g
    have b := h g (by omega)
    show -1 ≤ (if m 196 g = i ∧ m 198 g ≤ y then m 197 g else gvW m i y k0 g) ∧ (if m 196 g = i ∧ m 198 g ≤ y then m 197 g else gvW m i y k0 g) < W
    split
    · omega
    · exact gvW_bd h0 h1 g (fun q hq => h q (by omega))
theorem workBy_s {x m : Hp} (R : RS x m) (E : RE x m) {i n : Nat} {y : Int} (hi : (i : Int) < m 150 5) (hy : I32 y) (en : m 150 88 = (n : Int)) : X3_workBy (i : Int) y x = some (gvW m i y (m 161 i) n) := by
  obtain ⟨⟨⟨-, -, -, e311⟩, -, ⟨e12, e13, -⟩, -⟩, S⟩ := id R
  obtain ⟨⟨-, -, -, b5⟩, -, -, ⟨c60, c61, -⟩, -⟩ := id S
  obtain ⟨⟨r1, r1a, r1b⟩, ⟨r2, r3, r4⟩, ⟨g1, g2, g3⟩, q1, q2⟩ := E
  unfold X3_workBy
  rw [bitWork_in i (by omega) (by omega), e13]
  show ((iter (X3_workBy_l7 (i : Int) y x) FU (m 161 i, 0)).bind fun x5 => some x5) = _
  have L : OK (iter (X3_workBy_l7 (i : Int) y x) FU (m 161 i, 0)) (fun z => z = gvW m i y (m 161 i) n) := by
    refine iter_up (fun g t => t = (gvW m i y (m 161 i) g, (g : Int))) _ n (by omega) (fun g t hg hI => ?_) rfl
    subst hI
    have a1 := g1 g
    have a2 := g2 g
    have a3 := g3 g
    unfold X3_workBy_l7 X3_workBy_j28
    (try dsimp only)
    simp only [r1, en, w32_id (z := (n : Int)) (by omega) (by omega), w32_id (z := (g : Int)) (by omega) (by omega)]
    refine OK_if (fun c => ?_) (fun c => ?_)
    · rw [OK_some, LQ_r, show n = g by omega]
    · simp only [at_e (a := 84) (n := 60) (v := (g : Int)) (h := x) g rfl (by omega) (by omega), at_e (a := 82) (n := 60) (v := (g : Int)) (h := x) g rfl (by omega) (by omega), at_e (a := 83) (n := 60) (v := (g : Int)) (h := x) g rfl (by omega) (by omega), OK_bindE, OK_some, Option.bind_some, r2, r3, r4, I32_w hy, w32_id (z := m 196 g) (by omega) (by omega), w32_id (z := m 198 g) (by omega) (by omega), w32_id (z := (i : Int)) (by omega) (by omega)]
      refine OK_if (fun d => ?_) (fun d => OK_if (fun e => ?_) (fun e => ?_))
      · rw [OK_some, LQ_r]
        have := gvW_stop (m := m) (i := i) (y := y) (k0 := m 161 i) (g := g) (n := n) (fun q h1 h2 => by have := q2 g q h1 (by omega); omega) (n - g) (by omega)
        rw [show g + (n - g) = n by omega] at this
        exact this.symm
      · rw [OK_some, LQ_l]
        refine ⟨by omega, ?_⟩
        show _ = ((if m 196 g = i ∧ m 198 g ≤ y then m 197 g else gvW m i y (m 161 i) g), _)
        rw [if_neg (by omega)]
        rfl
      · rw [OK_some, LQ_l]
        refine ⟨by omega, ?_⟩
        show _ = ((if m 196 g = i ∧ m 198 g ≤ y then m 197 g else gvW m i y (m 161 i) g), _)
        rw [if_pos (by omega)]
        rfl
  obtain ⟨z, hz, e⟩ := OK_ex L
  rw [hz, e]
  rfl
theorem givenOf_s {m : Hp} (S : SB m) {x : Hp} (E : RE x m) {i n : Nat} {y : Int} (hi : (i : Int) < m 150 5) (hy : I32 y) (en : m 150 88 = (n : Int)) : X12_givenOf (i : Int) y m = some (gvW m i y (m 161 i) n) := by
  obtain ⟨⟨-, -, -, b5⟩, -, -, ⟨c60, c61, -⟩, -⟩ := id S
  obtain ⟨⟨r1, r1a, r1b⟩, ⟨r2, r3, r4⟩, ⟨g1, g2, g3⟩, q1, q2⟩ := E
  unfold X12_givenOf
  rw [if_inb (by omega) (by omega) (by omega), wtn i rfl (by omega)]
  have L : OK (iter (X12_givenOf_l7 (i : Int) y m) FU (m 161 i, 0)) (fun z => z = gvW m i y (m 161 i) n) := by
    refine iter_up (fun g t => t = (gvW m i y (m 161 i) g, (g : Int))) _ n (by omega) (fun g t hg hI => ?_) rfl
    subst hI
    have a1 := g1 g
    have a2 := g2 g
    have a3 := g3 g
    unfold X12_givenOf_l7 X12_givenOf_j28
    (try dsimp only)
    simp only [en, w32_id (z := (n : Int)) (by omega) (by omega), w32_id (z := (g : Int)) (by omega) (by omega)]
    refine OK_if (fun c => ?_) (fun c => ?_)
    · rw [OK_some, LQ_r, show n = g by omega]
    · simp only [if_inb (v := (g : Int)) (n := 60) (by omega) (by omega) (by omega), tn, I32_w hy, w32_id (z := m 196 g) (by omega) (by omega), w32_id (z := m 198 g) (by omega) (by omega), w32_id (z := (i : Int)) (by omega) (by omega)]
      refine OK_if (fun d => ?_) (fun d => OK_if (fun e => ?_) (fun e => ?_))
      · rw [OK_some, LQ_l]
        refine ⟨by omega, ?_⟩
        show _ = ((if m 196 g = i ∧ m 198 g ≤ y then m 197 g else gvW m i y (m 161 i) g), _)
        rw [if_neg (by omega)]
        rfl
      · rw [OK_some, LQ_l]
        refine ⟨by omega, ?_⟩
        show _ = ((if m 196 g = i ∧ m 198 g ≤ y then m 197 g else gvW m i y (m 161 i) g), _)
        rw [if_neg (by omega)]
        rfl
      · rw [OK_some, LQ_l]
        refine ⟨by omega, ?_⟩
        show _ = ((if m 196 g = i ∧ m 198 g ≤ y then m 197 g else gvW m i y (m 161 i) g), _)
        rw [if_pos (by omega)]
        rfl
  obtain ⟨z, hz, e⟩ := OK_ex L
  rw [hz, e]
  rfl
theorem isYear_e {y : Int} (hy : I32 y) : X12_isYear y = some (if 0 ≤ y ∧ y ≤ 2000 then 1 else 0) := by
  unfold X12_isYear
  rw [I32_w hy, lies_in (by have := hy.1; omega) (by have := hy.2; omega) (by omega) (by omega) (by omega) (by omega)]
  by_cases c : 0 ≤ y ∧ y ≤ 2000
  · rw [if_pos c]
    rfl
  · rw [if_neg c]
    rfl
theorem given_b {x m : Hp} (R : RS x m) (E : RE x m) {a b : Int} (ha : I32 a) (hb : I32 b) : OK (X11_given a b x) (fun z => OK (X12_given a b m) (fun w => z = w)) := by
  obtain ⟨⟨⟨-, -, -, e311⟩, -⟩, S⟩ := id R
  obtain ⟨⟨-, -, -, b5⟩, -⟩ := id S
  obtain ⟨⟨r1, r1a, r1b⟩, -⟩ := id E
  obtain ⟨n, en⟩ := Int.eq_ofNat_of_zero_le r1a
  unfold X11_given X12_given
  simp only [x_isB (h := x) (by omega) (by omega), m_isB (h := m) (by omega) (by omega), e311, I32_w ha, isYear_e hb, within_in (a := b) (b := 0) (c := 2000) (by omega) (by omega) hb.1 hb.2 (by omega) (by omega), Option.bind_some]
  by_cases c : 0 ≤ a ∧ a < m 150 5
  · by_cases d : 0 ≤ b ∧ b ≤ 2000
    · simp only [if_pos c, if_pos d, q1, if_false]
      obtain ⟨i, rfl⟩ := Int.eq_ofNat_of_zero_le c.1
      rw [workBy_s R E c.2 hb en, givenOf_s S E c.2 hb en]
      rfl
    · simp only [if_pos c, if_neg d, q0, q1, if_true, if_false]
      rfl
  · simp only [if_neg c, q0, if_true]
    rfl
theorem wrong_b {x m : Hp} (R : RS x m) (E : RE x m) {a : Int} (ha : I32 a) : OK (X11_wrong a x) (fun z => OK (X12_wrong a m) (fun w => z = w)) := by
  obtain ⟨⟨⟨e30, e33, e39, e311⟩, ⟨e4, e5, e6, e7, e8, e9, e10, e11⟩, ⟨e12, e13, e14, e15, e16⟩, -⟩, S⟩ := id R
  obtain ⟨⟨b2, b3, b4, b5⟩, ⟨c52, c53, c54, c55⟩, ⟨c56, c57, c58, c59⟩, ⟨c60, c61, c62, c63⟩, -, ⟨d1, d2, d3⟩⟩ := id S
  obtain ⟨⟨r1, r1a, r1b⟩, -, ⟨g1, g2, g3⟩, q1', -⟩ := id E
  obtain ⟨n, en⟩ := Int.eq_ofNat_of_zero_le r1a
  obtain ⟨N, eN⟩ := Int.eq_ofNat_of_zero_le b5.1
  unfold X11_wrong X12_wrong X3_wronglyBy
  simp only [isYear_e ha, within_in (a := a) (b := 0) (c := 2000) (by omega) (by omega) ha.1 ha.2 (by omega) (by omega), Option.bind_some]
  by_cases c : 0 ≤ a ∧ a ≤ 2000
  · simp only [if_pos c, q1, qn1, if_true, if_false, OK_bindE, OK_some]
    refine iter_2 (fun p s t => ∃ u : Int, s = (u, (p : Int)) ∧ t = (u, (p : Int))) _ N (by omega) (fun p s t hp hI => ?_) ⟨0, rfl, rfl⟩
    obtain ⟨u, rfl, rfl⟩ := hI
    unfold X3_wronglyBy_l4 X12_wrong_l9 X3_wronglyBy_j28 X12_wrong_j51 X7_bits
    (try dsimp only)
    simp only [OK_bindE, OK_some, e311, eN, w32_id (z := (N : Int)) (by omega) (by omega), w32_id (z := (p : Int)) (by omega) (by omega)]
    refine OK_if (fun k => ?_) (fun k => ?_)
    · rw [OK_some, if_pos k, OK_some, LQ2_r]
    · rw [if_neg k, workBy_s R E (by omega) ha en, givenOf_s S E (by omega) ha en]
      have bd := gvW_bd (m := m) (i := p) (y := a) (k0 := m 161 p) (W := m 150 3) (by have := d1 p (by omega); have := c61 p; omega) g2 n (fun g hg => q1' g (by omega))
      generalize gvW m p a (m 161 p) n = K at bd ⊢
      simp only [OK_bindE, OK_some, w32_n1, w32_id (z := K) (by omega) (by omega)]
      have go : LQ2 (fun s' t' => p < N ∧ ∃ u : Int, s' = (u, ((p + 1 : Nat) : Int)) ∧ t' = (u, ((p + 1 : Nat) : Int))) (fun (z w : Int) => z = w) (Sum.inl (u, (p : Int) + 1)) (Sum.inl (u, (p : Int) + 1)) := ⟨by omega, u, rfl, rfl⟩
      have go2 : LQ2 (fun s' t' => p < N ∧ ∃ u : Int, s' = (u, ((p + 1 : Nat) : Int)) ∧ t' = (u, ((p + 1 : Nat) : Int))) (fun (z w : Int) => z = w) (Sum.inl (or64 u (shl64 1 (p : Int)), (p : Int) + 1)) (Sum.inl (or64 u (shl64 1 (p : Int)), (p : Int) + 1)) := ⟨by omega, _, rfl, rfl⟩
      by_cases k2 : K = -1
      · refine OK_gd k2 ?_
        rw [OK_some, if_pos k2]
        exact go
      · refine OK_gn k2 ?_
        obtain ⟨k3, rfl⟩ := Int.eq_ofNat_of_zero_le (show 0 ≤ K by omega)
        have f1 := c54 k3
        have f2 := d2 k3 bd.2
        have f3 := c60 p
        have f4 := (d1 p (by omega)).2.1
        obtain ⟨A, eA⟩ := Int.eq_ofNat_of_zero_le f1.1
        obtain ⟨M, eM⟩ := Int.eq_ofNat_of_zero_le f3.1
        have f5 := c52 A
        have f6 := c59 M
        have f7 := c55 k3
        have f8 := c62 p
        have hw : X3_isWrong (p : Int) (k3 : Int) x = some (if m 159 M < m 152 A ∨ m 155 k3 < m 162 p then 1 else 0) := by
          unfold X3_isWrong X3_isWrong_j24 X7_authorOf X7_authorYear X7_writerYear X7_booksOf
          simp only [x_isK (v := (k3 : Int)) (h := x) (by omega) (by omega), w32_id (z := (k3 : Int)) (by omega) (by omega), e33, if_pos (show 0 ≤ (k3 : Int) ∧ (k3 : Int) < m 150 3 by omega), q1, if_false, Option.bind_some, at_e (a := 6) (n := 8) (v := (k3 : Int)) (h := x) k3 rfl (by omega) (by omega), e6, eA, at_e (a := 4) (n := 8) (v := (A : Int)) (h := x) A rfl (by omega) (by omega), e4, bitWriter_in (h := x) p (by omega) (by omega), e12, eM, at_e (a := 11) (n := 8) (v := (M : Int)) (h := x) M rfl (by omega) (by omega), e11, at_e (a := 7) (n := 8) (v := (k3 : Int)) (h := x) k3 rfl (by omega) (by omega), e7, bitBook_in (h := x) p (by omega) (by omega), e14, w32_id (z := m 159 M) (by omega) (by omega), w32_id (z := m 152 A) (by omega) (by omega), w32_id (z := m 155 k3) (by omega) (by omega), w32_id (z := m 162 p) (by omega) (by omega)]
          by_cases w1 : m 159 M < m 152 A
          · rw [if_pos w1, if_pos (Or.inl w1)]
          · rw [if_neg w1]
            by_cases w2 : m 162 p ≤ m 155 k3
            · rw [if_pos w2, if_neg (by omega)]
            · rw [if_neg w2, if_pos (by omega)]
        rw [if_neg k2, hw, OK_bindE, OK_some]
        simp only [tn, eA, eM, if_inb (v := (k3 : Int)) (n := 8) (by omega) (by omega) (by omega), if_inb (v := (A : Int)) (n := 8) (by omega) (by omega) (by omega), if_inb (v := (p : Int)) (n := 40) (by omega) (by omega) (by omega), if_inb (v := (M : Int)) (n := 8) (by omega) (by omega) (by omega), w32_id (z := (A : Int)) (by omega) (by omega), w32_id (z := (M : Int)) (by omega) (by omega), w32_id (z := m 159 M) (by omega) (by omega), w32_id (z := m 152 A) (by omega) (by omega), w32_id (z := m 155 k3) (by omega) (by omega), w32_id (z := m 162 p) (by omega) (by omega)]
        unfold X12_wrong_j45 X12_wrong_j51
        by_cases w1 : m 159 M < m 152 A
        · rw [if_pos (Or.inl w1)]
          refine OK_gn (by decide) ?_
          rw [OK_some, if_pos w1]
          exact go2
        · by_cases w2 : m 162 p ≤ m 155 k3
          · rw [if_neg (show ¬ (m 159 M < m 152 A ∨ m 155 k3 < m 162 p) by omega)]
            refine OK_gd (by decide) ?_
            rw [OK_some, if_neg w1, if_pos w2]
            exact go
          · rw [if_pos (show (m 159 M < m 152 A ∨ m 155 k3 < m 162 p) by omega)]
            refine OK_gn (by decide) ?_
            rw [OK_some, if_neg w1, if_neg w2]
            exact go2
  · simp only [if_neg c, q0, qn0, if_true, if_false]
    rfl
theorem gives_b {x m : Hp} (R : RS x m) (E : RE x m) {a b c : Int} (ha : I32 a) (hb : I32 b) (hc : I32 c) : OK (X11_gives a b c x) (fun z => OK (X12_gives a b c m) (fun w => z.1 = w.1 ∧ RE z.2 w.2 ∧ (∀ c j, ¬ (c = 81 ∧ j = 1) → ¬ (82 ≤ c ∧ c ≤ 84) → z.2 c j = x c j) ∧ (∀ c j, ¬ (c = 150 ∧ j = 88) → ¬ (196 ≤ c ∧ c ≤ 198) → w.2 c j = m c j))) := by
  obtain ⟨⟨⟨e30, e33, e39, e311⟩, -⟩, S⟩ := id R
  obtain ⟨⟨b2, b3, b4, b5⟩, -⟩ := id S
  obtain ⟨⟨r1, r1a, r1b⟩, ⟨r2, r3, r4⟩, ⟨g1, g2, g3⟩, q1', q2'⟩ := id E
  obtain ⟨n, en⟩ := Int.eq_ofNat_of_zero_le r1a
  have triv : ∀ v : Int, (v, x).1 = (v, m).1 ∧ RE x m ∧ (∀ c j, ¬ (c = 81 ∧ j = 1) → ¬ (82 ≤ c ∧ c ≤ 84) → x c j = x c j) ∧ (∀ c j, ¬ (c = 150 ∧ j = 88) → ¬ (196 ≤ c ∧ c ≤ 198) → m c j = m c j) := fun _ => ⟨rfl, E, fun _ _ _ _ => rfl, fun _ _ _ _ => rfl⟩
  have main : 0 ≤ a → a < m 150 5 → -1 ≤ b → b < m 150 3 → OK (X11_gives_j13 a b c x) (fun z => OK (X12_gives_j11 a b c m) (fun w => z.1 = w.1 ∧ RE z.2 w.2 ∧ (∀ c j, ¬ (c = 81 ∧ j = 1) → ¬ (82 ≤ c ∧ c ≤ 84) → z.2 c j = x c j) ∧ (∀ c j, ¬ (c = 150 ∧ j = 88) → ¬ (196 ≤ c ∧ c ≤ 198) → w.2 c j = m c j))) := by
    intro a1 a2 a3 a4
    unfold X11_gives_j13 X12_gives_j11
    simp only [isYear_e hc, within_in (a := c) (b := 0) (c := 2000) (by omega) (by omega) hc.1 hc.2 (by omega) (by omega), Option.bind_some]
    by_cases d : 0 ≤ c ∧ c ≤ 2000
    · simp only [if_pos d, q1, if_false]
      unfold X3_give
      simp only [r1, en, w32_id (z := (n : Int)) (by omega) (by omega), show w32 60 = 60 from rfl, I32_w hc]
      have put : n < 60 → (∀ h : Nat, h < n → m 198 h ≤ c) → OK ((X3_give_j18 a b c x).bind fun r3 => if w32 r3.1 = 0 then some (0, r3.2) else some (1, r3.2)) (fun z => OK (X12_gives_j32 a b c m) (fun w => z.1 = w.1 ∧ RE z.2 w.2 ∧ (∀ c j, ¬ (c = 81 ∧ j = 1) → ¬ (82 ≤ c ∧ c ≤ 84) → z.2 c j = x c j) ∧ (∀ c j, ¬ (c = 150 ∧ j = 88) → ¬ (196 ≤ c ∧ c ≤ 198) → w.2 c j = m c j))) := by
        intro hn hs
        unfold X3_give_j18 X12_gives_j32
        have p1 := put_e (a := 82) (n := 60) (v := (n : Int)) (z := a) (h := x) n rfl (by omega) (by omega)
        have p2 := put_e (a := 83) (n := 60) (v := (n : Int)) (z := b) (h := setH x 82 n a) n rfl (by omega) (by omega)
        have p3 := put_e (a := 84) (n := 60) (v := (n : Int)) (z := c) (h := setH (setH x 82 n a) 83 n b) n rfl (by omega) (by omega)
        simp (disch := decide) only [r1, en, p1, p2, p3, OK_bindE, OK_some, setH_o, q1, if_false]
        simp only [if_inb (v := (n : Int)) (n := 60) (by omega) (by omega) (by omega), tn, w32_id (z := (n : Int)) (by omega) (by omega), OK_some]
        refine ⟨by trivial, ?_, fun c j h1 h2 => ?_, fun c j h1 h2 => ?_⟩
        · unfold RE
          simp (disch := decide) only [setH_o, setH_s]
          refine ⟨⟨by trivial, by omega, by omega⟩, ⟨set_eq r2, set_eq r3, set_eq r4⟩, ⟨set_bd g1 a1 (by omega), set_bd g2 a3 (by omega), set_bd g3 d.1 d.2⟩, fun g hg => ?_, fun g h h1 h2 => ?_⟩
          · by_cases e : g = n
            · rw [e, setH_s]
              exact a4
            · rw [setH_n e]
              exact q1' g (by omega)
          · by_cases e : h = n
            · rw [e, setH_s]
              by_cases e2 : g = n
              · rw [e2, setH_s]
                exact Int.le_refl _
              · rw [setH_n e2]
                exact hs g (by omega)
            · rw [setH_n e, setH_n (by omega)]
              exact q2' g h h1 (by omega)
        · rw [setH_f h1, setH_o (by omega), setH_o (by omega), setH_o (by omega)]
        · rw [setH_f h1, setH_o (by omega), setH_o (by omega), setH_o (by omega)]
      by_cases k1 : n = 60
      · rw [if_pos (show (60 : Int) ≤ (n : Int) by omega), if_pos (show (n : Int) = 60 by omega)]
        exact triv 0
      · rw [if_neg (show ¬ (60 : Int) ≤ (n : Int) by omega), if_neg (show ¬ (n : Int) = 60 by omega)]
        by_cases k2 : n = 0
        · rw [if_pos (show (n : Int) ≤ 0 by omega), if_pos (show (n : Int) ≤ 0 by omega)]
          exact put (by omega) (fun h hh => by omega)
        · rw [if_neg (show ¬ (n : Int) ≤ 0 by omega), if_neg (show ¬ (n : Int) ≤ 0 by omega), at_e (n - 1) (by omega) (by omega) (by omega)]
          have g4 := g3 (n - 1)
          simp only [Option.bind_some, r4, w32_id (z := m 198 (n - 1)) (by omega) (by omega), if_inb (v := (n : Int) - 1) (n := 60) (by omega) (by omega) (by omega), wtn (v := (n : Int) - 1) (n - 1) (by omega) (by omega)]
          by_cases k3 : m 198 (n - 1) ≤ c
          · rw [if_pos k3, if_pos k3]
            exact put (by omega) (fun h hh => by have := q2' h (n - 1) (by omega) (by omega); omega)
          · rw [if_neg k3, if_neg k3]
            exact triv 0
    · simp only [if_neg d, q0, if_true]
      exact triv 0
  unfold X11_gives X12_gives
  simp only [x_isB (h := x) (by omega) (by omega), m_isB (h := m) (by omega) (by omega), x_isK (h := x) (by omega) (by omega), m_isK (h := m) (by omega) (by omega), e311, e33, I32_w ha, I32_w hb, w32_n1, Option.bind_some]
  by_cases k1 : 0 ≤ a ∧ a < m 150 5
  · simp only [if_pos k1, q1, if_false]
    by_cases k2 : b = -1
    · rw [if_pos k2, if_pos k2]
      exact main k1.1 k1.2 (by omega) (by omega)
    · rw [if_neg k2, if_neg k2]
      by_cases k3 : 0 ≤ b ∧ b < m 150 3
      · simp only [if_pos k3, q1, if_false]
        exact main k1.1 k1.2 (by omega) k3.2
      · simp only [if_neg k3, q0, if_true]
        exact triv 0
  · simp only [if_neg k1, q0, if_true]
    exact triv 0
