/-! CALLS THAT LOOK: bitIs, nobody, check -/
theorem bitIs_b {x m : Hp} (R : RS x m) {a b : Int} (ha : I32 a) (hb : I32 b) : OK (X11_bitIs a b x) (fun z => OK (X12_bitIs a b m) (fun w => z = w)) := by
  obtain ⟨⟨⟨-, -, -, e311⟩, -, ⟨e12, e13, e14, e15, e16⟩, e17, -⟩, S⟩ := id R
  obtain ⟨⟨-, -, -, b5⟩, -, -, -, ⟨c64, -⟩, ⟨d1, -, -⟩⟩ := id S
  unfold X11_bitIs X12_bitIs
  simp only [x_isB (h := x) (by omega) (by omega), m_isB (h := m) (by omega) (by omega), e311, I32_w ha, I32_w hb, Option.bind_some]
  by_cases c : 0 ≤ a ∧ a < m 150 5
  · simp only [if_pos c, qn1, if_true]
    obtain ⟨i, rfl⟩ := Int.eq_ofNat_of_zero_le c.1
    have c1 := c64 i
    have c2 := (d1 i c.2).1
    have w0 := w32_ge (b - 10)
    have w1 := w32_lt' (b - 10)
    have w2 := w32_mod (b - 10)
    have b1 := hb.1
    have b2 := hb.2
    have j26 : (b < 10 ∨ m 164 i ≤ w32 (b - 10)) → OK (X11_bitIs_j26 (i : Int) b x) (fun z => OK (if b = 0 then if inb (i : Int) 40 then some (m 160 (i : Int).toNat) else none else if b = 1 then if inb (i : Int) 40 then some (m 161 (i : Int).toNat) else none else if b = 2 then if inb (i : Int) 40 then some (m 162 (i : Int).toNat) else none else if b = 3 then if inb (i : Int) 40 then some (m 163 (i : Int).toNat) else none else if b = 4 then if inb (i : Int) 40 then some (m 164 (i : Int).toNat) else none else some (-1)) (fun w => z = w)) := by
      intro _
      unfold X11_bitIs_j26 X7_bitSubject
      simp only [if_inb (v := (i : Int)) (n := 40) (by omega) (by omega) (by omega), tn, I32_w hb, bitWriter_in (h := x) i (by omega) (by omega), bitWork_in (h := x) i (by omega) (by omega), bitBook_in (h := x) i (by omega) (by omega), bitSize_e (h := x) i rfl (by omega), at_e (a := 15) (n := 40) (v := (i : Int)) (h := x) i rfl (by omega) (by omega), Option.bind_some, e12, e13, e14, e15, e16]
      refine OK_if (fun k => ?_) (fun k => OK_if (fun k1 => ?_) (fun k1 => OK_if (fun k2 => ?_) (fun k2 => OK_if (fun k3 => ?_) (fun k3 => OK_if (fun k4 => ?_) (fun k4 => ?_)))))
      · rw [if_pos k]
        rfl
      · rw [if_neg k, if_pos k1]
        rfl
      · rw [if_neg k, if_neg k1, if_pos k2]
        rfl
      · rw [if_neg k, if_neg k1, if_neg k2, if_pos k3]
        rfl
      · rw [if_neg k, if_neg k1, if_neg k2, if_neg k3, if_pos k4]
        rfl
      · rw [if_neg k, if_neg k1, if_neg k2, if_neg k3, if_neg k4]
        rfl
    simp only [if_inb (v := (i : Int)) (n := 40) (by omega) (by omega) (by omega), tn, w32_w32, w32_id (z := m 164 i - 1) (by omega) (by omega), lies_in (a := w32 (b - 10)) (b := 0) (c := m 164 i - 1) (by omega) (by omega) (by omega) (by omega) (by omega) (by omega), Option.bind_some, show w32 10 = 10 from rfl] at j26 ⊢
    by_cases k : 0 ≤ w32 (b - 10) ∧ w32 (b - 10) ≤ m 164 i - 1
    · simp only [if_pos k, q1, if_false]
      obtain ⟨q, hq⟩ := Int.eq_ofNat_of_zero_le (show 0 ≤ b - 10 by omega)
      refine OK_gn (by omega) ?_
      rw [bitSize_e i rfl (by omega), OK_bindE, OK_some, e16]
      refine OK_gn (by rw [w32_id (z := m 164 i) (by omega) (by omega)]; omega) ?_
      rw [bitWord_e (8 * i + q) (by omega) (by omega), OK_bindE, OK_some, OK_some, e17 i q c.2 (by omega)]
      refine OK_gi (by omega) (by omega) (by omega) ?_
      rw [wtn (v := 8 * (i : Int) + b - 10) (8 * i + q) (by omega) (by omega)]
      rfl
    · simp only [if_neg k, q0, if_true]
      refine OK_if (fun h => j26 (Or.inl h)) (fun h => ?_)
      rw [bitSize_e i rfl (by omega), OK_bindE, OK_some, e16, w32_id (z := m 164 i) (by omega) (by omega)]
      exact OK_gd (by omega) (j26 (Or.inr (by omega)))
  · simp only [if_neg c, qn0, if_false]
    rfl
theorem told_b {x m : Hp} (R : RS x m) {k : Int} (hk : I32 k) : OK (X7_toldBooks k x) (fun z => OK (X12_booksTold k m) (fun w => z = w ∧ w64 w = w ∧ ∀ j, 40 ≤ j → j < 64 → tb w j = false)) := by
  obtain ⟨⟨⟨-, -, -, e311⟩, -, ⟨e12, e13, e14, e15, e16⟩, -⟩, S⟩ := id R
  obtain ⟨⟨-, -, -, b5⟩, -, -, ⟨c60, c61, c62, c63⟩, -⟩ := id S
  obtain ⟨n, en⟩ := Int.eq_ofNat_of_zero_le b5.1
  unfold X7_toldBooks X12_booksTold
  simp only [OK_bindE, OK_some]
  refine iter_2 (fun p s t => ∃ u : Int, s = (u, (p : Int)) ∧ t = (u, (p : Int)) ∧ w64 u = u ∧ ∀ j, 40 ≤ j → j < 64 → tb u j = false) _ n (by omega) (fun p s t hp hI => ?_) ⟨0, rfl, rfl, rfl, fun j _ _ => tb_0 j⟩
  obtain ⟨u, rfl, rfl, hu, hj⟩ := hI
  have c1 := c61 p
  have c2 := c62 p
  unfold X7_toldBooks_l4 X12_booksTold_l4 X7_toldBooks_j27 X12_booksTold_j30
  (try dsimp only)
  simp only [e311, en, w32_id (z := (n : Int)) (by omega) (by omega), w32_id (z := (p : Int)) (by omega) (by omega)]
  refine OK_if (fun c => ?_) (fun c => ?_)
  · rw [OK_some, if_pos c, OK_some, LQ2_r]
    exact ⟨rfl, hu, hj⟩
  · rw [if_neg c]
    simp only [bitBook_in (h := x) p (by omega) (by omega), bitWork_in (h := x) p (by omega) (by omega), OK_bindE, OK_some, e13, e14, if_inb (v := (p : Int)) (n := 40) (by omega) (by omega) (by omega), tn, I32_w hk, w32_id (z := m 161 p) (by omega) (by omega), w32_id (z := m 162 p) (by omega) (by omega)]
    refine OK_if (fun d => ?_) (fun d => OK_if (fun e => ?_) (fun e => ?_))
    · rw [OK_some, if_pos d, OK_some, LQ2_l]
      exact ⟨by omega, u, rfl, rfl, hu, hj⟩
    · rw [OK_some, if_neg d, if_pos e, OK_some, LQ2_l]
      exact ⟨by omega, u, rfl, rfl, hu, hj⟩
    · rw [OK_some, if_neg d, if_neg e, OK_some, LQ2_l]
      refine ⟨by omega, _, rfl, rfl, w64_or _ _, fun j h1 h2 => ?_⟩
      obtain ⟨q, hq⟩ := Int.eq_ofNat_of_zero_le (show 0 ≤ m 162 p - 1 by omega)
      rw [tb_or, hj j h1 h2, hq, tb_shl (by omega) h2]
      simp
      omega
theorem nobody_b {x m : Hp} (R : RS x m) {a b : Int} (ha : I32 a) (hb : I32 b) : OK (X11_nobody a b x) (fun z => OK (X12_nobody a b m) (fun w => z = w)) := by
  obtain ⟨⟨⟨-, e33, -, -⟩, -⟩, S⟩ := id R
  obtain ⟨⟨-, b3, -, -⟩, -⟩ := id S
  unfold X11_nobody X12_nobody
  simp only [x_isK (h := x) (by omega) (by omega), m_isK (h := m) (by omega) (by omega), e33, I32_w ha, I32_w hb, within_in (a := b) (b := 1) (c := 40) (by omega) (by omega) hb.1 hb.2 (by omega) (by omega), lies_in (a := b) (b := 1) (c := 40) (by have := hb.1; omega) (by have := hb.2; omega) (by omega) (by omega) (by omega) (by omega), Option.bind_some]
  by_cases c : 0 ≤ a ∧ a < m 150 3
  · by_cases d : 1 ≤ b ∧ b ≤ 40
    · simp only [if_pos c, if_pos d, q1, qn1, if_true, if_false]
      refine OK2_bind (OK2_mono (told_b R ha) (fun z w h => ?_))
      rw [h.1]
      rfl
    · simp only [if_pos c, if_neg d, q0, q1, qn0, if_true, if_false]
      rfl
  · simp only [if_neg c, q0, if_true]
    rfl
theorem num_b {x m : Hp} (h2 : ∀ i, x 2 i = m 151 i % 256) {p : Nat} (hp : p < 50) : OK (X9_numberAt (p : Int) x) (fun z => OK (X12_numberAt (p : Int) m) (fun w => z = w)) := by
  unfold X9_numberAt X12_numberAt
  simp only [OK_bindE, OK_some]
  refine iter_2 (fun q s t => q ≤ 4 ∧ ∃ u : Int, s = (u, (q : Int)) ∧ t = (u, (q : Int))) _ 4 (by omega) (fun q s t hq hI => ?_) ⟨by omega, 0, rfl, rfl⟩
  obtain ⟨hq4, u, rfl, rfl⟩ := hI
  unfold X9_numberAt_l4 X12_numberAt_l4
  (try dsimp only)
  simp only [w32_id (z := (q : Int)) (by omega) (by omega), show w32 4 = 4 from rfl]
  refine OK_if (fun c => ?_) (fun c => ?_)
  · rw [OK_some, if_pos c]
    rfl
  · rw [if_neg c, at_e (4 * p + q) (by omega) (by omega) (by omega), OK_bindE, OK_some, OK_some]
    refine OK_gi (by omega) (by omega) (by omega) ?_
    rw [wtn (v := 4 * (p : Int) + (q : Int)) (4 * p + q) (by omega) (by omega), OK_some, LQ2_l, h2, and255]
    exact ⟨by omega, by omega, _, rfl, rfl⟩
theorem check_b {x m : Hp} (R : RS x m) (T : RT x m) {a b : Int} (ha : I32 a) (hb : I32 b) : OK (X11_check a b x) (fun z => OK (X12_check a b m) (fun w => z.1 = w.1 ∧ RT z.2 w.2 ∧ (∀ c j, ¬ (c = 1 ∧ j = 1) → z.2 c j = x c j) ∧ (∀ c j, ¬ (c = 150 ∧ j = 1) → w.2 c j = m c j))) := by
  obtain ⟨⟨⟨-, -, -, e311⟩, -, ⟨e12, e13, e14, e15, e16⟩, e17, b17⟩, S⟩ := id R
  obtain ⟨⟨-, -, -, b5⟩, -, -, -, ⟨c64, c65⟩, ⟨d1, -, -⟩⟩ := id S
  obtain ⟨⟨t1, t2, t3⟩, t4, t5⟩ := id T
  have triv : ∀ v : Int, (v, x).1 = (v, m).1 ∧ RT x m ∧ (∀ c j, ¬ (c = 1 ∧ j = 1) → x c j = x c j) ∧ (∀ c j, ¬ (c = 150 ∧ j = 1) → m c j = m c j) := fun _ => ⟨rfl, T, fun _ _ _ => rfl, fun _ _ _ => rfl⟩
  unfold X11_check X12_check X9_clear
  rw [div32_nn (by omega) (by omega) (by omega) (by omega)]
  simp only [x_isB (h := x) (by omega) (by omega), m_isB (h := m) (by omega) (by omega), e311, I32_w ha, I32_w hb, holds_eq (v := b) (c := 4) (h := x) (by omega), t1, w32_id (z := m 150 1) (by omega) (by omega), w32_id (z := m 150 1 / 4) (by omega) (by omega), show (w32 4 ≠ 0) = True from eq_true (by decide), Option.bind_some, if_true]
  by_cases c : 0 ≤ a ∧ a < m 150 5
  · simp only [if_pos c, q1, if_false]
    by_cases d : 0 ≤ b ∧ b * 4 ≤ m 150 1
    · rw [if_pos d]
      refine OK_gd (by decide) ?_
      rw [if_neg (show ¬ b < 0 by omega), if_pos (show b ≤ m 150 1 / 4 by omega)]
      obtain ⟨i, rfl⟩ := Int.eq_ofNat_of_zero_le c.1
      obtain ⟨n, rfl⟩ := Int.eq_ofNat_of_zero_le d.1
      have c1 := c64 i
      obtain ⟨s, es⟩ := Int.eq_ofNat_of_zero_le c1.1
      have hd := (d1 i c.2).1
      have L : OK (iter (X11_firstNotSo_l7 (i : Int) (n : Int) (s : Int) x) FU 0) (fun z => OK (iter (X12_check_l19 (i : Int) (n : Int)) FU (0, setH m 150 1 0)) (fun w => (z = Sum.inr () ∧ w = Sum.inl (setH m 150 1 0) ∧ n < s) ∨ (z = Sum.inr () ∧ w = Sum.inr (Sum.inr (setH m 150 1 0)) ∧ n = s) ∨ (∃ p : Nat, z = Sum.inl (p : Int) ∧ (w = Sum.inr (Sum.inl ((p : Int), setH m 150 1 0)) ∨ (w = Sum.inr (Sum.inr (setH m 150 1 0)) ∧ p = s ∧ s < n))))) := by
        refine iter_2 (fun p q t => p ≤ n ∧ p ≤ s ∧ q = (p : Int) ∧ t = ((p : Int), setH m 150 1 0)) _ n (by omega) (fun p q t hp hI => ?_) ⟨by omega, by omega, rfl, rfl⟩
        obtain ⟨hpn, hps, rfl, rfl⟩ := hI
        have ck := c65 (8 * i + p)
        unfold X11_firstNotSo_l7 X12_check_l19
        (try dsimp only)
        simp only [if_inb (v := (i : Int)) (n := 40) (by omega) (by omega) (by omega), wtn (v := (i : Int)) i rfl (by omega), setH_o (h := m) (a := 150) (j := 1) (z := 0) (b := 164) (by decide), setH_o (h := m) (a := 150) (j := 1) (z := 0) (b := 165) (by decide), es, w32_id (z := (n : Int)) (by omega) (by omega), w32_id (z := (p : Int)) (by omega) (by omega), w32_id (z := (s : Int)) (by omega) (by omega)]
        by_cases k1 : p = s
        · by_cases k2 : p = n
          · refine OK_gd (by omega) ?_
            rw [OK_some]
            refine OK_gd (by omega) ?_
            rw [OK_some, LQ2_r]
            exact Or.inr (Or.inl ⟨rfl, rfl, by omega⟩)
          · refine OK_gn (by omega) (OK_gd (by omega) ?_)
            rw [OK_some]
            refine OK_gd (by omega) ?_
            rw [OK_some, LQ2_r]
            exact Or.inr (Or.inr ⟨p, rfl, Or.inr ⟨rfl, k1, by omega⟩⟩)
        · by_cases k2 : p = n
          · refine OK_gd (by omega) ?_
            rw [OK_some]
            refine OK_gn (by omega) ?_
            refine OK_gn (by omega) ?_
            rw [OK_some, LQ2_r]
            exact Or.inl ⟨rfl, rfl, by omega⟩
          · refine OK_gn (by omega) (OK_gn (by omega) ?_)
            simp only [if_neg (show ¬ (s : Int) ≤ (p : Int) by omega), if_pos (show (p : Int) ≠ (n : Int) by omega)]
            refine OK2_bind (OK2_mono (num_b (x := x) (m := setH m 150 1 0) (fun j => by rw [setH_o (by decide)]; exact (t5 j).1) (by omega)) (fun z w h => ?_))
            subst h
            rw [bitWord_e (8 * i + p) (by omega) (by omega), OK_bindE, OK_some, e17 i p c.2 (by omega)]
            simp only [if_inb (v := 8 * (i : Int) + (p : Int)) (n := 320) (by omega) (by omega) (by omega), wtn (v := 8 * (i : Int) + (p : Int)) (8 * i + p) (by omega) (by omega)]
            refine OK_if (fun k3 => ?_) (fun k3 => ?_)
            · rw [OK_some, if_pos k3, OK_some, LQ2_l]
              exact ⟨by omega, by omega, by omega, rfl, rfl⟩
            · rw [OK_some, if_neg k3, OK_some, LQ2_r]
              exact Or.inr (Or.inr ⟨p, rfl, Or.inl rfl⟩)
      unfold X11_firstNotSo
      rw [bitSize_e i rfl (by omega), e16, es]
      simp only [Option.bind_some]
      have fr : RT (setH x 1 1 0) (setH m 150 1 0) ∧ (∀ c j, ¬ (c = 1 ∧ j = 1) → setH x 1 1 0 c j = x c j) ∧ (∀ c j, ¬ (c = 150 ∧ j = 1) → setH m 150 1 0 c j = m c j) := by
        refine ⟨⟨⟨by rw [setH_s, setH_s], by rw [setH_s]; omega, by rw [setH_s]; omega⟩, ?_, ?_⟩, fun c j h => setH_f h, fun c j h => setH_f h⟩
        · rw [setH_o (by decide), setH_n (by decide)]
          exact t4
        · intro j
          rw [setH_o (by decide), setH_o (by decide)]
          exact t5 j
      rw [OK_bindE, OK_bindE]
      refine OK_mono L (fun z hz => ?_)
      cases z with
      | inl y =>
        dsimp only
        rw [OK_some, OK_some, OK_bindE]
        refine OK_mono hz (fun w hw => ?_)
        rcases hw with ⟨h, -⟩ | ⟨h, -⟩ | ⟨p, h, h2⟩
        · cases h
        · cases h
        · cases h
          rcases h2 with rfl | ⟨rfl, h3, h4⟩
          · exact ⟨rfl, fr⟩
          · dsimp only
            simp only [if_inb (v := (i : Int)) (n := 40) (by omega) (by omega) (by omega), tn, setH_o (h := m) (a := 150) (j := 1) (z := 0) (b := 164) (by decide), es, w32_id (z := (n : Int)) (by omega) (by omega), w32_id (z := (s : Int)) (by omega) (by omega)]
            refine OK_gd (by omega) ?_
            exact ⟨by show (p : Int) = (s : Int); omega, fr⟩
      | inr y =>
        dsimp only
        rw [w32_id (z := (s : Int)) (by omega) (by omega), w32_id (z := (n : Int)) (by omega) (by omega)]
        have hz2 := hz
        by_cases k : (s : Int) ≤ (n : Int)
        · rw [if_pos k, OK_some, OK_some, OK_bindE]
          refine OK_mono hz (fun w hw => ?_)
          rcases hw with ⟨-, -, h⟩ | ⟨-, rfl, h⟩ | ⟨p, h, -⟩
          · omega
          · dsimp only
            simp only [if_inb (v := (i : Int)) (n := 40) (by omega) (by omega) (by omega), tn, setH_o (h := m) (a := 150) (j := 1) (z := 0) (b := 164) (by decide), es, w32_id (z := (s : Int)) (by omega) (by omega), w32_id (z := (n : Int)) (by omega) (by omega)]
            refine OK_gn (by omega) ?_
            exact ⟨rfl, fr⟩
          · cases h
        · rw [if_neg k, OK_some, OK_some, OK_bindE]
          refine OK_mono hz (fun w hw => ?_)
          rcases hw with ⟨-, rfl, h⟩ | ⟨-, -, h⟩ | ⟨p, h, -⟩
          · exact ⟨rfl, fr⟩
          · omega
          · cases h
    · rw [if_neg d]
      refine OK_gn (by decide) ?_
      by_cases k : b < 0
      · rw [if_pos k]
        exact triv (-2)
      · rw [if_neg k, if_neg (show ¬ b ≤ m 150 1 / 4 by omega)]
        exact triv (-2)
  · simp only [if_neg c, q0, if_true]
    exact triv (-2)
