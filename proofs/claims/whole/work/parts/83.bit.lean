/-! BIT: what is kept of one -/
theorem tbw_s {h : Hp} {n s : Nat} (hn : n < 40) (hs : s ≤ 8) : OK (iter (X7_tellBitWords_l12 (n : Int) (s : Int)) FU (0, h)) (fun h' => (∀ p : Nat, p < s → h' 17 (8 * n + p) = h 85 p) ∧ (∀ c, c ≠ 17 → h' c = h c) ∧ (∀ j, (j < 8 * n ∨ 8 * n + s ≤ j) → h' 17 j = h 17 j)) := by
  refine iter_up (fun p t => ∃ h', t = ((p : Int), h') ∧ (∀ q : Nat, q < p → h' 17 (8 * n + q) = h 85 q) ∧ (∀ c, c ≠ 17 → h' c = h c) ∧ (∀ j, (j < 8 * n ∨ 8 * n + p ≤ j) → h' 17 j = h 17 j)) _ s (by omega) (fun p t hp hI => ?_) ⟨h, rfl, fun q hq => by omega, fun _ _ => rfl, fun _ _ => rfl⟩
  obtain ⟨h', rfl, w1, w2, w3⟩ := hI
  unfold X7_tellBitWords_l12
  (try dsimp only)
  rw [w32_id (z := (s : Int)) (by omega) (by omega), w32_id (z := (p : Int)) (by omega) (by omega)]
  refine OK_if (fun c => ?_) (fun c => ?_)
  · rw [OK_some, LQ_r]
    have : p = s := by omega
    subst this
    exact ⟨w1, w2, w3⟩
  · refine OK_gn (by rw [show w32 8 = 8 from rfl]; omega) ?_
    rw [at_e p rfl (by omega) (by omega), OK_bindE, OK_some, put_e (8 * n + p) (by omega) (by omega) (by omega), OK_bindE, OK_some, OK_some, LQ_l]
    refine ⟨by omega, _, rfl, fun q hq => ?_, fun c hc => ?_, fun j hj => ?_⟩
    · by_cases e : q = p
      · subst e
        rw [setH_s, w2 85 (by decide)]
      · rw [setH_n (by omega)]
        exact w1 q (by omega)
    · rw [setH_o hc]
      exact w2 c hc
    · rw [setH_n (by omega)]
      exact w3 j (by omega)
theorem keep_b {x m : Hp} (R : RS x m) {n s : Nat} (en : m 150 5 = (n : Int)) (hn : n < 40) (hs : 1 ≤ s ∧ s ≤ 8) (hk : x 0 14 = (s : Int)) {wr wk bk sj : Int} (h1 : 0 ≤ wr ∧ wr < m 150 4) (h2 : -1 ≤ wk ∧ wk < m 150 3) (h3 : 0 ≤ bk ∧ bk ≤ 40) (h4 : 0 ≤ sj ∧ sj ≤ 9) (hw : ∀ p : Nat, p < s → x 85 p = m 165 (8 * n + p)) : OK (X11_keepBit wr wk bk sj x) (fun z => OK (X12_comes wr wk bk sj (s : Int) m) (fun w => z.1 = (n : Int) ∧ w 150 5 = (n : Int) + 1 ∧ RS z.2 w ∧ z.2 66 16 = -1 ∧ (∀ c j, c ≠ 3 → ¬ (12 ≤ c ∧ c ≤ 17) → ¬ (c = 66 ∧ j = 16) → z.2 c j = x c j) ∧ (∀ c j, ¬ (c = 150 ∧ j = 5) → ¬ (160 ≤ c ∧ c ≤ 164 ∧ j = n) → w c j = m c j))) := by
  obtain ⟨⟨⟨e30, e33, e39, e311⟩, ⟨e4, e5, e6, e7, e8, e9, e10, e11⟩, ⟨e12, e13, e14, e15, e16⟩, e17, b17⟩, S⟩ := id R
  obtain ⟨⟨b2, b3, b4, b5⟩, cA, cC, ⟨c60, c61, c62, c63⟩, ⟨c64, c65⟩, ⟨d1, d2, d3⟩⟩ := id S
  unfold X11_keepBit X5_forget X7_addBit
  rw [OK_bindE, OK_some, setH_o (by decide), e311, en, w32_id (z := (n : Int)) (by omega) (by omega), if_pos (by rw [show w32 40 = 40 from rfl]; omega)]
  have p1 := put_e (a := 12) (n := 40) (v := (n : Int)) (z := wr) (h := setH x 66 16 (-1)) n rfl (by omega) (by omega)
  have p2 := put_e (a := 13) (n := 40) (v := (n : Int)) (z := wk) (h := setH (setH x 66 16 (-1)) 12 n wr) n rfl (by omega) (by omega)
  have p3 := put_e (a := 14) (n := 40) (v := (n : Int)) (z := bk) (h := setH (setH (setH x 66 16 (-1)) 12 n wr) 13 n wk) n rfl (by omega) (by omega)
  have p4 := put_e (a := 15) (n := 40) (v := (n : Int)) (z := sj) (h := setH (setH (setH (setH x 66 16 (-1)) 12 n wr) 13 n wk) 14 n bk) n rfl (by omega) (by omega)
  simp (disch := decide) only [p1, p2, p3, p4, OK_bindE, OK_some, setH_o, setH_s, e311, en, hk]
  unfold X7_tellBitWords
  rw [show (n : Int) + 1 - 1 = (n : Int) by omega]
  simp only [x_isB (v := (n : Int)) (h := setH (setH (setH (setH (setH (setH x 66 16 (-1)) 12 n wr) 13 n wk) 14 n bk) 15 n sj) 3 11 ((n : Int) + 1)) (by rw [setH_s]; omega) (by rw [setH_s]; omega), setH_s, w32_id (z := (n : Int)) (by omega) (by omega), if_pos (show 0 ≤ (n : Int) ∧ (n : Int) < (n : Int) + 1 by omega), q0, q1, qn0, qn1, i10, i00, in10, in00, if_true, if_false, OK_bindE, OK_some, Option.bind_some, put_e (a := 16) (n := 40) (v := (n : Int)) (z := (s : Int)) (h := setH (setH (setH (setH (setH (setH x 66 16 (-1)) 12 n wr) 13 n wk) 14 n bk) 15 n sj) 3 11 ((n : Int) + 1)) n rfl (by omega) (by omega)]
  refine OK_mono (tbw_s hn hs.2) (fun h' hh => ?_)
  obtain ⟨w1, w2, w3⟩ := hh
  unfold X12_comes
  simp only [en, if_inb (v := (n : Int)) (n := 40) (by omega) (by omega) (by omega), w32_id (z := (n : Int)) (by omega) (by omega), tn, OK_some]
  simp (disch := decide) only [setH_o] at w1 w3
  have v3 : ∀ j, h' 3 j = if j = 11 then (n : Int) + 1 else x 3 j := fun j => by
    rw [w2 3 (by decide)]
    simp (disch := decide) only [setH_o]
    by_cases e : j = 11
    · rw [if_pos e, e, setH_s]
    · rw [if_neg e, setH_n e]
      simp (disch := decide) only [setH_o]
  have vv : ∀ c, c ≠ 3 → ¬ (12 ≤ c ∧ c ≤ 17) → c ≠ 66 → h' c = x c := fun c q1 q2 q3 => by
    rw [w2 c (by omega), setH_o (by omega), setH_o (by omega), setH_o (by omega), setH_o (by omega), setH_o (by omega), setH_o (by omega), setH_o (by omega)]
  have v66 : ∀ j, h' 66 j = if j = 16 then -1 else x 66 j := fun j => by
    rw [w2 66 (by decide)]
    simp (disch := decide) only [setH_o]
    by_cases e : j = 16
    · rw [if_pos e, e, setH_s]
    · rw [if_neg e, setH_n e]
  have u12 : h' 12 = setH x 12 n wr 12 := by
    rw [w2 12 (by decide)]
    simp (disch := decide) only [setH_o]
    exact set_eq (setH_o (by decide))
  have u13 : h' 13 = setH x 13 n wk 13 := by
    rw [w2 13 (by decide)]
    simp (disch := decide) only [setH_o]
    exact set_eq (by simp (disch := decide) only [setH_o])
  have u14 : h' 14 = setH x 14 n bk 14 := by
    rw [w2 14 (by decide)]
    simp (disch := decide) only [setH_o]
    exact set_eq (by simp (disch := decide) only [setH_o])
  have u15 : h' 15 = setH x 15 n sj 15 := by
    rw [w2 15 (by decide)]
    simp (disch := decide) only [setH_o]
    exact set_eq (by simp (disch := decide) only [setH_o])
  have u16 : h' 16 = setH x 16 n (s : Int) 16 := by
    rw [w2 16 (by decide)]
    exact set_eq (by simp (disch := decide) only [setH_o])
  refine ⟨by trivial, setH_s, ?_, by rw [v66, if_pos rfl], fun c j q1 q2 q3 => ?_, fun c j q1 q2 => ?_⟩
  · unfold RS SB
    rw [v3 0, v3 3, v3 9, v3 11, if_neg (by decide), if_neg (by decide), if_neg (by decide), if_pos rfl, vv 4 (by decide) (by decide) (by decide), vv 5 (by decide) (by decide) (by decide), vv 6 (by decide) (by decide) (by decide), vv 7 (by decide) (by decide) (by decide), vv 8 (by decide) (by decide) (by decide), vv 9 (by decide) (by decide) (by decide), vv 10 (by decide) (by decide) (by decide), vv 11 (by decide) (by decide) (by decide), u12, u13, u14, u15, u16]
    simp (disch := decide) only [setH_o, setH_s, setH_n]
    refine ⟨⟨⟨e30, e33, e39, by trivial⟩, ⟨e4, e5, e6, e7, e8, e9, e10, e11⟩, ⟨set_eq e12, set_eq e13, set_eq e14, set_eq e15, set_eq e16⟩, ?_, ?_⟩, ⟨b2, b3, b4, by omega⟩, cA, cC, ⟨set_bd c60 h1.1 (by omega), set_bd c61 h2.1 (by omega), set_bd c62 h3.1 h3.2, set_bd c63 h4.1 h4.2⟩, ⟨set_bd c64 (by omega) (by omega), c65⟩, ?_, d2, d3⟩
    · intro i p hi hp
      by_cases e : i = n
      · subst e
        rw [setH_s] at hp
        rw [w1 p (by omega)]
        exact hw p (by omega)
      · rw [setH_n e] at hp
        simp (disch := decide) only [setH_o] at hp
        have := c64 i
        rw [w3 _ (by omega)]
        exact e17 i p (by omega) hp
    · intro j
      by_cases e : j < 8 * n ∨ 8 * n + s ≤ j
      · rw [w3 j e]
        exact b17 j
      · obtain ⟨p, rfl⟩ : ∃ p, j = 8 * n + p := ⟨j - 8 * n, by omega⟩
        rw [w1 p (by omega), hw p (by omega)]
        exact c65 _
    · intro i hi
      by_cases e : i = n
      · subst e
        rw [setH_s, setH_s, setH_s]
        omega
      · rw [setH_n e, setH_n e, setH_n e]
        exact d1 i (by omega)
  · by_cases e : c = 66
    · subst e
      rw [v66, if_neg (by omega)]
    · rw [vv c q1 q2 e]
  · rw [setH_f q1, setH_f (by omega), setH_f (by omega), setH_f (by omega), setH_f (by omega), setH_f (by omega)]
/-- WORDS from the tape into cell 85, and into the model's next BIT -/
theorem take_b {x m : Hp} (T : RT x m) {b s : Nat} (eb : m 150 5 = (b : Int)) (hb : b < 40) (hs : s ≤ 8) (ht : (s : Int) ≤ m 150 1) (c65 : ∀ i, 0 ≤ m 165 i ∧ m 165 i ≤ 63) (v1 v2 v3 v4 : Int) : OK (X11_takeWords (s : Int) x) (fun z => OK (iter (X12_bit_l44 v1 v2 v3 v4 (s : Int)) FU (0, setH m 150 1 0)) (fun w => ((∃ y, w = Sum.inl y ∧ z.1 = 0 ∧ (∀ j, 0 ≤ y 165 j ∧ y 165 j ≤ 63) ∧ (∀ c j, ¬ (c = 150 ∧ j = 1) → ¬ (c = 165 ∧ 8 * b ≤ j) → y c j = m c j) ∧ y 150 1 = 0) ∨ (∃ y, w = Sum.inr y ∧ z.1 = 1 ∧ z.2 0 14 = (s : Int) ∧ (∀ p : Nat, p < s → z.2 85 p = y 165 (8 * b + p)) ∧ (∀ j, 0 ≤ y 165 j ∧ y 165 j ≤ 63) ∧ (∀ c j, ¬ (c = 150 ∧ j = 1) → ¬ (c = 165 ∧ 8 * b ≤ j) → y c j = m c j) ∧ y 150 1 = 0)) ∧ (∀ c j, ¬ (c = 0 ∧ j = 14) → c ≠ 85 → z.2 c j = x c j))) := by
  obtain ⟨⟨t1, t2, t3⟩, t4, t5⟩ := id T
  have L : OK (iter (X11_takeWords_l5 (s : Int)) FU (0, setH x 0 14 0)) (fun z => OK (iter (X12_bit_l44 v1 v2 v3 v4 (s : Int)) FU (0, setH m 150 1 0)) (fun w => (∃ y u, w = Sum.inl y ∧ z = Sum.inl u ∧ (∀ c j, ¬ (c = 0 ∧ j = 14) → c ≠ 85 → u c j = x c j) ∧ (∀ j, 0 ≤ y 165 j ∧ y 165 j ≤ 63) ∧ (∀ c j, ¬ (c = 150 ∧ j = 1) → ¬ (c = 165 ∧ 8 * b ≤ j) → y c j = m c j) ∧ y 150 1 = 0) ∨ (∃ y u, w = Sum.inr y ∧ z = Sum.inr u ∧ u 0 14 = (s : Int) ∧ (∀ p : Nat, p < s → u 85 p = y 165 (8 * b + p)) ∧ (∀ c j, ¬ (c = 0 ∧ j = 14) → c ≠ 85 → u c j = x c j) ∧ (∀ j, 0 ≤ y 165 j ∧ y 165 j ≤ 63) ∧ (∀ c j, ¬ (c = 150 ∧ j = 1) → ¬ (c = 165 ∧ 8 * b ≤ j) → y c j = m c j) ∧ y 150 1 = 0))) := by
    refine iter_2 (fun p q t => p ≤ s ∧ ∃ (hx hm : Hp), q = ((p : Int), hx) ∧ t = ((p : Int), hm) ∧ hx 0 14 = (p : Int) ∧ (∀ q : Nat, q < p → hx 85 q = hm 165 (8 * b + q)) ∧ (∀ c j, ¬ (c = 0 ∧ j = 14) → c ≠ 85 → hx c j = x c j) ∧ (∀ j, 0 ≤ hm 165 j ∧ hm 165 j ≤ 63) ∧ (∀ c j, ¬ (c = 150 ∧ j = 1) → ¬ (c = 165 ∧ 8 * b ≤ j) → hm c j = m c j) ∧ hm 150 1 = 0) _ s (by omega) (fun p q t hp hI => ?_) ⟨by omega, _, _, rfl, rfl, setH_s, fun q hq => by omega, fun c j h1 _ => setH_f h1, by rw [setH_o (by decide)]; exact c65, fun c j h1 _ => setH_f h1, setH_s⟩
    obtain ⟨hps, hx, hm, rfl, rfl, w1, w2, fx, wb, fm, w3⟩ := hI
    unfold X11_takeWords_l5 X12_bit_l44
    (try dsimp only)
    simp only [w32_id (z := (s : Int)) (by omega) (by omega), w32_id (z := (p : Int)) (by omega) (by omega)]
    refine OK_if (fun c => ?_) (fun c => ?_)
    · rw [OK_some, if_pos c, OK_some, LQ2_r]
      have : p = s := by omega
      subst this
      exact Or.inr ⟨hm, hx, rfl, rfl, w1, w2, fx, wb, fm, w3⟩
    · have x1 : hx 1 1 = m 150 1 := by rw [fx 1 1 (by omega) (by decide)]; exact t1
      have x2 : hx 2 = x 2 := funext fun j => fx 2 j (by omega) (by decide)
      have m151 : hm 151 = m 151 := funext fun j => fm 151 j (by omega) (by omega)
      have m5 : hm 150 5 = (b : Int) := by rw [fm 150 5 (by omega) (by omega)]; exact eb
      have g1 := t5 p
      refine OK_gn (by rw [show w32 8 = 8 from rfl]; omega) ?_
      rw [if_neg c, byteAt_in p rfl (by omega) (by omega), OK_bindE, OK_some, x2]
      simp (disch := omega) only [↓if_inb, t8, tn, m151, m5, w32_id, within_in, lies_in, OK_bindE, OK_some, Option.bind_some]
      by_cases cw : 0 ≤ m 151 p ∧ m 151 p ≤ 63
      · have cx : 0 ≤ x 2 p ∧ x 2 p ≤ 63 := by omega
        have ew : x 2 p = m 151 p := by omega
        simp only [if_pos cw, if_pos cx, q0, q1, qn0, qn1, i10, i00, in10, in00, if_true, if_false, OK_bindE, OK_some, Option.bind_some, ew, LQ2_l]
        refine ⟨by omega, by omega, _, _, rfl, rfl, ?_, fun q hq => ?_, fun c j h1 h2 => ?_, set_bd wb cw.1 cw.2, fun c j h1 h2 => ?_, ?_⟩
        · rw [setH_s]
          rfl
        · rw [setH_o (by decide)]
          by_cases e : q = p
          · subst e
            rw [setH_s, setH_s]
          · rw [setH_n e, setH_n (by omega)]
            exact w2 q (by omega)
        · rw [setH_f h1, setH_o h2]
          exact fx c j h1 h2
        · rw [setH_f (by omega)]
          exact fm c j h1 h2
        · rw [setH_o (by decide)]
          exact w3
      · have cx : ¬ (0 ≤ x 2 p ∧ x 2 p ≤ 63) := by omega
        simp only [if_neg cw, if_neg cx, q0, q1, qn0, qn1, i10, i00, in10, in00, if_true, if_false, OK_bindE, OK_some, Option.bind_some, LQ2_r]
        exact Or.inl ⟨hm, hx, rfl, rfl, fx, wb, fm, w3⟩
  unfold X11_takeWords
  rw [OK_bindE]
  refine OK_mono L (fun z hz => ?_)
  cases z with
  | inl u =>
    refine OK_some ▸ (OK_mono hz (fun w hw => ?_))
    rcases hw with ⟨y, u', rfl, e, a1, a2, a3, a4⟩ | ⟨y, u', rfl, e, -⟩
    · cases e
      exact ⟨Or.inl ⟨y, rfl, rfl, a2, a3, a4⟩, a1⟩
    · cases e
  | inr u =>
    refine OK_some ▸ (OK_mono hz (fun w hw => ?_))
    rcases hw with ⟨y, u', rfl, e, -⟩ | ⟨y, u', rfl, e, a1, a2, a3, a4, a5, a6⟩
    · cases e
    · cases e
      exact ⟨Or.inr ⟨y, rfl, rfl, a1, a2, a4, a5, a6⟩, a3⟩
