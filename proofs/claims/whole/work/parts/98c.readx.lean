theorem loop_f {w : Nat} {sub : Hp → Option Hp} {h : Hp} (hf : w32 (h 18 4) ≠ 0) : OK (iter (glp w sub) FU (0, h)) (fun h' => h' = h) := by
  refine iter_up (fun b s => b = 0 ∧ s = (0, h)) _ 0 (by omega) (fun b s hb hI => ?_) ⟨rfl, rfl⟩
  obtain ⟨-, rfl⟩ := hI
  unfold glp
  dsimp only
  refine OK_gn (by decide) ?_
  rw [nextIsOf_f hf, OK_bindE, OK_some]
  exact OK_gd (by decide) rfl
theorem opens_s {h : Hp} {n p a d : Nat} {B : Nat → Int} (P : PX h n B p a) (hp : p < n) (hd : d ≤ 7) : OK (X6_opens (d : Int) h) (fun z => F1 h z.2 ∧ if 6 < d then (z.1 = 0 ∧ z.2 18 4 = -5000 - (p : Int) ∧ -100000 ≤ -5000 - (p : Int) ∧ -5000 - (p : Int) < 0) else (z.1 = 1 ∧ PX z.2 n B (p + 1) a ∧ ∀ j, z.2 23 j = h 23 j ∧ z.2 24 j = h 24 j)) := by
  unfold X6_opens
  rw [w32_id (z := (d : Int)) (by omega) (by omega), show w32 6 = 6 from rfl]
  by_cases c : 6 < d
  · refine OK_gn (by omega) ?_
    rw [OK_bindE]
    refine OK_mono (blame_s P (k := 5) (by omega)) (fun y hy => ?_)
    rw [OK_some, if_pos c]
    have := P.2.1
    exact ⟨hy.1, rfl, hy.2.1, by omega, by omega⟩
  · refine OK_gd (by omega) ?_
    rw [OK_some, if_neg c]
    exact ⟨F1_up, rfl, PX_up P hp, fun j => by dsimp only; rw [setH_o (by decide), setH_o (by decide)]; exact ⟨rfl, rfl⟩⟩
theorem factor_x {n nd ndS p a d : Nat} {B : Nat → Int} {h : Hp} {rec : Nat → Int → Hp → Option Hp} {sum : Nat → Nat → PR} (hd : d ≤ 6) (hrec : d + 1 ≤ 6 → ∀ (p a : Nat) (h : Hp), PX h n B p a → a + 1 ≤ p → OK (rec 2 ((d : Int) + 1) h) (RX n B ndS p a h (sum (d + 1) p))) (h1 : 1 ≤ nd) (h2 : d + 1 ≤ 6 → ndS ≤ nd) (P : PX h n B p a) (ha : a + 1 ≤ p) : OK (X6_readFactor rec (d : Int) h) (RX n B nd p a h (pF B sum d p)) := by
  have b := PX_B P p
  have hf := P.1.2.2.1
  have hpn := P.2.1
  unfold X6_readFactor pF
  rw [hf]
  refine OK_gd rfl ?_
  rw [next_s P, OK_bindE, OK_some]
  by_cases c : B p = 91
  · have hp : p < n := by
      by_cases q : p < n
      · exact q
      · have := b.2.2 (by omega)
        omega
    rw [if_pos hp, c, if_pos rfl]
    refine OK_gn (fun q => q rfl) ?_
    rw [OK_bindE, show (d : Int) + 1 = ((d + 1 : Nat) : Int) from rfl]
    refine OK_mono (opens_s P hp (by omega)) (fun z hz => ?_)
    obtain ⟨z1, z2⟩ := hz
    by_cases k : 6 < d + 1
    · rw [if_pos k] at z2 ⊢
      rw [z2.1]
      refine OK_gd (by decide) ?_
      exact ⟨z1, z2.2.1, z2.2.2.1, z2.2.2.2⟩
    · rw [if_neg k] at z2 ⊢
      obtain ⟨z3, z4, z5⟩ := z2
      rw [z3]
      refine OK_gn (by decide) ?_
      rw [OK_bindE]
      refine OK_mono (hrec (by omega) (p + 1) a z.2 z4 (by omega)) (fun g hg => ?_)
      obtain ⟨g1, g2⟩ := hg
      cases er : sum (d + 1) (p + 1) with
      | inl f =>
        rw [er] at g2
        dsimp only
        obtain ⟨g3, g4, g5⟩ := g2
        rw [expect_f (flt_ne g3 g4 g5), OK_bindE, OK_some, OK_some]
        exact ⟨F1_tr z1 g1, g3, g4, g5⟩
      | inr y =>
        obtain ⟨q, v⟩ := y
        rw [er] at g2
        dsimp only
        obtain ⟨g3, b', g4, g5, g6, g7⟩ := g2
        rw [OK_bindE]
        refine OK_mono (expect_s g5 (c := 93) (by omega)) (fun y hy => ?_)
        obtain ⟨y1, y2⟩ := hy
        rw [OK_some]
        by_cases e : B q = 93
        · rw [if_pos e] at y2 ⊢
          obtain ⟨y3, y4, y5⟩ := y2
          refine ⟨F1_tr (F1_tr z1 g1) y1, by omega, b', by omega, y4, fun j hj => ?_, XS_mono (h2 (by omega)) (XS_cg (fun p _ _ => y5 p) g7)⟩
          exact ⟨(y5 j).1.trans ((g6 j hj).1.trans (z5 j).1), (y5 j).2.trans ((g6 j hj).2.trans (z5 j).2)⟩
        · rw [if_neg e] at y2 ⊢
          exact ⟨F1_tr (F1_tr z1 g1) y1, y2.1, y2.2.1, y2.2.2⟩
  · rw [if_neg c]
    have hnb : w32 (if p < n then B p else -1) ≠ w32 91 := by
      rw [show w32 91 = 91 from rfl]
      split
      · rw [w32_id (by omega) (by omega)]
        exact c
      · decide
    refine OK_gd hnb ?_
    by_cases k : 48 ≤ B p ∧ B p ≤ 57
    · have hp : p < n := by
        by_cases q : p < n
        · exact q
        · have := b.2.2 (by omega)
          omega
      rw [if_pos hp, within_in (by omega) (by omega) (by omega) (by omega) (by omega) (by omega), if_pos k, OK_bindE, OK_some, if_pos k]
      refine OK_gn (by decide) ?_
      rw [OK_bindE]
      refine OK_mono (num_x P k) (fun y hy => ?_)
      rw [OK_some]
      obtain ⟨y1, y2⟩ := hy
      refine ⟨y1, ?_⟩
      cases er : pN B 7 p 0 0 with
      | inl f =>
        rw [er] at y2
        exact y2
      | inr z =>
        rw [er] at y2
        obtain ⟨y3, b', y4, y5, y6, y7⟩ := y2
        exact ⟨y3, b', y4, y5, y6, XS_mono h1 y7⟩
    · have hw : OK (X11_within (if p < n then B p else -1) 48 57) (fun r => r = 0) := by
        rw [within_in (by omega) (by omega) (by split <;> omega) (by split <;> omega) (by omega) (by omega), OK_some]
        rw [if_neg (by split <;> omega)]
      obtain ⟨r, er, e0⟩ := OK_ex hw
      rw [er, e0, OK_bindE, OK_some, if_neg k]
      refine OK_gd (by decide) ?_
      rw [nextIsOf_s P (by omega), OK_bindE, OK_some]
      by_cases l : inSg 1 (B p) = true
      · have hp := sg_lt P (by omega) l
        rw [if_pos l, if_pos l, if_pos hp]
        refine OK_gn (by decide) ?_
        obtain ⟨cv, hcv⟩ := Int.eq_ofNat_of_zero_le b.1
        rw [hcv] at l ⊢
        have lt := sg_1 ⟨cv, by omega⟩ l
        dsimp only at lt
        have lt2 := lt.1
        unfold isLt at lt2
        -- the step is written ahead of the place's going on
        have P1 : PX (setH h 18 3 (h 18 3 + 1)) n B (p + 1) a := PX_up P hp
        obtain ⟨⟨p1, p2, p3, p4⟩, ⟨q1, q2, q3, q4, q5⟩, hb, hB, hc⟩ := P
        unfold X10_add
        rw [p4, put_e a rfl (by omega) (by omega), OK_bindE, OK_bindE, OK_some, setH_o (by decide), p4, put_e a rfl (by omega) (by omega), OK_bindE, OK_some, OK_some, OK_some]
        simp (disch := decide) only [setH_o, p4, p2]
        refine ⟨fun c j h1 h2 h3 h4 => ?_, by omega, a + 1, by omega, ⟨⟨?_, ?_, ?_, ?_⟩, ⟨by omega, by omega, q3, ?_, ?_⟩, ?_, ?_, ?_⟩, fun j hj => ?_, ?_⟩
        · rw [setH_f (by omega), setH_f (by omega), setH_o h4, setH_o h3]
        · simp (disch := decide) only [setH_o, setH_s, setH_n]
          exact p1
        · rw [setH_s]
          rfl
        · simp (disch := decide) only [setH_o, setH_s, setH_n]
          exact p3
        · rw [setH_o (by decide), setH_s]
          rfl
        · simp (disch := decide) only [setH_o]
          exact q4
        · simp (disch := decide) only [setH_o]
          exact q5
        · simp (disch := decide) only [setH_o]
          exact hb
        · simp (disch := decide) only [setH_o]
          exact hB
        · simp (disch := decide) only [setH_o]
          intro j hj
          by_cases e : j = a
          · subst e
            rw [setH_s, setH_s]
            omega
          · rw [setH_n e, setH_n e]
            exact hc j (by omega)
        · simp (disch := decide) only [setH_o]
          rw [setH_n (by omega), setH_n (by omega)]
          exact ⟨rfl, rfl⟩
        · refine XS_mono h1 ?_
          have := XS_let (kd := setH (setH (setH (setH h 23 a 2) 24 a ((cv : Int) - 97)) 19 1 ((a : Int) + 1)) 18 3 ((p : Int) + 1) 23) (op := setH (setH (setH (setH h 23 a 2) 24 a ((cv : Int) - 97)) 19 1 ((a : Int) + 1)) 18 3 ((p : Int) + 1) 24) (a := a) (j := ((cv : Int) - 97).toNat) (by simp (disch := decide) only [setH_o, setH_s]) (by simp (disch := decide) only [setH_o, setH_s]; omega)
          exact this
      · rw [if_neg l, if_neg l]
        refine OK_gd (by decide) ?_
        rw [OK_bindE]
        refine OK_mono (blame_s P (k := 1) (by omega)) (fun y hy => ?_)
        rw [OK_some]
        exact ⟨hy.1, hy.2.1, by omega, by omega⟩
theorem term_x {n nd nd1 p a w : Nat} {B : Nat → Int} {h : Hp} {sub : Hp → Option Hp} {sp : Nat → PR} (hw : w = 2 ∨ w = 3) (hsub : ∀ (p a : Nat) (h : Hp), PX h n B p a → a + 1 ≤ p → OK (sub h) (RX n B nd1 p a h (sp p))) (hnd : nd1 + 1 ≤ nd) (P : PX h n B p a) (ha : a + 1 ≤ p) : OK ((sub h).bind fun r1 => (iter (glp w sub) FU (0, r1)).bind fun x6 => some x6) (RX n B nd p a h (pT B w sp p)) := by
  rw [OK_bindE]
  refine OK_mono (hsub p a h P ha) (fun g hg => ?_)
  obtain ⟨g1, g2⟩ := hg
  unfold pT
  rw [OK_bindE]
  cases er : sp p with
  | inl f =>
    rw [er] at g2
    obtain ⟨g3, g4, g5⟩ := g2
    refine OK_mono (loop_f (flt_ne g3 g4 g5)) (fun y hy => ?_)
    rw [OK_some, hy]
    exact ⟨g1, g3, g4, g5⟩
  | inr z =>
    obtain ⟨q, v⟩ := z
    rw [er] at g2
    obtain ⟨g3, b, g4, g5, g6, g7⟩ := g2
    refine OK_mono (loop_x hw hsub hnd g5 g7.1 (by omega) (XS_mono (by omega) g7)) (fun y hy => ?_)
    obtain ⟨y1, y2⟩ := hy
    rw [OK_some]
    dsimp only
    refine ⟨F1_tr g1 y1, ?_⟩
    cases el : pL B w sp 200 q v with
    | inl f =>
      rw [el] at y2
      exact y2
    | inr z2 =>
      obtain ⟨q2, v2⟩ := z2
      rw [el] at y2
      obtain ⟨y3, b2, y4, y5, y6, y7⟩ := y2
      exact ⟨by omega, b2, by omega, y5, fun j hj => ⟨(y6 j hj).1.trans (g6 j hj).1, (y6 j hj).2.trans (g6 j hj).2⟩, y7⟩
/-- the one side reads an E by the grammar -/
theorem E_x {n : Nat} {B : Nat → Int} : ∀ (k tag d p a : Nat) (h : Hp), tag ≤ 2 → d ≤ 6 → 3 * (7 - d) + tag ≤ k + 2 → PX h n B p a → a + 1 ≤ p → OK (Rec49 k tag (d : Int) h) (RX n B (13 + tag - 2 * d) p a h (pE B k tag d p))
  | 0, tag, d, p, a, h, h1, h2, h3, _, _ => by omega
  | k + 1, tag, d, p, a, h, h1, h2, h3, P, ha => by
    match tag, h1, h3 with
    | 0, h1, h3 =>
      exact factor_x (ndS := 13 + 2 - 2 * (d + 1)) h2 (fun hd p a h P ha => E_x k 2 (d + 1) p a h (by omega) hd (by omega) P ha) (by omega) (fun hd => by omega) P ha
    | 1, h1, h3 =>
      exact term_x (w := 2) (nd1 := 13 + 0 - 2 * d) (Or.inl rfl) (fun p a h P ha => E_x k 0 d p a h (by omega) h2 (by omega) P ha) (by omega) P ha
    | 2, h1, h3 =>
      exact term_x (w := 3) (nd1 := 13 + 1 - 2 * d) (Or.inr rfl) (fun p a h P ha => E_x k 1 d p a h (by omega) h2 (by omega) P ha) (by omega) P ha
    | t + 3, h1, h3 => omega
