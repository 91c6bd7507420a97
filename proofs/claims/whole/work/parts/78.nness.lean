theorem bitWork_in {h : Hp} (i : Nat) (hi : (i : Int) < h 3 11) (hb : h 3 11 ≤ 40) : X7_bitWork (i : Int) h = some (h 13 i) := by
  unfold X7_bitWork
  simp only [x_isB (v := (i : Int)) (h := h) (by omega) (by omega), w32_id (z := (i : Int)) (by omega) (by omega), if_pos (show 0 ≤ (i : Int) ∧ (i : Int) < h 3 11 by omega), q0, q1, qn0, qn1, i10, i00, in10, in00, if_true, if_false, OK_bindE, OK_some, Option.bind_some, at_e (a := 13) (n := 40) (v := (i : Int)) (h := h) i rfl (by omega) (by omega)]
theorem bitWriter_in {h : Hp} (i : Nat) (hi : (i : Int) < h 3 11) (hb : h 3 11 ≤ 40) : X7_bitWriter (i : Int) h = some (h 12 i) := by
  unfold X7_bitWriter
  simp only [x_isB (v := (i : Int)) (h := h) (by omega) (by omega), w32_id (z := (i : Int)) (by omega) (by omega), if_pos (show 0 ≤ (i : Int) ∧ (i : Int) < h 3 11 by omega), q0, q1, qn0, qn1, i10, i00, in10, in00, if_true, if_false, OK_bindE, OK_some, Option.bind_some, at_e (a := 12) (n := 40) (v := (i : Int)) (h := h) i rfl (by omega) (by omega)]
theorem bitBook_in {h : Hp} (i : Nat) (hi : (i : Int) < h 3 11) (hb : h 3 11 ≤ 40) : X7_bitBook (i : Int) h = some (h 14 i) := by
  unfold X7_bitBook
  simp only [x_isB (v := (i : Int)) (h := h) (by omega) (by omega), w32_id (z := (i : Int)) (by omega) (by omega), if_pos (show 0 ≤ (i : Int) ∧ (i : Int) < h 3 11 by omega), q0, q1, qn0, qn1, i10, i00, in10, in00, if_true, if_false, OK_bindE, OK_some, Option.bind_some, at_e (a := 14) (n := 40) (v := (i : Int)) (h := h) i rfl (by omega) (by omega)]
theorem nv_bd {s : Nat} {y : Int} (hs : 1 ≤ s ∧ s ≤ 8) (hy : 0 ≤ y ∧ y ≤ s) : 0 ≤ div32 (1000 * y) s ∧ div32 (1000 * y) s ≤ 1000 := by
  rw [div32_nn (by omega) (by omega) (by omega) (by omega)]
  have : s = 1 ∨ s = 2 ∨ s = 3 ∨ s = 4 ∨ s = 5 ∨ s = 6 ∨ s = 7 ∨ s = 8 := by omega
  rcases this with e | e | e | e | e | e | e | e <;> subst e <;> omega
theorem nearness_b {x m : Hp} (R : RS x m) (C : RC x m) {a b : Int} (ha : I32 a) (hb : I32 b) : OK (X11_nearness a b x) (fun z => OK (X12_nearness a b m) (fun w => z.1 = w.1 ∧ RC z.2 m ∧ (∀ c, c ≠ 54 → ¬ (55 ≤ c ∧ c ≤ 58) → z.2 c = x c) ∧ (∀ c j, c ≠ 182 → ¬ (c = 150 ∧ 61 ≤ j ∧ j ≤ 63) → w.2 c j = m c j))) := by
  obtain ⟨⟨⟨-, -, e39, e311⟩, -, ⟨e12, e13, -, -, e16⟩, -⟩, S⟩ := id R
  obtain ⟨⟨-, b3, b4, b5⟩, -, ⟨b156, -⟩, ⟨b160, b161, -⟩, ⟨b164, -⟩, ⟨bb, -, -⟩⟩ := id S
  obtain ⟨n, en⟩ := Int.eq_ofNat_of_zero_le b5.1
  unfold X11_nearness X12_nearness
  simp only [x_isM (h := x) (by omega) (by omega), m_isM (h := m) (by omega) (by omega), e39, I32_w ha, OK_bindE, OK_some]
  rw [within_in (by omega) (by omega) hb.1 hb.2 (by omega) (by omega), I32_w hb, lies_in (by have := hb.1; omega) (by have := hb.2; omega) (by omega) (by omega) (by omega) (by omega)]
  by_cases c : 0 ≤ a ∧ a < m 150 4
  · by_cases d : 0 ≤ b ∧ b ≤ 3
    · simp only [if_pos c, if_pos d, q0, q1, qn0, qn1, i10, i00, in10, in00, if_true, if_false, OK_bindE, OK_some, Option.bind_some]
      refine OK2_seq (OK2_mono (P := fun z w => ∃ (xl ml g su k : Int) (hx hm : Hp), z = (xl, g, su, k, hx) ∧ w = (ml, g, su, k, hm) ∧ (xl = min 1000 ml ∧ 0 ≤ ml ∧ ml ≤ 1001) ∧ (0 ≤ k ∧ k ≤ n ∧ (k ≠ 0 → ml ≤ 1000)) ∧ RC hx m ∧ (∀ c, c ≠ 54 → ¬ (55 ≤ c ∧ c ≤ 58) → hx c = x c) ∧ (∀ c j, c ≠ 182 → ¬ (c = 150 ∧ 61 ≤ j ∧ j ≤ 63) → hm c j = m c j)) (iter_2 (fun p s t => ∃ (xl ml g su k : Int) (hx hm : Hp), s = (xl, g, su, k, (p : Int), hx) ∧ t = (ml, g, su, k, (p : Int), hm) ∧ (xl = min 1000 ml ∧ 0 ≤ ml ∧ ml ≤ 1001) ∧ (0 ≤ k ∧ k ≤ p ∧ (k ≠ 0 → ml ≤ 1000)) ∧ (0 ≤ g ∧ g ≤ 1000) ∧ RC hx m ∧ (∀ c, c ≠ 54 → ¬ (55 ≤ c ∧ c ≤ 58) → hx c = x c) ∧ (∀ c j, c ≠ 182 → ¬ (c = 150 ∧ 61 ≤ j ∧ j ≤ 63) → hm c j = m c j)) _ n (by omega) (fun p s t hp hI => ?_) ⟨1000, 1001, 0, 0, 0, x, m, rfl, rfl, by omega, by omega, by omega, C, fun _ _ _ => rfl, fun _ _ _ _ => rfl⟩) (fun z w hzw => ?_))
      · obtain ⟨xl, ml, g, su, k, hx, hm, rfl, rfl, hl, hk, hg, C', fx, fm⟩ := hI
        have R' : RS hx hm := RS_nm fm (RS_nx fx R)
        have C2 : RC hx hm := RC_nm fm C'
        obtain ⟨-, S'⟩ := id R'
        have n5 : hm 150 5 = (n : Int) := by rw [fm 150 5 (by decide) (by omega)]; exact en
        have x5 : hx 3 11 = (n : Int) := by rw [fx 3 (by decide) (by omega), e311]; exact en
        have m160 : hm 160 p = m 160 p := fm 160 p (by decide) (by omega)
        have m161 : hm 161 p = m 161 p := fm 161 p (by decide) (by omega)
        unfold X11_nearness_l22 X12_nearness_l22 X7_bits
        try dsimp only
        rw [OK_bindE, OK_some]
        simp only [x5, n5]
        simp only [w32_id (z := (n : Int)) (by omega) (by omega), w32_id (z := (p : Int)) (by omega) (by omega), I32_w ha]
        refine OK_if (fun e => ?_) (fun e => ?_)
        · rw [OK_some, if_pos e, OK_some, LQ2_r]
          exact ⟨xl, ml, g, su, k, hx, hm, rfl, rfl, hl, by omega, C', fx, fm⟩
        · rw [if_neg e, bitWork_in p (by omega) (by omega), OK_bindE, OK_some, bitWriter_in p (by omega) (by omega), OK_bindE, OK_some, fx 12 (by decide) (by omega), fx 13 (by decide) (by omega), e12, e13]
          have c0 := b160 p
          have c1 := b161 p
          have c2 := bb p (by omega)
          have c3 := b164 p
          simp (disch := omega) only [↓if_inb, tn, m160, m161, w32_id, I32_w ha]
          have go : LQ2 (fun s' t' => p < n ∧ ∃ (xl ml g su k : Int) (hx hm : Hp), s' = (xl, g, su, k, ((p + 1 : Nat) : Int), hx) ∧ t' = (ml, g, su, k, ((p + 1 : Nat) : Int), hm) ∧ (xl = min 1000 ml ∧ 0 ≤ ml ∧ ml ≤ 1001) ∧ (0 ≤ k ∧ k ≤ (p + 1 : Nat) ∧ (k ≠ 0 → ml ≤ 1000)) ∧ (0 ≤ g ∧ g ≤ 1000) ∧ RC hx m ∧ (∀ c, c ≠ 54 → ¬ (55 ≤ c ∧ c ≤ 58) → hx c = x c) ∧ (∀ c j, c ≠ 182 → ¬ (c = 150 ∧ 61 ≤ j ∧ j ≤ 63) → hm c j = m c j)) (fun z w => ∃ (xl ml g su k : Int) (hx hm : Hp), z = (xl, g, su, k, hx) ∧ w = (ml, g, su, k, hm) ∧ (xl = min 1000 ml ∧ 0 ≤ ml ∧ ml ≤ 1001) ∧ (0 ≤ k ∧ k ≤ n ∧ (k ≠ 0 → ml ≤ 1000)) ∧ RC hx m ∧ (∀ c, c ≠ 54 → ¬ (55 ≤ c ∧ c ≤ 58) → hx c = x c) ∧ (∀ c j, c ≠ 182 → ¬ (c = 150 ∧ 61 ≤ j ∧ j ≤ 63) → hm c j = m c j)) (Sum.inl (xl, g, su, k, (p : Int) + 1, hx)) (Sum.inl (ml, g, su, k, (p : Int) + 1, hm)) := by
            rw [LQ2_l]
            exact ⟨by omega, xl, ml, g, su, k, hx, hm, rfl, rfl, hl, by omega, hg, C', fx, fm⟩
          refine OK_if (fun f => ?_) (fun f => ?_)
          · rw [if_pos f]
            unfold X11_nearness_j67 X12_nearness_j70
            exact go
          · rw [if_neg f]
            simp only [x_left R' (k := m 161 p) (by unfold I32; omega), m_left S' (k := m 161 p) (by unfold I32; omega), OK_bindE, OK_some, fm 150 3 (by decide) (by omega), fm 156 (m 161 p).toNat (by decide) (by omega)]
            by_cases hl2 : 0 ≤ m 161 p ∧ m 161 p < m 150 3 ∧ 0 < m 156 (m 161 p).toNat
            · simp only [if_pos hl2, q0, q1, qn0, qn1, i10, i00, in10, in00, if_true, if_false, OK_bindE, OK_some, Option.bind_some]
              obtain ⟨q, eq⟩ := Int.eq_ofNat_of_zero_le hl2.1
              rw [eq] at hl2 ⊢
              have hl3 : 1 ≤ m 156 q := hl2.2.2
              obtain ⟨s, es⟩ := Int.eq_ofNat_of_zero_le c3.1
              have gd := neM_gd S (i := p) (k := q) (by omega) hl3
              have en2 : neM hm p q = neM m p q := neM_nm fm p q
              refine OK_mono (find_s R' C2 (i := p) (k := q) (by omega) (by omega) (by rw [fm 156 q (by decide) (by omega)]; exact hl3)) (fun z hz => ?_)
              obtain ⟨z1, z2, z3⟩ := hz
              rw [en2] at z1
              have y1 : z 56 (8 * p + q) = (neM m p q).1 := by rw [← z1]
              rw [thous_s (s := s) (by omega) (by omega) (by omega) (by rw [z3 16 (by decide) (by omega), fx 16 (by decide) (by omega), e16]; exact es) (by rw [y1]; omega), OK_some, y1]
              have vb := nv_bd (s := s) (y := max 0 ((s : Int) - (neM m p q).1)) (by omega) (by omega)
              generalize hv : div32 (1000 * max 0 ((s : Int) - (neM m p q).1)) s = v at vb ⊢
              unfold X11_nearness_j67
              rw [OK_some]
              refine OK_mono (nears_b S' (i := p) (k := q) (by omega) (by omega) (by rw [fm 156 q (by decide) (by omega)]; exact hl3)) (fun w hw => ?_)
              obtain ⟨w1, w2⟩ := hw
              rw [en2] at w1
              have v1 : w 150 61 = (neM m p q).1 := by rw [← w1]
              have fw : ∀ c j, c ≠ 182 → ¬ (c = 150 ∧ 61 ≤ j ∧ j ≤ 63) → w c j = m c j := fun c j h1 h2 => (w2 c j h1 h2).trans (fm c j h1 h2)
              have fz : ∀ c, c ≠ 54 → ¬ (55 ≤ c ∧ c ≤ 58) → z c = x c := fun c h1 h2 => (z3 c h1 h2).trans (fx c h1 h2)
              have Cz : RC z m := RC_nm (m := hm) (w := m) (fun c j h1 h2 => (fm c j h1 h2).symm) z2
              rw [nearnessNow_s (s := s) (by omega) (by omega) (by rw [fw 164 _ (by decide) (by omega)]; exact es) (by rw [v1]; omega), v1, hv, OK_some]
              simp (disch := omega) only [minI_id, maxI_id, w32_id]
              unfold X12_nearness_j57 X12_nearness_j64 X12_nearness_j70
              simp (disch := omega) only [w32_id]
              refine OK_if (fun t1 => OK_if (fun t2 => ?_) (fun t2 => ?_)) (fun t1 => OK_if (fun t2 => ?_) (fun t2 => ?_))
              · rw [OK_some, LQ2_l]
                exact ⟨by omega, _, ml, _, _, _, z, w, rfl, by rw [show max g v = g by omega]; rfl, by omega, by omega, by omega, Cz, fz, fw⟩
              · rw [OK_some, LQ2_l]
                exact ⟨by omega, _, ml, _, _, _, z, w, rfl, by rw [show max g v = v by omega]; rfl, by omega, by omega, by omega, Cz, fz, fw⟩
              · rw [OK_some, LQ2_l]
                exact ⟨by omega, _, v, _, _, _, z, w, rfl, by rw [show max g v = g by omega]; rfl, by omega, by omega, by omega, Cz, fz, fw⟩
              · rw [OK_some, LQ2_l]
                exact ⟨by omega, _, v, _, _, _, z, w, rfl, by rw [show max g v = v by omega]; rfl, by omega, by omega, by omega, Cz, fz, fw⟩
            · simp only [if_neg hl2, q0, q1, qn0, qn1, i10, i00, in10, in00, if_true, if_false, OK_bindE, OK_some, Option.bind_some]
              unfold X11_nearness_j67 X12_nearness_j70
              exact go
      · obtain ⟨xl, ml, g, su, k, hx, hm, rfl, rfl, hl, hk, C', fx, fm⟩ := hzw
        simp (disch := omega) only [w32_id]
        refine OK_if (fun t1 => OK_if (fun t2 => OK_if (fun t3 => OK_if (fun t4 => OK_gd t2 ?_) (fun t4 => ?_)) (fun t3 => ?_)) (fun t2 => ?_)) (fun t1 => ?_)
        · simp only [if_pos t1, if_pos t2, if_pos t3, if_pos t4]
          exact ⟨rfl, C', fx, fm⟩
        · simp only [if_pos t1, if_pos t2, if_pos t3, if_neg t4]
          exact ⟨rfl, C', fx, fm⟩
        · simp only [if_pos t1, if_pos t2, if_neg t3]
          exact ⟨by show xl = ml; omega, C', fx, fm⟩
        · simp only [if_pos t1, if_neg t2]
          exact ⟨rfl, C', fx, fm⟩
        · simp only [if_neg t1]
          exact ⟨rfl, C', fx, fm⟩
    · simp only [if_pos c, if_neg d, q0, q1, qn0, qn1, i10, i00, in10, in00, if_true, if_false, OK_bindE, OK_some, Option.bind_some]
      first | exact ⟨rfl, C, fun _ _ _ => rfl, fun _ _ _ _ => rfl⟩ | simp [C]
  · simp only [if_neg c, q0, q1, qn0, qn1, i10, i00, in10, in00, if_true, if_false, OK_bindE, OK_some, Option.bind_some]
    first | exact ⟨rfl, C, fun _ _ _ => rfl, fun _ _ _ _ => rfl⟩ | simp [C]
