theorem thous_s {i k s : Nat} {h : Hp} (hi : i < 40) (hk : k < 8) (hs : 1 ≤ s ∧ s ≤ 8) (es : h 16 i = (s : Int)) (hf : 0 ≤ h 56 (8 * i + k) ∧ h 56 (8 * i + k) ≤ 100) : X1_thousandths (i : Int) (k : Int) h = some (div32 (1000 * max 0 ((s : Int) - h 56 (8 * i + k))) s) := by
  unfold X1_thousandths X1_leastFar
  rw [bitSize_e i rfl hi, es, at_e (8 * i + k) (by omega) (by omega) (by omega)]
  show (if w32 1 ≤ w32 (s : Int) then (if w32 (s : Int) ≠ 0 then some (div32 (1000 * maxI 0 ((s : Int) - h 56 (8 * i + k))) (s : Int)) else none) else some 0) = _
  rw [w32_1, w32_id (by omega) (by omega), if_pos (by omega), if_pos (by omega), maxI_id (by omega) (by omega) (by omega) (by omega)]
theorem neM_gd {m : Hp} (S : SB m) {i k : Nat} (hi : (i : Int) < m 150 5) (hl : 1 ≤ m 156 k) : 0 ≤ (neM m i k).1 ∧ (neM m i k).1 ≤ m 164 i ∧ 0 ≤ (neM m i k).2.1 ∧ (neM m i k).2.1 ≤ (neM m i k).2.2 ∧ (neM m i k).2.2 < m 156 k := by
  obtain ⟨-, -, ⟨b156, -⟩, -, ⟨b164, -⟩, ⟨bb, -, -⟩⟩ := id S
  have b1 := b164 i
  have b2 := b156 k
  have b3 := (bb i hi).1
  have := nNr_gd (bwM m i) (wwM m k) (m 164 i).toNat (m 156 k).toNat (by omega) (by omega) (by omega)
  unfold nGo at this
  unfold neM
  omega
theorem nears_b {m : Hp} (S : SB m) {i k : Nat} (hi : (i : Int) < m 150 5) (hk : k < 8) (hl : 1 ≤ m 156 k) : OK (X12_nears (i : Int) (k : Int) m) (fun w => (w 150 61, w 150 62, w 150 63) = neM m i k ∧ ∀ a j, a ≠ 182 → ¬ (a = 150 ∧ 61 ≤ j ∧ j ≤ 63) → w a j = m a j) := by
  obtain ⟨⟨-, -, -, b5⟩, -, ⟨b156, b157, -⟩, -, ⟨b164, b165⟩, ⟨bb, -, -⟩⟩ := id S
  have b1 := b164 i
  have b2 := b156 k
  have b3 := (bb i hi).1
  obtain ⟨s, es⟩ := Int.eq_ofNat_of_zero_le b1.1
  obtain ⟨L, eL⟩ := Int.eq_ofNat_of_zero_le b2.1
  refine OK_mono (nears_s (s := s) (L := L) (by omega) hk (by omega) (by omega) es eL b165 b157) (fun w hw => ⟨?_, hw.2⟩)
  rw [hw.1]
  unfold neM
  rw [es, eL]
  rfl
theorem near_b {x m : Hp} (R : RS x m) (C : RC x m) {a k what : Int} (ha : I32 a) (hk : I32 k) (hw : I32 what) : OK (X11_near a k what x) (fun z => OK (X12_near a k what m) (fun w => z.1 = w.1 ∧ RC z.2 m ∧ (∀ c, c ≠ 54 → ¬ (55 ≤ c ∧ c ≤ 58) → z.2 c = x c) ∧ (∀ c j, c ≠ 182 → ¬ (c = 150 ∧ 61 ≤ j ∧ j ≤ 63) → w.2 c j = m c j))) := by
  obtain ⟨⟨⟨-, -, -, e311⟩, -, ⟨-, -, -, -, e16⟩, -⟩, S⟩ := id R
  obtain ⟨⟨-, b3, -, b5⟩, -, ⟨b156, -⟩, -, ⟨b164, -⟩, ⟨bb, -, -⟩⟩ := id S
  unfold X11_near X12_near
  simp only [x_isB (h := x) (by omega) (by omega), m_isB (h := m) (by omega) (by omega), x_left R hk, m_left S hk, e311, I32_w ha, I32_w hw, OK_bindE, OK_some]
  by_cases c : 0 ≤ a ∧ a < m 150 5
  · by_cases d : 0 ≤ k ∧ k < m 150 3 ∧ 0 < m 156 k.toNat
    · obtain ⟨i, rfl⟩ := Int.eq_ofNat_of_zero_le c.1
      obtain ⟨q, rfl⟩ := Int.eq_ofNat_of_zero_le d.1
      simp only [if_pos c, if_pos d, q0, q1, qn0, qn1, i10, i00, in10, in00, if_true, if_false, OK_bindE, OK_some, Option.bind_some]
      have hl : 1 ≤ m 156 q := d.2.2
      have g := neM_gd S c.2 hl
      have b1 := b164 i
      have b4 := (bb i c.2).1
      have b6 := b156 q
      obtain ⟨s, es⟩ := Int.eq_ofNat_of_zero_le b1.1
      refine OK_mono (find_s R C c.2 (by omega) hl) (fun z hz => ?_)
      obtain ⟨z1, z2, z3⟩ := hz
      have y1 : z 56 (8 * i + q) = (neM m i q).1 := by rw [← z1]
      have y2 : z 57 (8 * i + q) = (neM m i q).2.1 := by rw [← z1]
      have y3 : z 58 (8 * i + q) = (neM m i q).2.2 := by rw [← z1]
      unfold X1_leastFar X1_firstPlace X1_lastPlace
      simp only [at_e (n := 320) (v := (i : Int) * 8 + (q : Int)) (8 * i + q) (by omega) (by omega) (by omega), OK_bindE, OK_some]
      rw [thous_s (s := s) (by omega) (by omega) (by omega) (by rw [z3 16 (by decide) (by omega), e16]; exact es) (by rw [y1]; omega)]
      simp only [OK_some, w32_1, w32_id (z := 2) (by omega) (by omega)]
      rw [lies_in (a := what) (b := 0) (c := 3) (by have := hw.1; omega) (by have := hw.2; omega) (by omega) (by omega) (by omega) (by omega)]
      have f0 : OK (X12_nears (i : Int) (q : Int) m) (fun w => OK (if what ≠ 0 then if what ≠ 1 then if what ≠ 2 then (X12_nearnessNow (i : Int) w).bind fun r5 => some (r5, w) else some (w 150 63, w) else some (w 150 62, w) else some (w 150 61, w)) (fun w' => (if what = 0 then (neM m i q).1 else if what = 1 then (neM m i q).2.1 else if what = 2 then (neM m i q).2.2 else div32 (1000 * max 0 ((s : Int) - (neM m i q).1)) s) = w'.1 ∧ RC z m ∧ (∀ c, c ≠ 54 → ¬ (55 ≤ c ∧ c ≤ 58) → z c = x c) ∧ (∀ c j, c ≠ 182 → ¬ (c = 150 ∧ 61 ≤ j ∧ j ≤ 63) → w'.2 c j = m c j))) := by
        refine OK_mono (nears_b S c.2 (by omega) hl) (fun w hw' => ?_)
        obtain ⟨w1, w2⟩ := hw'
        have v1 : w 150 61 = (neM m i q).1 := by rw [← w1]
        have v2 : w 150 62 = (neM m i q).2.1 := by rw [← w1]
        have v3 : w 150 63 = (neM m i q).2.2 := by rw [← w1]
        rw [nearnessNow_s (s := s) (by omega) (by omega) (by rw [w2 164 _ (by decide) (by omega)]; exact es) (by rw [v1]; omega), v1, v2, v3]
        refine OK_if (fun c1 => OK_if (fun c2 => OK_if (fun c3 => ?_) (fun c3 => ?_)) (fun c2 => ?_)) (fun c1 => ?_)
        · exact ⟨by rw [if_neg c1, if_neg c2, if_neg c3], z2, z3, w2⟩
        · exact ⟨by rw [if_neg c1, if_neg c2, if_pos (by omega)], z2, z3, w2⟩
        · exact ⟨by rw [if_neg c1, if_pos (by omega)], z2, z3, w2⟩
        · exact ⟨by rw [if_pos (by omega)], z2, z3, w2⟩
      by_cases cw : 0 ≤ what ∧ what ≤ 3
      · simp only [if_pos cw, q0, q1, qn0, qn1, i10, i00, in10, in00, if_true, if_false, OK_bindE, OK_some, Option.bind_some]
        have ff : ∀ v : Int, v = (if what = 0 then (neM m i q).1 else if what = 1 then (neM m i q).2.1 else if what = 2 then (neM m i q).2.2 else div32 (1000 * max 0 ((s : Int) - (neM m i q).1)) s) → OK (some (v, z)) (fun z' => OK (X12_nears (i : Int) (q : Int) m) (fun w => OK (if what ≠ 0 then if what ≠ 1 then if what ≠ 2 then (X12_nearnessNow (i : Int) w).bind fun r5 => some (r5, w) else some (w 150 63, w) else some (w 150 62, w) else some (w 150 61, w)) (fun w' => z'.1 = w'.1 ∧ RC z'.2 m ∧ (∀ c, c ≠ 54 → ¬ (55 ≤ c ∧ c ≤ 58) → z'.2 c = x c) ∧ (∀ c j, c ≠ 182 → ¬ (c = 150 ∧ 61 ≤ j ∧ j ≤ 63) → w'.2 c j = m c j)))) := fun v hv => by
          rw [OK_some]
          refine OK_mono f0 (fun w hw' => OK_mono hw' (fun w' h => ⟨?_, h.2⟩))
          rw [← h.1]
          exact hv
        refine OK_if (fun c1 => ff _ ?_) (fun c1 => OK_if (fun c2 => ff _ ?_) (fun c2 => OK_if (fun c3 => ff _ ?_) (fun c3 => OK_if (fun c4 => ff _ ?_) (fun c4 => by omega))))
        · rw [if_pos c1]
          exact y1
        · rw [if_neg c1, if_pos c2]
          exact y2
        · rw [if_neg c1, if_neg c2, if_pos c3]
          exact y3
        · rw [if_neg c1, if_neg c2, if_neg c3, y1]
      · simp only [if_neg cw, q0, q1, qn0, qn1, i10, i00, in10, in00, if_true, if_false, OK_bindE, OK_some, Option.bind_some]
        refine OK_gn (by omega) (OK_gn (by omega) (OK_gn (by omega) (OK_gn (by omega) ?_)))
        first | exact ⟨rfl, z2, z3, fun _ _ _ _ => rfl⟩ | exact ⟨rfl, z2, z3, fun _ _ _ _ => trivial⟩
    · simp only [if_pos c, if_neg d, q0, q1, qn0, qn1, i10, i00, in10, in00, if_true, if_false, OK_bindE, OK_some, Option.bind_some]
      first | exact ⟨rfl, C, fun _ _ _ => rfl, fun _ _ _ _ => rfl⟩ | simp [C]
  · simp only [if_neg c, q0, q1, qn0, qn1, i10, i00, in10, in00, if_true, if_false, OK_bindE, OK_some, Option.bind_some]
    first | exact ⟨rfl, C, fun _ _ _ => rfl, fun _ _ _ _ => rfl⟩ | simp [C]
theorem SB_cg {m m' : Hp} (hm : ∀ a j, cMS a j → m' a j = m a j) (S : SB m) : SB m' := by
  have em : ∀ a, 152 ≤ a ∧ a ≤ 165 → m' a = m a := fun a ha => funext fun j => hm a j (Or.inl ha)
  unfold SB
  rw [hm 150 2 (by unfold cMS; omega), hm 150 3 (by unfold cMS; omega), hm 150 4 (by unfold cMS; omega), hm 150 5 (by unfold cMS; omega), em 152 (by omega), em 153 (by omega), em 154 (by omega), em 155 (by omega), em 156 (by omega), em 157 (by omega), em 158 (by omega), em 159 (by omega), em 160 (by omega), em 161 (by omega), em 162 (by omega), em 163 (by omega), em 164 (by omega), em 165 (by omega)]
  exact S
theorem RS_nm {x m w : Hp} (hw : ∀ a j, a ≠ 182 → ¬ (a = 150 ∧ 61 ≤ j ∧ j ≤ 63) → w a j = m a j) (R : RS x m) : RS x w := RS_cg (fun _ _ _ => rfl) (fun a j h => hw a j (by unfold cMS at h; omega) (by unfold cMS at h; omega)) R
theorem neM_nm {m w : Hp} (hw : ∀ a j, a ≠ 182 → ¬ (a = 150 ∧ 61 ≤ j ∧ j ≤ 63) → w a j = m a j) (i k : Nat) : neM w i k = neM m i k :=
  neM_cg (hw 164 i (by decide) (by omega)) (fun p _ => hw 165 _ (by decide) (by omega)) (hw 156 k (by decide) (by omega)) (fun p _ => hw 157 _ (by decide) (by omega))
theorem RC_nm {x m w : Hp} (hw : ∀ a j, a ≠ 182 → ¬ (a = 150 ∧ 61 ≤ j ∧ j ≤ 63) → w a j = m a j) (C : RC x m) : RC x w :=
  RC_cg (fun _ _ _ => rfl) (by rw [hw 150 5 (by decide) (by omega)]; exact Int.le_refl _) (fun i k _ _ _ => ⟨hw 156 k (by decide) (by omega), neM_nm hw i k⟩) C
theorem RS_nx {x z m : Hp} (hz : ∀ a, a ≠ 54 → ¬ (55 ≤ a ∧ a ≤ 58) → z a = x a) (R : RS x m) : RS z m := RS_cg (fun a j h => by rw [hz a (by unfold cXS at h; omega) (by unfold cXS at h; omega)]) (fun _ _ _ => rfl) R
theorem same_b {x m : Hp} (R : RS x m) {a b : Int} (ha : I32 a) (hb : I32 b) : OK (X11_same a b x) (fun z => OK (X12_same a b m) (fun w => z.1 = w.1 ∧ (∀ c, c ≠ 54 → z.2 c = x c) ∧ (∀ c, c ≠ 182 → w.2 c = m c))) := by
  obtain ⟨⟨⟨-, -, -, e311⟩, -⟩, ⟨⟨-, -, -, b5⟩, -⟩⟩ := id R
  obtain ⟨n, en⟩ := Int.eq_ofNat_of_zero_le b5.1
  unfold X11_same X12_same
  simp only [x_isB (h := x) (by omega) (by omega), m_isB (h := m) (by omega) (by omega), e311, I32_w ha, OK_bindE, OK_some]
  rw [within_in (by omega) (by omega) hb.1 hb.2 (by omega) (by omega), I32_w hb, lies_in (by have := hb.1; omega) (by have := hb.2; omega) (by omega) (by omega) (by omega) (by omega)]
  by_cases c : 0 ≤ a ∧ a < m 150 5
  · by_cases d : 0 ≤ b ∧ b ≤ 8
    · simp only [if_pos c, if_pos d, q0, q1, qn0, qn1, i10, i00, in10, in00, if_true, if_false, OK_bindE, OK_some, Option.bind_some]
      obtain ⟨i, rfl⟩ := Int.eq_ofNat_of_zero_le c.1
      refine iter_2 (fun p s t => ∃ u hx hm, s = (u, (p : Int), hx) ∧ t = (u, (p : Int), hm) ∧ w64 u = u ∧ (∀ c, c ≠ 54 → hx c = x c) ∧ (∀ c, c ≠ 182 → hm c = m c)) _ n (by omega) (fun p s t hp hI => ?_) ⟨0, x, m, rfl, rfl, rfl, fun _ _ => rfl, fun _ _ => rfl⟩
      obtain ⟨u, hx, hm, rfl, rfl, hu, fx, fm⟩ := hI
      have R' : RS hx hm := RS_cg (fun a j h => by rw [fx a (by unfold cXS at h; omega)]) (fun a j h => by rw [fm a (by unfold cMS at h; omega)]) R
      unfold X11_same_l16 X12_same_l16 X7_bits
      try dsimp only
      rw [OK_bindE, OK_some]
      simp only [fx 3 (by decide), fm 150 (by decide), e311, en]
      rw [w32_id (z := (n : Int)) (by omega) (by omega), w32_id (z := (p : Int)) (by omega) (by omega), I32_w hb]
      refine OK_if (fun e => ?_) (fun e => ?_)
      · rw [OK_some, if_pos e, OK_some, LQ2_r]
        exact ⟨rfl, fx, fm⟩
      · rw [if_neg e]
        refine OK2_bind (OK2_mono (far_both R' (by rw [fm 150 (by decide)]; exact c.2) (by rw [fm 150 (by decide)]; omega)) (fun z w hz => ?_))
        obtain ⟨h1, h2, h3, h4⟩ := hz
        rw [h1, w32_id (z := w.1) (by omega) (by omega)]
        unfold X11_same_j34 X12_same_j32
        have gx : ∀ c, c ≠ 54 → z.2 c = x c := fun c hc => (h3 c hc).trans (fx c hc)
        have gm : ∀ c, c ≠ 182 → w.2 c = m c := fun c hc => (h4 c hc).trans (fm c hc)
        refine OK_if (fun f => ?_) (fun f => ?_)
        · rw [OK_some, if_pos f, OK_some, LQ2_l]
          refine ⟨by omega, _, _, _, rfl, ?_, hu, gx, gm⟩
          rw [or64_0, hu]
          rfl
        · rw [OK_some, if_neg f, OK_some, LQ2_l]
          exact ⟨by omega, _, _, _, rfl, rfl, w64_or _ _, gx, gm⟩
    · simp only [if_pos c, if_neg d, q0, q1, qn0, qn1, i10, i00, in10, in00, if_true, if_false, OK_bindE, OK_some, Option.bind_some]
      first | exact ⟨rfl, fun _ _ => rfl, fun _ _ => rfl⟩ | simp
  · simp only [if_neg c, q0, q1, qn0, qn1, i10, i00, in10, in00, if_true, if_false, OK_bindE, OK_some, Option.bind_some]
    first | exact ⟨rfl, fun _ _ => rfl, fun _ _ => rfl⟩ | simp
