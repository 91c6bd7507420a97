/-! what stood there: the table of the one side and of the other -/
theorem tail_e {p q : Nat} {h : Hp} {a b : Int} (ea : a = (p : Int)) (eb : b = (q : Int)) (hp : p ≤ 8) (hq : q ≤ 8) : X1_tail a b h = some (h 59 (9 * p + q)) := by
  unfold X1_tail
  rw [at_e (9 * p + q) (by omega) (by omega) (by omega), Option.bind_some]
theorem fillT_x {i j sx sy : Nat} {h : Hp} {fw gw : Nat → Int} (hi : i < 40) (hj : j < 40) (hsx : sx ≤ 8) (hsy : sy ≤ 8) (ei : h 16 i = (sx : Int)) (ej : h 16 j = (sy : Int)) (hf : ∀ p, p < sx → h 17 (8 * i + p) = fw p) (hg : ∀ p, p < sy → h 17 (8 * j + p) = gw p) (bf : ∀ p, 0 ≤ fw p ∧ fw p ≤ 63) (bg : ∀ p, 0 ≤ gw p ∧ gw p ≤ 63) : OK (X1_fillTails (i : Int) (j : Int) h) (fun h' => (∀ p q, p ≤ 8 → q ≤ 8 → h' 59 (9 * p + q) = lcP fw gw sx sy p q) ∧ ∀ a, a ≠ 59 → h' a = h a) := by
  unfold X1_fillTails
  rw [OK_bindE]
  refine OK_mono (iter_up (fun p s => p ≤ 81 ∧ ∃ h' : Hp, s = ((p : Int), h') ∧ (∀ r, r < p → h' 59 r = 0) ∧ ∀ a, a ≠ 59 → h' a = h a) (fun h' => (∀ r, r < 81 → h' 59 r = 0) ∧ ∀ a, a ≠ 59 → h' a = h a) 81 (by omega) (fun p s hp hI => ?_) ⟨by omega, h, rfl, fun r hr => by omega, fun _ _ => rfl⟩) (fun h1 hh1 => ?_)
  · obtain ⟨-, h', rfl, z1, z2⟩ := hI
    unfold X1_fillTails_l2
    dsimp only
    simp only [w32_id (z := (p : Int)) (by omega) (by omega), show w32 81 = 81 from rfl]
    refine OK_if (fun c => ?_) (fun c => ?_)
    · rw [OK_some, LQ_r]
      exact ⟨fun r hr => z1 r (by omega), z2⟩
    · refine OK_gi (by omega) (by omega) (by omega) ?_
      rw [OK_some, LQ_l, tn]
      refine ⟨by omega, by omega, _, rfl, fun r hr => ?_, fun a ha => by rw [setH_o ha, z2 a ha]⟩
      by_cases e : r = p
      · subst e
        rw [setH_s]
      · rw [setH_n e]
        exact z1 r (by omega)
  · obtain ⟨z1, z2⟩ := hh1
    rw [bitSize_e i rfl hi, OK_bindE, OK_some, z2 16 (by decide), ei, OK_bindE]
    refine OK_mono (iter_dn (fun n s => n ≤ sx ∧ ∃ h' : Hp, s = ((n : Int) - 1, h') ∧ (∀ p q, p ≤ 8 → q ≤ 8 → h' 59 (9 * p + q) = if n ≤ p then lcP fw gw sx sy p q else 0) ∧ ∀ a, a ≠ 59 → h' a = h a) (fun h' => (∀ p q, p ≤ 8 → q ≤ 8 → h' 59 (9 * p + q) = lcP fw gw sx sy p q) ∧ ∀ a, a ≠ 59 → h' a = h a) (fun n s hI => ?_) sx (by omega) ⟨Nat.le_refl _, h1, rfl, fun p q hp hq => ?_, z2⟩) (fun h2 hh2 => by rw [OK_some]; exact hh2)
    · obtain ⟨hn, h', rfl, y1, y2⟩ := hI
      unfold X1_fillTails_l19
      dsimp only
      cases n with
      | zero =>
        refine OK_gd (by decide) ?_
        rw [OK_some, LQ_r]
        exact ⟨fun p q hp hq => by rw [y1 p q hp hq, if_pos (Nat.zero_le _)], y2⟩
      | succ N =>
        have e1 : ((N + 1 : Nat) : Int) - 1 = (N : Int) := by omega
        rw [e1]
        simp only [w32_id (z := (N : Int)) (by omega) (by omega)]
        refine OK_gn (by omega) ?_
        rw [bitSize_e j rfl hj, OK_bindE, OK_some, y2 16 (by decide), ej, OK_bindE]
        refine OK_mono (iter_dn (fun l s => l ≤ sy ∧ ∃ g : Hp, s = ((l : Int) - 1, g) ∧ (∀ p q, p ≤ 8 → q ≤ 8 → g 59 (9 * p + q) = if N + 1 ≤ p ∨ (p = N ∧ l ≤ q) then lcP fw gw sx sy p q else 0) ∧ ∀ a, a ≠ 59 → g a = h a) (fun g => (∀ p q, p ≤ 8 → q ≤ 8 → g 59 (9 * p + q) = if N ≤ p then lcP fw gw sx sy p q else 0) ∧ ∀ a, a ≠ 59 → g a = h a) (fun l s hI => ?_) sy (by omega) ⟨Nat.le_refl _, h', rfl, fun p q hp hq => ?_, y2⟩) (fun g hg2 => ?_)
        · obtain ⟨hl, g, rfl, x1, x2⟩ := hI
          unfold X1_fillTails_l28 X1_fillTails_j66
          dsimp only
          cases l with
          | zero =>
            refine OK_gd (by decide) ?_
            rw [OK_some, LQ_r]
            refine ⟨fun p q hp hq => ?_, x2⟩
            rw [x1 p q hp hq]
            by_cases c : N ≤ p
            · rw [if_pos c, if_pos (by omega)]
            · rw [if_neg c, if_neg (by omega)]
          | succ L =>
            have e2 : ((L + 1 : Nat) : Int) - 1 = (L : Int) := by omega
            rw [e2]
            simp only [w32_id (z := (L : Int)) (by omega) (by omega)]
            refine OK_gn (by omega) ?_
            have t1 : X1_tail ((N : Int) + 1) (L : Int) g = some (lcP fw gw sx sy (N + 1) L) := by
              rw [tail_e (p := N + 1) (q := L) (by omega) (by omega) (by omega) (by omega), x1 (N + 1) L (by omega) (by omega), if_pos (Or.inl (Nat.le_refl _))]
            have t2 : X1_tail (N : Int) ((L : Int) + 1) g = some (lcP fw gw sx sy N (L + 1)) := by
              rw [tail_e (p := N) (q := L + 1) (by omega) (by omega) (by omega) (by omega), x1 N (L + 1) (by omega) (by omega), if_pos (Or.inr ⟨rfl, Nat.le_refl _⟩)]
            have t3 : X1_tail ((N : Int) + 1) ((L : Int) + 1) g = some (lcP fw gw sx sy (N + 1) (L + 1)) := by
              rw [tail_e (p := N + 1) (q := L + 1) (by omega) (by omega) (by omega) (by omega), x1 (N + 1) (L + 1) (by omega) (by omega), if_pos (Or.inl (Nat.le_refl _))]
            have b1 := (lcP_bd fw gw sx sy (N + 1) L).2.1
            have b2 := (lcP_bd fw gw sx sy N (L + 1)).2.1
            have b1' := (lcP_bd fw gw sx sy (N + 1) L).1
            have b2' := (lcP_bd fw gw sx sy N (L + 1)).1
            have cf := bf N
            have cg := bg L
            have es := lcP_s (fw := fw) (gw := gw) (sx := sx) (sy := sy) (p := N) (q := L) (by omega) (by omega)
            rw [t1, OK_bindE, OK_some, t2, OK_bindE, OK_some, bitWord_e (8 * i + N) (by omega) (by omega), OK_bindE, OK_some, bitWord_e (8 * j + L) (by omega) (by omega), OK_bindE, OK_some, x2 17 (by decide), hf N (by omega), hg L (by omega)]
            simp only [w32_id (z := fw N) (by omega) (by omega), w32_id (z := gw L) (by omega) (by omega)]
            rw [maxI_id (by omega) (by omega) (by omega) (by omega)]
            have fin : ∀ v, v = lcP fw gw sx sy N L → OK ((X11_put 59 81 ((N : Int) * 9 + (L : Int)) v g).bind fun r9 => some (Sum.inl ((L : Int) + (-1), r9))) (LQ (fun (s' : Int × Hp) => ∃ m, m < L + 1 ∧ (m ≤ sy ∧ ∃ g : Hp, s' = ((m : Int) - 1, g) ∧ (∀ p q, p ≤ 8 → q ≤ 8 → g 59 (9 * p + q) = if N + 1 ≤ p ∨ (p = N ∧ m ≤ q) then lcP fw gw sx sy p q else 0) ∧ ∀ a, a ≠ 59 → g a = h a)) (fun (g : Hp) => (∀ p q, p ≤ 8 → q ≤ 8 → g 59 (9 * p + q) = if N ≤ p then lcP fw gw sx sy p q else 0) ∧ ∀ a, a ≠ 59 → g a = h a)) := by
              intro v hv
              subst hv
              rw [put_e (9 * N + L) (by omega) (by omega) (by omega), OK_bindE, OK_some, OK_some, LQ_l]
              refine ⟨L, by omega, by omega, _, rfl, fun p q hp hq => ?_, fun a ha => by rw [setH_o ha, x2 a ha]⟩
              by_cases e : 9 * p + q = 9 * N + L
              · have ep : p = N := by omega
                have eq : q = L := by omega
                subst ep eq
                rw [setH_s, if_pos (Or.inr ⟨rfl, Nat.le_refl _⟩)]
              · rw [setH_n e, x1 p q hp hq]
                by_cases c : N + 1 ≤ p ∨ (p = N ∧ L + 1 ≤ q)
                · rw [if_pos c, if_pos (by omega)]
                · rw [if_neg c, if_neg (by omega)]
            refine OK_if (fun c => ?_) (fun c => ?_)
            · rw [if_neg c] at es
              exact fin _ es.symm
            · rw [if_pos (by omega)] at es
              rw [t3, OK_bindE, OK_some]
              exact fin _ es.symm
        · rw [y1 p q hp hq]
          by_cases c : N + 1 ≤ p
          · rw [if_pos c, if_pos (Or.inl c)]
          · rw [if_neg c]
            by_cases d : p = N ∧ sy ≤ q
            · rw [if_pos (Or.inr d), lcP_z (Or.inr d.2)]
            · rw [if_neg (by omega)]
        · rw [OK_some, LQ_l]
          exact ⟨N, by omega, by omega, g, rfl, hg2⟩
    · rw [z1 _ (by omega)]
      by_cases c : sx ≤ p
      · rw [if_pos c, lcP_z (Or.inl c)]
      · rw [if_neg c]
theorem fillT_m {i j sx sy : Nat} {h : Hp} {fw gw : Nat → Int} (hi : i < 40) (hj : j < 40) (hsx : sx ≤ 8) (hsy : sy ≤ 8) (ei : h 164 i = (sx : Int)) (ej : h 164 j = (sy : Int)) (hf : ∀ p, h 165 (8 * i + p) = fw p) (hg : ∀ p, h 165 (8 * j + p) = gw p) (bf : ∀ p, 0 ≤ fw p ∧ fw p ≤ 63) (bg : ∀ p, 0 ≤ gw p ∧ gw p ≤ 63) : OK (iter (X12_standsBoth_l5 (i : Int) (j : Int)) FU ((sx : Int), h)) (fun h' => (∀ p q, p ≤ sx → q ≤ sy → h' 183 (9 * p + q) = lcP fw gw sx sy p q) ∧ ∀ a, a ≠ 183 → h' a = h a) := by
  refine iter_dn (fun n s => n ≤ sx + 1 ∧ ∃ h' : Hp, s = ((n : Int) - 1, h') ∧ (∀ p q, n ≤ p → p ≤ sx → q ≤ sy → h' 183 (9 * p + q) = lcP fw gw sx sy p q) ∧ ∀ a, a ≠ 183 → h' a = h a) _ (fun n s hI => ?_) (sx + 1) (by omega) ⟨Nat.le_refl _, h, by rw [show ((sx + 1 : Nat) : Int) - 1 = (sx : Int) from by omega], fun p q h1 h2 => by omega, fun _ _ => rfl⟩
  obtain ⟨hn, h', rfl, y1, y2⟩ := hI
  unfold X12_standsBoth_l5
  dsimp only
  cases n with
  | zero =>
    refine OK_gd (by decide) ?_
    rw [OK_some, LQ_r]
    exact ⟨fun p q hp hq => y1 p q (Nat.zero_le _) hp hq, y2⟩
  | succ N =>
    have e1 : ((N + 1 : Nat) : Int) - 1 = (N : Int) := by omega
    rw [e1]
    simp only [w32_id (z := (N : Int)) (by omega) (by omega)]
    refine OK_gn (by omega) (OK_gi (by omega) (by omega) (by omega) ?_)
    simp only [wtn j rfl (by omega), y2 164 (by decide), ej]
    rw [OK_bindE]
    refine OK_mono (iter_dn (fun l s => l ≤ sy + 1 ∧ ∃ g : Hp, s = ((l : Int) - 1, g) ∧ (∀ p q, N + 1 ≤ p ∨ (p = N ∧ l ≤ q) → p ≤ sx → q ≤ sy → g 183 (9 * p + q) = lcP fw gw sx sy p q) ∧ ∀ a, a ≠ 183 → g a = h a) (fun g => (∀ p q, N ≤ p → p ≤ sx → q ≤ sy → g 183 (9 * p + q) = lcP fw gw sx sy p q) ∧ ∀ a, a ≠ 183 → g a = h a) (fun l s hI => ?_) (sy + 1) (by omega) ⟨Nat.le_refl _, h', by rw [show ((sy + 1 : Nat) : Int) - 1 = (sy : Int) from by omega], fun p q h1 h2 h3 => y1 p q (by omega) h2 h3, y2⟩) (fun g hg2 => ?_)
    · obtain ⟨hl, g, rfl, x1, x2⟩ := hI
      unfold X12_standsBoth_l12 X12_standsBoth_j70 X12_standsBoth_j102 X12_standsBoth_j103
      dsimp only
      cases l with
      | zero =>
        refine OK_gd (by decide) ?_
        rw [OK_some, LQ_r]
        exact ⟨fun p q h1 h2 h3 => x1 p q (by omega) h2 h3, x2⟩
      | succ L =>
        have e2 : ((L + 1 : Nat) : Int) - 1 = (L : Int) := by omega
        have g16 : g 164 = h 164 := x2 164 (by decide)
        have g17 : g 165 = h 165 := x2 165 (by decide)
        have fin : ∀ v, v = lcP fw gw sx sy N L → OK (if inb (9 * (N : Int) + (L : Int)) 81 then some (Sum.inl ((L : Int) + (-1), setH g 183 ((w32 (9 * (N : Int) + (L : Int))).toNat) v)) else none) (LQ (fun (s' : Int × Hp) => ∃ m, m < L + 1 ∧ (m ≤ sy + 1 ∧ ∃ g : Hp, s' = ((m : Int) - 1, g) ∧ (∀ p q, N + 1 ≤ p ∨ (p = N ∧ m ≤ q) → p ≤ sx → q ≤ sy → g 183 (9 * p + q) = lcP fw gw sx sy p q) ∧ ∀ a, a ≠ 183 → g a = h a)) (fun (g : Hp) => (∀ p q, N ≤ p → p ≤ sx → q ≤ sy → g 183 (9 * p + q) = lcP fw gw sx sy p q) ∧ ∀ a, a ≠ 183 → g a = h a)) := by
          intro v hv
          subst hv
          refine OK_gi (by omega) (by omega) (by omega) ?_
          simp only [wtn (v := 9 * (N : Int) + (L : Int)) (9 * N + L) (by omega) (by omega)]
          rw [OK_some, LQ_l]
          refine ⟨L, by omega, by omega, _, rfl, fun p q h1 h2 h3 => ?_, fun a ha => by rw [setH_o ha, x2 a ha]⟩
          by_cases e : 9 * p + q = 9 * N + L
          · have ep : p = N := by omega
            have eq : q = L := by omega
            subst ep eq
            rw [setH_s]
          · rw [setH_n e]
            exact x1 p q (by omega) h2 h3
        rw [e2]
        simp only [w32_id (z := (L : Int)) (by omega) (by omega)]
        simp only [g16, g17]
        refine OK_gn (by omega) (OK_gi (by omega) (by omega) (by omega) ?_)
        simp only [wtn i rfl (by omega), wtn j rfl (by omega), ei, ej]
        simp only [w32_id (z := (sx : Int)) (by omega) (by omega), w32_id (z := (sy : Int)) (by omega) (by omega), w32_id (z := (N : Int)) (by omega) (by omega)]
        refine OK_if (fun c => ?_) (fun c => OK_gi (by omega) (by omega) (by omega) (OK_if (fun d => ?_) (fun d => ?_)))
        · exact fin 0 (by rw [lcP_z (Or.inl (by omega))])
        · exact fin 0 (by rw [lcP_z (Or.inr (by omega))])
        · have t1 := x1 (N + 1) L (by omega) (by omega) (by omega)
          have t2 := x1 N (L + 1) (by omega) (by omega) (by omega)
          have t3 := x1 (N + 1) (L + 1) (by omega) (by omega) (by omega)
          simp only [wtn (v := 9 * (N : Int) + 9 + (L : Int)) (9 * (N + 1) + L) (by omega) (by omega), wtn (v := 9 * (N : Int) + (L : Int) + 1) (9 * N + (L + 1)) (by omega) (by omega), wtn (v := 9 * (N : Int) + 10 + (L : Int)) (9 * (N + 1) + (L + 1)) (by omega) (by omega), wtn (v := 8 * (i : Int) + (N : Int)) (8 * i + N) (by omega) (by omega), wtn (v := 8 * (j : Int) + (L : Int)) (8 * j + L) (by omega) (by omega), t1, t2, t3, hf, hg]
          have b1 := (lcP_bd fw gw sx sy (N + 1) L).2.1
          have b2 := (lcP_bd fw gw sx sy N (L + 1)).2.1
          have b1' := (lcP_bd fw gw sx sy (N + 1) L).1
          have b2' := (lcP_bd fw gw sx sy N (L + 1)).1
          have cf := bf N
          have cg := bg L
          have es := lcP_s (fw := fw) (gw := gw) (sx := sx) (sy := sy) (p := N) (q := L) (by omega) (by omega)
          simp only [w32_id (z := fw N) (by omega) (by omega), w32_id (z := gw L) (by omega) (by omega), w32_id (z := lcP fw gw sx sy (N + 1) L) (by omega) (by omega), w32_id (z := lcP fw gw sx sy N (L + 1)) (by omega) (by omega)]
          refine OK_gi (by omega) (by omega) (by omega) (OK_gi (by omega) (by omega) (by omega) (OK_if (fun f => OK_gi (by omega) (by omega) (by omega) ?_) (fun f => OK_gi (by omega) (by omega) (by omega) ?_)))
          · refine OK_gi (by omega) (by omega) (by omega) (OK_gi (by omega) (by omega) (by omega) (OK_if (fun c2 => ?_) (fun c2 => OK_gi (by omega) (by omega) (by omega) ?_)))
            · rw [if_neg c2] at es
              exact fin _ (by omega)
            · rw [if_pos (by omega)] at es
              exact fin _ es.symm
          · refine OK_gi (by omega) (by omega) (by omega) (OK_gi (by omega) (by omega) (by omega) (OK_if (fun c2 => ?_) (fun c2 => OK_gi (by omega) (by omega) (by omega) ?_)))
            · rw [if_neg c2] at es
              exact fin _ (by omega)
            · rw [if_pos (by omega)] at es
              exact fin _ es.symm
    · rw [OK_some, LQ_l]
      exact ⟨N, by omega, by omega, g, rfl, hg2⟩
