/-! what stood there: the least row -/
theorem fstW_z (fw : Nat → Int) (w : Int) (p : Nat) : fstW fw w p 0 = p := rfl
theorem fstW_n (fw : Nat → Int) (w : Int) (p d : Nat) : fstW fw w p (d + 1) = if fw p = w then p else fstW fw w (p + 1) d := rfl
theorem firstOf_s {j sy p : Nat} {w : Int} {h : Hp} {gw : Nat → Int} (hj : j < 40) (hsy : sy ≤ 8) (ej : h 16 j = (sy : Int)) (hg : ∀ p, p < sy → h 17 (8 * j + p) = gw p) (bg : ∀ p, 0 ≤ gw p ∧ gw p ≤ 63) (hw : 0 ≤ w ∧ w ≤ 63) (hp : p ≤ sy) : X1_firstOf (j : Int) w (p : Int) h = some ((fstW gw w p (sy - p) : Nat) : Int) := by
  have key : OK (iter (X1_firstOf_l2 (j : Int) w h) FU (p : Int)) (fun z => z = ((fstW gw w p (sy - p) : Nat) : Int)) := by
    refine iter_dn (fun n s => ∃ q : Nat, s = (q : Int) ∧ q + n = sy ∧ fstW gw w p (sy - p) = fstW gw w q n) _ (fun n s hI => ?_) (sy - p) (by omega) ⟨p, rfl, by omega, rfl⟩
    obtain ⟨q, rfl, hq, hf⟩ := hI
    unfold X1_firstOf_l2
    rw [bitSize_e j rfl hj]
    rw [OK_bindE, OK_some]
    simp only [ej, w32_id (z := (q : Int)) (by omega) (by omega), w32_id (z := (sy : Int)) (by omega) (by omega)]
    cases n with
    | zero =>
      refine OK_gd (by omega) ?_
      rw [OK_some, LQ_r, hf, fstW_z]
    | succ N =>
      have cg := bg q
      refine OK_gn (by omega) ?_
      rw [bitWord_e (8 * j + q) (by omega) (by omega)]
      rw [OK_bindE, OK_some]
      simp only [hg q (by omega), w32_id (z := gw q) (by omega) (by omega), w32_id (z := w) (by omega) (by omega)]
      rw [fstW_n] at hf
      refine OK_if (fun c => ?_) (fun c => ?_)
      · rw [if_pos c] at hf
        rw [OK_some, LQ_r, hf]
      · rw [if_neg c] at hf
        rw [OK_some, LQ_l]
        exact ⟨N, by omega, q + 1, rfl, by omega, hf⟩
  unfold X1_firstOf
  obtain ⟨z, ez, hz⟩ := OK_ex key
  rw [ez, hz, Option.bind_some]
theorem findsWord_s {j sy p : Nat} {w : Int} {h : Hp} {gw : Nat → Int} (hj : j < 40) (hsy : sy ≤ 8) (ej : h 164 j = (sy : Int)) (hg : ∀ p, h 165 (8 * j + p) = gw p) (bg : ∀ p, 0 ≤ gw p ∧ gw p ≤ 63) (hw : 0 ≤ w ∧ w ≤ 63) (hp : p ≤ sy) : X12_findsWord (j : Int) (p : Int) w h = some ((fstW gw w p (sy - p) : Nat) : Int) := by
  have key : OK (iter (X12_findsWord_l2 (j : Int) w h) FU (p : Int)) (fun z => z = ((fstW gw w p (sy - p) : Nat) : Int)) := by
    refine iter_dn (fun n s => ∃ q : Nat, s = (q : Int) ∧ q + n = sy ∧ fstW gw w p (sy - p) = fstW gw w q n) _ (fun n s hI => ?_) (sy - p) (by omega) ⟨p, rfl, by omega, rfl⟩
    obtain ⟨q, rfl, hq, hf⟩ := hI
    unfold X12_findsWord_l2
    refine OK_gi (by omega) (by omega) (by omega) ?_
    simp only [wtn j rfl (by omega), ej, w32_id (z := (q : Int)) (by omega) (by omega), w32_id (z := (sy : Int)) (by omega) (by omega)]
    cases n with
    | zero =>
      refine OK_gd (by omega) ?_
      rw [OK_some, LQ_r, hf, fstW_z]
    | succ N =>
      have cg := bg q
      refine OK_gn (by omega) (OK_gi (by omega) (by omega) (by omega) ?_)
      simp only [wtn (v := 8 * (j : Int) + (q : Int)) (8 * j + q) (by omega) (by omega), hg q, w32_id (z := gw q) (by omega) (by omega), w32_id (z := w) (by omega) (by omega)]
      rw [fstW_n] at hf
      refine OK_if (fun c => ?_) (fun c => ?_)
      · rw [if_pos c] at hf
        rw [OK_some, LQ_r, hf]
      · rw [if_neg c] at hf
        rw [OK_some, LQ_l]
        exact ⟨N, by omega, q + 1, rfl, by omega, hf⟩
  unfold X12_findsWord
  obtain ⟨z, ez, hz⟩ := OK_ex key
  rw [ez, hz, Option.bind_some]
theorem leads_s {i j sx sy p q w : Nat} {h : Hp} {fw gw : Nat → Int} (hi : i < 40) (hj : j < 40) (hsx : sx ≤ 8) (hsy : sy ≤ 8) (ei : h 164 i = (sx : Int)) (ej : h 164 j = (sy : Int)) (hf : ∀ p, h 165 (8 * i + p) = fw p) (hg : ∀ p, h 165 (8 * j + p) = gw p) (bf : ∀ p, 0 ≤ fw p ∧ fw p ≤ 63) (bg : ∀ p, 0 ≤ gw p ∧ gw p ≤ 63) (hw : w ≤ 63) (hp : p ≤ sx) (hq : q ≤ sy) (ht : ∀ p q, p ≤ sx → q ≤ sy → h 183 (9 * p + q) = lcP fw gw sx sy p q) : X12_leads (i : Int) (j : Int) (p : Int) (q : Int) (w : Int) h = some (if leadB fw gw sx sy p q w = true then 1 else 0) := by
  unfold X12_leads leadB
  rw [findsWord_s hi hsx ei hf bf (by omega) hp, Option.bind_some, findsWord_s hj hsy ej hg bg (by omega) hq, Option.bind_some]
  have g1 := fstW_s fw (w : Int) (sx - p) p
  have g2 := fstW_s gw (w : Int) (sy - q) q
  generalize fstW fw (w : Int) p (sx - p) = r at g1 ⊢
  generalize fstW gw (w : Int) q (sy - q) = s at g2 ⊢
  rw [if_inb (by omega) (by omega) (by omega)]
  simp only [wtn i rfl (by omega), wtn j rfl (by omega), ei, ej, w32_id (z := (sx : Int)) (by omega) (by omega), w32_id (z := (sy : Int)) (by omega) (by omega), w32_id (z := (r : Int)) (by omega) (by omega), w32_id (z := (s : Int)) (by omega) (by omega)]
  by_cases c1 : r < sx
  · rw [if_neg (by omega), if_inb (by omega) (by omega) (by omega)]
    by_cases c2 : s < sy
    · rw [if_neg (by omega), if_inb (by omega) (by omega) (by omega), if_inb (by omega) (by omega) (by omega)]
      simp only [wtn (v := 9 * (r : Int) + 10 + (s : Int)) (9 * (r + 1) + (s + 1)) (by omega) (by omega), wtn (v := 9 * (p : Int) + (q : Int)) (9 * p + q) (by omega) (by omega), ht (r + 1) (s + 1) (by omega) (by omega), ht p q hp hq]
      have b1 := (lcP_bd fw gw sx sy (r + 1) (s + 1)).2.1
      have b2 := (lcP_bd fw gw sx sy p q).2.1
      have b3 := (lcP_bd fw gw sx sy (r + 1) (s + 1)).1
      have b4 := (lcP_bd fw gw sx sy p q).1
      simp only [w32_id (z := lcP fw gw sx sy (r + 1) (s + 1) + 1) (by omega) (by omega), w32_id (z := lcP fw gw sx sy p q) (by omega) (by omega)]
      by_cases c3 : lcP fw gw sx sy (r + 1) (s + 1) + 1 = lcP fw gw sx sy p q
      · rw [if_neg (fun z => z c3), decide_eq_true ⟨c1, c2, c3⟩]
        rfl
      · rw [if_pos c3, decide_eq_false (fun z => c3 z.2.2)]
        rfl
    · rw [if_pos (by omega), decide_eq_false (fun z => c2 z.2.1)]
      rfl
  · rw [if_pos (by omega), decide_eq_false (fun z => c1 z.1)]
    rfl
/-- the least word of the one side -/
theorem least_x {i j sx sy k n : Nat} {h : Hp} {fw gw : Nat → Int} (hi : i < 40) (hj : j < 40) (hsx : sx ≤ 8) (hsy : sy ≤ 8) (ej : h 16 j = (sy : Int)) (hf : ∀ p, p < sx → h 17 (8 * i + p) = fw p) (hg : ∀ p, p < sy → h 17 (8 * j + p) = gw p) (bf : ∀ p, 0 ≤ fw p ∧ fw p ≤ 63) (bg : ∀ p, 0 ≤ gw p ∧ gw p ≤ 63) (ht : ∀ p q, p ≤ 8 → q ≤ 8 → h 59 (9 * p + q) = lcP fw gw sx sy p q) (hn : lcP fw gw sx sy 0 0 = (n : Int)) (hk : k < n) : OK (iter (X1_common_l39 (i : Int) (j : Int) (sx : Int) (sy : Int) (((stdS fw gw sx sy k).2 : Nat) : Int) (n : Int) (k : Int)) FU (64, (((stdS fw gw sx sy k).1 : Nat) : Int), (((stdS fw gw sx sy k).2 : Nat) : Int), (((stdS fw gw sx sy k).1 : Nat) : Int), h)) (fun r => r = (((stdW fw gw sx sy k : Nat) : Int), (((stdS fw gw sx sy (k + 1)).1 : Nat) : Int), (((stdS fw gw sx sy (k + 1)).2 : Nat) : Int), h)) := by
  have nb := (lcP_bd fw gw sx sy 0 0).2.2 (Nat.zero_le _)
  obtain ⟨hp, hq, hpq⟩ := stdS_g (fw := fw) (gw := gw) (sx := sx) (sy := sy) bf k (by omega)
  obtain ⟨w1, w2, w3⟩ := stdW_s (fw := fw) (gw := gw) (sx := sx) (sy := sy) bf (i := k) (by omega)
  rw [stdS_s]
  dsimp only
  generalize stdW fw gw sx sy k = W at w1 w2 w3 ⊢
  generalize (stdS fw gw sx sy k).1 = p at hp hpq w1 w3 ⊢
  generalize (stdS fw gw sx sy k).2 = q at hq hpq w1 w3 ⊢
  -- what is good
  refine iter_dn (fun d s => ∃ t : Nat, t + d = sx ∧ p ≤ t ∧ ∃ (l a b : Int), s = (l, a, b, (t : Int), h) ∧ ((l = 64 ∧ ∀ r, p ≤ r → r < t → ¬ (fstW gw (fw r) q (sy - q) < sy ∧ lcP fw gw sx sy (r + 1) (fstW gw (fw r) q (sy - q) + 1) + 1 = lcP fw gw sx sy p q)) ∨ (∃ V : Nat, l = (V : Int) ∧ V < 64 ∧ leadB fw gw sx sy p q V = true ∧ a = ((fstW fw (V : Int) p (sx - p) + 1 : Nat) : Int) ∧ b = ((fstW gw (V : Int) q (sy - q) + 1 : Nat) : Int) ∧ ∀ r, p ≤ r → r < t → (fstW gw (fw r) q (sy - q) < sy ∧ lcP fw gw sx sy (r + 1) (fstW gw (fw r) q (sy - q) + 1) + 1 = lcP fw gw sx sy p q) → (V : Int) ≤ fw r))) _ (fun d s hI => ?_) (sx - p) (by omega) ⟨p, by omega, Nat.le_refl _, 64, _, _, rfl, Or.inl ⟨rfl, fun r h1 h2 => by omega⟩⟩
  obtain ⟨t, htd, hpt, l, a, b, rfl, hc⟩ := hI
  have lb : 0 ≤ l ∧ l ≤ 64 := by
    rcases hc with hc | ⟨V, h1, h2, -⟩ <;> omega
  unfold X1_common_l39 X1_common_j84
  dsimp only
  simp only [w32_id (z := (t : Int)) (by omega) (by omega), w32_id (z := (sx : Int)) (by omega) (by omega)]
  cases d with
  | zero =>
    refine OK_gd (by omega) ?_
    rw [OK_some, LQ_r]
    have ets : t = sx := by omega
    subst ets
    have w1' := w1
    unfold leadB at w1'
    rw [decide_eq_true_iff] at w1'
    obtain ⟨v1, v2, v3⟩ := w1'
    have g1 := fstW_s fw (W : Int) (t - p) p
    have eW := g1.2.2.1 (by omega)
    have gr : (fstW gw (fw (fstW fw (W : Int) p (t - p))) q (sy - q) < sy ∧ lcP fw gw t sy (fstW fw (W : Int) p (t - p) + 1) (fstW gw (fw (fstW fw (W : Int) p (t - p))) q (sy - q) + 1) + 1 = lcP fw gw t sy p q) := by
      rw [eW]
      exact ⟨v2, v3⟩
    rcases hc with ⟨-, hc⟩ | ⟨V, rfl, h2, h3, rfl, rfl, h6⟩
    · exact absurd gr (hc _ g1.1 v1)
    · have l1 := h6 _ g1.1 v1 gr
      rw [eW] at l1
      have l2 : ¬ V < W := fun z => by
        rw [w3 V z] at h3
        cases h3
      have : V = W := by omega
      subst this
      rfl
  | succ D =>
    have cf := bf t
    refine OK_gn (by omega) ?_
    rw [bitWord_e (8 * i + t) (by omega) (by omega)]
    rw [OK_bindE, OK_some]
    rw [hf t (by omega), firstOf_s hj hsy ej hg bg (w := fw t) cf hq]
    rw [OK_bindE, OK_some]
    simp only [w32_id (z := l) (by omega) (by omega), w32_id (z := fw t) (by omega) (by omega), w32_id (z := (sy : Int)) (by omega) (by omega)]
    have g2 := fstW_s gw (fw t) (sy - q) q
    simp only [w32_id (z := ((fstW gw (fw t) q (sy - q) : Nat) : Int)) (by omega) (by omega)]
    have skip : ((fstW gw (fw t) q (sy - q) < sy ∧ lcP fw gw sx sy (t + 1) (fstW gw (fw t) q (sy - q) + 1) + 1 = lcP fw gw sx sy p q) → l ≤ fw t) → OK (some (Sum.inl (l, a, b, (t : Int) + 1, h))) (LQ (fun s' => ∃ m, m < D + 1 ∧ ∃ t : Nat, t + m = sx ∧ p ≤ t ∧ ∃ (l a b : Int), s' = (l, a, b, (t : Int), h) ∧ ((l = 64 ∧ ∀ r, p ≤ r → r < t → ¬ (fstW gw (fw r) q (sy - q) < sy ∧ lcP fw gw sx sy (r + 1) (fstW gw (fw r) q (sy - q) + 1) + 1 = lcP fw gw sx sy p q)) ∨ (∃ V : Nat, l = (V : Int) ∧ V < 64 ∧ leadB fw gw sx sy p q V = true ∧ a = ((fstW fw (V : Int) p (sx - p) + 1 : Nat) : Int) ∧ b = ((fstW gw (V : Int) q (sy - q) + 1 : Nat) : Int) ∧ ∀ r, p ≤ r → r < t → (fstW gw (fw r) q (sy - q) < sy ∧ lcP fw gw sx sy (r + 1) (fstW gw (fw r) q (sy - q) + 1) + 1 = lcP fw gw sx sy p q) → (V : Int) ≤ fw r))) (fun r => r = ((W : Int), ((fstW fw (W : Int) p (sx - p) + 1 : Nat) : Int), ((fstW gw (W : Int) q (sy - q) + 1 : Nat) : Int), h))) := by
      intro hs
      rw [OK_some, LQ_l]
      refine ⟨D, by omega, t + 1, by omega, by omega, l, a, b, rfl, ?_⟩
      rcases hc with ⟨h0, hc⟩ | ⟨V, h1, h2, h3, h4, h5, h6⟩
      · refine Or.inl ⟨h0, fun r h1 h2 => ?_⟩
        by_cases e : r = t
        · subst e
          intro z
          have := hs z
          omega
        · exact hc r h1 (by omega)
      · refine Or.inr ⟨V, h1, h2, h3, h4, h5, fun r h7 h8 z => ?_⟩
        by_cases e : r = t
        · subst e
          have := hs z
          omega
        · exact h6 r h7 (by omega) z
    refine OK_if (fun c1 => skip (fun _ => c1)) (fun c1 => OK_if (fun c2 => skip (fun z => by omega)) (fun c2 => ?_))
    rw [tail_e (p := t + 1) (q := fstW gw (fw t) q (sy - q) + 1) (by omega) (by omega) (by omega) (by omega), OK_bindE, OK_some, ht _ _ (by omega) (by omega)]
    have b1 := (lcP_bd fw gw sx sy (t + 1) (fstW gw (fw t) q (sy - q) + 1)).2.1
    have b3 := (lcP_bd fw gw sx sy (t + 1) (fstW gw (fw t) q (sy - q) + 1)).1
    simp only [w32_id (z := lcP fw gw sx sy (t + 1) (fstW gw (fw t) q (sy - q) + 1)) (by omega) (by omega), w32_id (z := (n : Int) - (k : Int) - 1) (by omega) (by omega)]
    refine OK_if (fun c3 => skip (fun z => by omega)) (fun c3 => ?_)
    rw [OK_some, LQ_l]
    -- this one is good, and its word is less
    obtain ⟨V, eV⟩ := Int.eq_ofNat_of_zero_le cf.1
    have gt : lcP fw gw sx sy (t + 1) (fstW gw (fw t) q (sy - q) + 1) + 1 = lcP fw gw sx sy p q := by omega
    have lt : fstW gw (fw t) q (sy - q) < sy := by omega
    have f1 := fstW_le (fw := fw) (w := fw t) (p := p) (s := sx) (i := t) hpt (by omega) rfl
    have g1 := fstW_s fw (fw t) (sx - p) p
    have e1 := g1.2.2.1 (by omega)
    have gr : lcP fw gw sx sy (fstW fw (fw t) p (sx - p) + 1) (fstW gw (fw t) q (sy - q) + 1) + 1 = lcP fw gw sx sy p q := by
      have e := lcP_s (fw := fw) (gw := gw) (sx := sx) (sy := sy) (p := fstW fw (fw t) p (sx - p)) (q := fstW gw (fw t) q (sy - q)) (by omega) (by omega)
      rw [e1, g2.2.2.1 (by omega), if_pos rfl] at e
      have l1 := lcP_le (fw := fw) (gw := gw) (sx := sx) (sy := sy) (p := p) (q := q) (p' := fstW fw (fw t) p (sx - p)) (q' := fstW gw (fw t) q (sy - q)) g1.1 g2.1
      have l2 := lcP_le (fw := fw) (gw := gw) (sx := sx) (sy := sy) (p := fstW fw (fw t) p (sx - p) + 1) (q := fstW gw (fw t) q (sy - q) + 1) (p' := t + 1) (q' := fstW gw (fw t) q (sy - q) + 1) (by omega) (by omega)
      omega
    have er : fstW fw (fw t) p (sx - p) = t := by
      by_cases z : fstW fw (fw t) p (sx - p) = t
      · exact z
      · exfalso
        have hlt : fstW fw (fw t) p (sx - p) < t := by omega
        have gg : (fstW gw (fw (fstW fw (fw t) p (sx - p))) q (sy - q) < sy ∧ lcP fw gw sx sy (fstW fw (fw t) p (sx - p) + 1) (fstW gw (fw (fstW fw (fw t) p (sx - p))) q (sy - q) + 1) + 1 = lcP fw gw sx sy p q) := by
          rw [e1]
          exact ⟨lt, gr⟩
        rcases hc with ⟨h0, hc⟩ | ⟨V', h1, h2, h3, h4, h5, h6⟩
        · exact hc _ g1.1 hlt gg
        · have := h6 _ g1.1 hlt gg
          rw [e1] at this
          omega
    have hV : V < 64 := by omega
    refine ⟨D, by omega, t + 1, by omega, by omega, fw t, _, _, rfl, Or.inr ⟨V, eV, hV, ?_, ?_, ?_, fun r h7 h8 z => ?_⟩⟩
    · unfold leadB
      rw [decide_eq_true_iff, ← eV]
      exact ⟨by omega, lt, gr⟩
    · rw [← eV, er]
      rfl
    · rw [← eV]
      rfl
    · by_cases e : r = t
      · subst e
        omega
      · rcases hc with ⟨h0, hc⟩ | ⟨V', h1, h2, h3, h4, h5, h6⟩
        · exact absurd z (hc r h7 (by omega))
        · have := h6 r h7 (by omega) z
          omega
theorem common_x {i j sx sy : Nat} {h : Hp} {fw gw : Nat → Int} (hi : i < 40) (hj : j < 40) (hsx : sx ≤ 8) (hsy : sy ≤ 8) (ei : h 16 i = (sx : Int)) (ej : h 16 j = (sy : Int)) (hf : ∀ p, p < sx → h 17 (8 * i + p) = fw p) (hg : ∀ p, p < sy → h 17 (8 * j + p) = gw p) (bf : ∀ p, 0 ≤ fw p ∧ fw p ≤ 63) (bg : ∀ p, 0 ≤ gw p ∧ gw p ≤ 63) : OK (X1_common (i : Int) (j : Int) h) (fun z => z.1 = lcP fw gw sx sy 0 0 ∧ (∀ w : Nat, (w : Int) < lcP fw gw sx sy 0 0 → z.2 60 w = ((stdW fw gw sx sy w : Nat) : Int)) ∧ ∀ a, a ≠ 59 → a ≠ 60 → z.2 a = h a) := by
  unfold X1_common
  rw [bitSize_e i rfl hi, OK_bindE, OK_some, bitSize_e j rfl hj, OK_bindE, OK_some, ei, ej, OK_bindE]
  refine OK_mono (fillT_x hi hj hsx hsy ei ej hf hg bf bg) (fun g hg2 => ?_)
  obtain ⟨gt, gf⟩ := hg2
  have t0 : g 59 0 = lcP fw gw sx sy 0 0 := gt 0 0 (by omega) (by omega)
  obtain ⟨n, hn⟩ := Int.eq_ofNat_of_zero_le (lcP_bd fw gw sx sy 0 0).1
  have nb := (lcP_bd fw gw sx sy 0 0).2.2 (Nat.zero_le _)
  rw [at_e (a := 59) (n := 81) (v := 0) 0 rfl (by omega) (by omega), OK_bindE, OK_some, t0, hn, OK_bindE]
  refine OK_mono (iter_up (fun k s => k ≤ n ∧ ∃ g' : Hp, s = ((((stdS fw gw sx sy k).1 : Nat) : Int), (((stdS fw gw sx sy k).2 : Nat) : Int), (k : Int), g') ∧ (∀ w, w < k → g' 60 w = ((stdW fw gw sx sy w : Nat) : Int)) ∧ ∀ a, a ≠ 60 → g' a = g a) (fun g' => (∀ w, w < n → g' 60 w = ((stdW fw gw sx sy w : Nat) : Int)) ∧ ∀ a, a ≠ 60 → g' a = g a) n (by omega) (fun k s hk hI => ?_) ⟨Nat.zero_le _, g, rfl, fun w hw => by omega, fun _ _ => rfl⟩) (fun g' hg' => ?_)
  · obtain ⟨-, g', rfl, y1, y2⟩ := hI
    unfold X1_common_l25
    dsimp only
    simp only [w32_id (z := (k : Int)) (by omega) (by omega), w32_id (z := (n : Int)) (by omega) (by omega), show w32 8 = 8 from rfl]
    refine OK_if (fun c => ?_) (fun c => OK_gn (by omega) ?_)
    · rw [OK_some, LQ_r]
      exact ⟨fun w hw => y1 w (by omega), y2⟩
    · rw [OK_bindE]
      refine OK_mono (least_x (k := k) (n := n) (h := g') hi hj hsx hsy (by rw [y2 16 (by decide), gf 16 (by decide)]; exact ej) (fun p hp => by rw [y2 17 (by decide), gf 17 (by decide)]; exact hf p hp) (fun p hp => by rw [y2 17 (by decide), gf 17 (by decide)]; exact hg p hp) bf bg (fun p q hp hq => by rw [y2 59 (by decide)]; exact gt p q hp hq) hn (by omega)) (fun r hr => ?_)
      subst hr
      dsimp only
      refine OK_gi (by omega) (by omega) (by omega) ?_
      rw [OK_some, LQ_l, tn]
      refine ⟨by omega, by omega, _, rfl, fun w hw => ?_, fun a ha => by rw [setH_o ha, y2 a ha]⟩
      by_cases e : w = k
      · subst e
        rw [setH_s]
      · rw [setH_n e]
        exact y1 w (by omega)
  · rw [OK_some]
    refine ⟨rfl, fun w hw => hg'.1 w (by omega), fun a h1 h2 => ?_⟩
    dsimp only
    rw [hg'.2 a h2, gf a h1]
theorem both_m {i j sx sy : Nat} {h : Hp} {fw gw : Nat → Int} (hi : i < 40) (hj : j < 40) (hsx : sx ≤ 8) (hsy : sy ≤ 8) (ei : h 164 i = (sx : Int)) (ej : h 164 j = (sy : Int)) (hf : ∀ p, h 165 (8 * i + p) = fw p) (hg : ∀ p, h 165 (8 * j + p) = gw p) (bf : ∀ p, 0 ≤ fw p ∧ fw p ≤ 63) (bg : ∀ p, 0 ≤ gw p ∧ gw p ≤ 63) : OK (X12_standsBoth (i : Int) (j : Int) h) (fun z => z.1 = lcP fw gw sx sy 0 0 ∧ (∀ w : Nat, (w : Int) < lcP fw gw sx sy 0 0 → z.2 184 w = ((stdW fw gw sx sy w : Nat) : Int)) ∧ ∀ a, a ≠ 183 → a ≠ 184 → z.2 a = h a) := by
  unfold X12_standsBoth
  refine OK_gi (by omega) (by omega) (by omega) ?_
  simp only [wtn i rfl (by omega), ei]
  rw [OK_bindE]
  refine OK_mono (fillT_m hi hj hsx hsy ei ej hf hg bf bg) (fun g hg2 => ?_)
  obtain ⟨gt, gf⟩ := hg2
  have t0 : g 183 0 = lcP fw gw sx sy 0 0 := gt 0 0 (by omega) (by omega)
  obtain ⟨n, hn⟩ := Int.eq_ofNat_of_zero_le (lcP_bd fw gw sx sy 0 0).1
  have nb := (lcP_bd fw gw sx sy 0 0).2.2 (Nat.zero_le _)
  refine OK_gd (by decide) ?_
  simp only [wtn (v := 0) 0 rfl (by omega), t0, hn]
  rw [OK_bindE]
  refine OK_mono (iter_up (fun k s => k ≤ n ∧ ∃ g' : Hp, s = ((((stdS fw gw sx sy k).1 : Nat) : Int), (((stdS fw gw sx sy k).2 : Nat) : Int), (k : Int), g') ∧ (∀ w, w < k → g' 184 w = ((stdW fw gw sx sy w : Nat) : Int)) ∧ ∀ a, a ≠ 184 → g' a = g a) (fun g' => (∀ w, w < n → g' 184 w = ((stdW fw gw sx sy w : Nat) : Int)) ∧ ∀ a, a ≠ 184 → g' a = g a) n (by omega) (fun k s hk hI => ?_) ⟨Nat.zero_le _, g, rfl, fun w hw => by omega, fun _ _ => rfl⟩) (fun g' hg' => ?_)
  · obtain ⟨-, g', rfl, y1, y2⟩ := hI
    unfold X12_standsBoth_l127
    dsimp only
    simp only [w32_id (z := (k : Int)) (by omega) (by omega), w32_id (z := (n : Int)) (by omega) (by omega)]
    refine OK_if (fun c => ?_) (fun c => ?_)
    · rw [OK_some, LQ_r]
      exact ⟨fun w hw => y1 w (by omega), y2⟩
    · obtain ⟨hp, hq, hpq⟩ := stdS_g (fw := fw) (gw := gw) (sx := sx) (sy := sy) bf k (by omega)
      obtain ⟨w1, w2, w3⟩ := stdW_s (fw := fw) (gw := gw) (sx := sx) (sy := sy) bf (i := k) (by omega)
      have z16 : g' 164 = h 164 := by rw [y2 164 (by decide), gf 164 (by decide)]
      have z17 : g' 165 = h 165 := by rw [y2 165 (by decide), gf 165 (by decide)]
      rw [OK_bindE]
      refine OK_mono (iter_up (fun v s => v ≤ stdW fw gw sx sy k ∧ s = ((v : Int), g')) (fun r => r = (((stdW fw gw sx sy k : Nat) : Int), g')) (stdW fw gw sx sy k) (by omega) (fun v s hv hI => ?_) ⟨Nat.zero_le _, rfl⟩) (fun r hr => ?_)
      · obtain ⟨-, rfl⟩ := hI
        unfold X12_standsBoth_l132
        dsimp only
        rw [leads_s (w := v) hi hj hsx hsy (by rw [z16]; exact ei) (by rw [z16]; exact ej) (fun p => by rw [z17]; exact hf p) (fun p => by rw [z17]; exact hg p) bf bg (by omega) hp hq (fun p q h1 h2 => by rw [y2 183 (by decide)]; exact gt p q h1 h2), OK_bindE, OK_some]
        by_cases e : v = stdW fw gw sx sy k
        · subst e
          rw [if_pos w1]
          refine OK_gd (by decide) ?_
          rw [OK_some, LQ_r]
        · rw [if_neg (show ¬ leadB fw gw sx sy (stdS fw gw sx sy k).1 (stdS fw gw sx sy k).2 v = true by rw [w3 v (by omega)]; decide)]
          refine OK_gn (by decide) ?_
          rw [OK_some, LQ_l]
          exact ⟨by omega, by omega, rfl⟩
      · subst hr
        dsimp only
        refine OK_gi (by omega) (by omega) (by omega) ?_
        rw [tn]
        have k16 : (setH g' 184 k ((stdW fw gw sx sy k : Nat) : Int)) 164 = h 164 := by rw [setH_o (by decide), z16]
        have k17 : (setH g' 184 k ((stdW fw gw sx sy k : Nat) : Int)) 165 = h 165 := by rw [setH_o (by decide), z17]
        rw [findsWord_s hi hsx (by rw [k16]; exact ei) (fun p => by rw [k17]; exact hf p) bf (by omega) hp, OK_bindE, OK_some, findsWord_s hj hsy (by rw [k16]; exact ej) (fun p => by rw [k17]; exact hg p) bg (by omega) hq, OK_bindE, OK_some, OK_some, LQ_l]
        refine ⟨by omega, by omega, _, by rw [stdS_s]; rfl, fun w hw => ?_, fun a ha => by rw [setH_o ha, y2 a ha]⟩
        by_cases e : w = k
        · subst e
          rw [setH_s]
        · rw [setH_n e]
          exact y1 w (by omega)
  · rw [OK_some]
    refine ⟨rfl, fun w hw => hg'.1 w (by omega), fun a h1 h2 => ?_⟩
    dsimp only
    rw [hg'.2 a h2, gf a h1]
theorem stood_b {x m : Hp} (R : RS x m) {a b c : Int} (ha : I32 a) (hb : I32 b) (hc : I32 c) : OK (X11_stood a b c x) (fun z => OK (X12_stood a b c m) (fun w => z.1 = w.1 ∧ (∀ e, e ≠ 59 → e ≠ 60 → z.2 e = x e) ∧ (∀ e, e ≠ 183 → e ≠ 184 → w.2 e = m e))) := by
  obtain ⟨⟨⟨-, -, -, e311⟩, -, ⟨-, -, -, -, e16⟩, e17, -⟩, S⟩ := id R
  obtain ⟨⟨-, -, -, b5⟩, -, -, -, ⟨b164, b165⟩, -⟩ := id S
  unfold X11_stood X12_stood
  simp only [x_isB (h := x) (by omega) (by omega), m_isB (h := m) (by omega) (by omega), e311, I32_w ha, I32_w hb, I32_w hc, show w32 (-1) = -1 from rfl, Option.bind_some]
  by_cases d1 : 0 ≤ a ∧ a < m 150 5
  · by_cases d2 : 0 ≤ b ∧ b < m 150 5
    · simp only [if_pos d1, if_pos d2, q1, if_false]
      by_cases d3 : -1 ≤ c
      · rw [if_pos d3, if_pos d3]
        obtain ⟨i, rfl⟩ := Int.eq_ofNat_of_zero_le d1.1
        obtain ⟨j, rfl⟩ := Int.eq_ofNat_of_zero_le d2.1
        obtain ⟨sx, ei⟩ := Int.eq_ofNat_of_zero_le (b164 i).1
        obtain ⟨sy, ej⟩ := Int.eq_ofNat_of_zero_le (b164 j).1
        have bi := b164 i
        have bj := b164 j
        refine OK2_bind (OK_mono (common_x (fw := fun p => m 165 (8 * i + p)) (gw := fun p => m 165 (8 * j + p)) (sx := sx) (sy := sy) (by omega) (by omega) (by omega) (by omega) (by rw [e16]; exact ei) (by rw [e16]; exact ej) (fun p hp => e17 i p (by omega) (by omega)) (fun p hp => e17 j p (by omega) (by omega)) (fun p => b165 _) (fun p => b165 _)) (fun z hz => OK_mono (both_m (fw := fun p => m 165 (8 * i + p)) (gw := fun p => m 165 (8 * j + p)) (sx := sx) (sy := sy) (by omega) (by omega) (by omega) (by omega) ei ej (fun p => rfl) (fun p => rfl) (fun p => b165 _) (fun p => b165 _)) (fun w hw => ?_)))
        obtain ⟨z1, z2, z3⟩ := hz
        obtain ⟨w1, w2, w3⟩ := hw
        have nb := (lcP_bd (fun p => m 165 (8 * i + p)) (fun p => m 165 (8 * j + p)) sx sy 0 0).2.2 (Nat.zero_le _)
        have nb0 := (lcP_bd (fun p => m 165 (8 * i + p)) (fun p => m 165 (8 * j + p)) sx sy 0 0).1
        rw [z1, w1]
        generalize lcP (fun p => m 165 (8 * i + p)) (fun p => m 165 (8 * j + p)) sx sy 0 0 = n at nb nb0 z1 z2 w1 w2 ⊢
        simp only [w32_id (z := n) (by omega) (by omega)]
        by_cases d4 : c = -1
        · rw [if_neg (fun q => q d4), if_neg (fun q => q d4), OK_some, OK_some]
          exact ⟨rfl, z3, w3⟩
        · rw [if_pos d4, if_pos d4]
          by_cases d5 : n ≤ c
          · rw [if_pos d5, if_pos d5, OK_some, OK_some]
            exact ⟨rfl, z3, w3⟩
          · obtain ⟨k, rfl⟩ := Int.eq_ofNat_of_zero_le (show 0 ≤ c by omega)
            unfold X1_commonWord
            rw [if_neg d5, if_neg d5, at_e (a := 60) (n := 8) k rfl (by omega) (by omega), if_inb (by omega) (by omega) (by omega), Option.bind_some, Option.bind_some, OK_some, OK_some, tn]
            exact ⟨by dsimp only; rw [z2 k (by omega), w2 k (by omega)], z3, w3⟩
      · rw [if_neg d3, if_neg d3, OK_some, OK_some]
        exact ⟨rfl, fun _ _ _ => rfl, fun _ _ _ => rfl⟩
    · simp only [if_pos d1, if_neg d2, q0, q1, if_true, if_false]
      exact ⟨rfl, fun _ _ _ => rfl, fun _ _ _ => rfl⟩
  · simp only [if_neg d1, q0, if_true]
    exact ⟨rfl, fun _ _ _ => rfl, fun _ _ _ => rfl⟩
