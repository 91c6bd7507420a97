/-! HOW FAR, HOW NEAR, on the model's side: cell 182 is the row -/
theorem starts_s {i s : Nat} {h : Hp} (hi : i < 40) (hs : s ≤ 8) (es : h 164 i = (s : Int)) : OK (X12_starts (i : Int) h) (fun h' => (∀ a, a ≠ 182 → h' a = h a) ∧ ∀ p : Nat, p ≤ s → h' 182 p = (p : Int)) := by
  unfold X12_starts
  rw [OK_bindE]
  refine iter_up (fun p t => ∃ h', t = ((p : Int), h') ∧ (∀ a, a ≠ 182 → h' a = h a) ∧ ∀ q : Nat, q < p → h' 182 q = (q : Int)) _ (s + 1) (by omega) (fun p t hp hI => ?_) ⟨h, rfl, fun a _ => rfl, fun q hq => by omega⟩
  obtain ⟨h', rfl, hf, hr⟩ := hI
  unfold X12_starts_l2
  try dsimp only
  refine OK_gi (by omega) (by omega) (by omega) ?_
  simp only [wtn (v := (i : Int)) i rfl (by omega), hf 164 (by decide), es]
  simp (disch := omega) only [w32_id, OK_some, LQ_l, LQ_r, tn]
  refine OK_if (fun c => ?_) (fun c => ?_)
  · exact ⟨hf, fun q hq => hr q (by omega)⟩
  · refine OK_gi (by omega) (by omega) (by omega) ?_
    refine ⟨by omega, _, rfl, fun a ha => by rw [setH_o ha]; exact hf a ha, fun q hq => ?_⟩
    by_cases e : q = p
    · subst e
      exact setH_s
    · rw [setH_n e]
      exact hr q (by omega)
theorem goesOn_s {i s : Nat} {w : Int} {h : Hp} {r : Nat → Int} {n : Nat} (hi : i < 40) (hs : s ≤ 8) (es : h 164 i = (s : Int)) (hw : -2147483648 ≤ w ∧ w < 2147483648) (hb : ∀ p, 0 ≤ h 165 p ∧ h 165 p ≤ 63) (hn : n ≤ 1000) (hr : ∀ p : Nat, p ≤ s → h 182 p = r p) (hrb : ∀ p : Nat, (n : Int) - p ≤ r p ∧ (p : Int) - n ≤ r p ∧ (r p ≤ n ∨ r p ≤ p)) : OK (X12_goesOn (i : Int) w h) (fun h' => (∀ a, a ≠ 182 → h' a = h a) ∧ ∀ p : Nat, p ≤ s → h' 182 p = rNx (fun p => h 165 (8 * i + p)) w r p) := by
  unfold X12_goesOn
  refine OK_gi (by omega) (by omega) (by omega) (OK_gi (by omega) (by omega) (by omega) (OK_gi (by omega) (by omega) (by omega) ?_))
  rw [OK_bindE]
  have hB := fun p => rNx_bd (bw := fun p => h 165 (8 * i + p)) (w := w) hrb p
  refine iter_up (fun p t => ∃ h', t = (r p, ((p + 1 : Nat) : Int), h') ∧ (∀ a, a ≠ 182 → h' a = h a) ∧ (∀ q : Nat, q ≤ p → h' 182 q = rNx (fun p => h 165 (8 * i + p)) w r q) ∧ (∀ q : Nat, p < q → q ≤ s → h' 182 q = r q)) _ s (by omega) (fun p t hp hI => ?_) ⟨_, by rw [w32_0, ← hr 0 (by omega)]; rfl, fun a ha => setH_o ha, fun q hq => ?_, fun q hq hq2 => ?_⟩
  · obtain ⟨h', rfl, hf, h1, h2⟩ := hI
    unfold X12_goesOn_l15
    try dsimp only
    refine OK_gi (by omega) (by omega) (by omega) ?_
    simp only [wtn (v := (i : Int)) i rfl (by omega), hf 164 (by decide), es]
    rw [w32_id (z := (s : Int)) (by omega) (by omega)]
    rw [w32_id (z := ((p + 1 : Nat) : Int)) (by omega) (by omega)]
    refine OK_if (fun c => ?_) (fun c => ?_)
    · exact ⟨hf, fun q hq => h1 q (by omega)⟩
    · have c' : p < s := by omega
      refine OK_gi (by omega) (by omega) (by omega) ?_
      simp only [wtn (v := 8 * (i : Int) + ((p + 1 : Nat) : Int) - 1) (8 * i + p) (by omega) (by omega), hf 165 (by decide)]
      have b1 := hb (8 * i + p)
      have b2 := hrb p
      have b3 := hrb (p + 1)
      have b4 := hB p
      have b5 := hB (p + 1)
      have e1 := h1 p (Nat.le_refl _)
      have e2 := h2 (p + 1) (by omega) (by omega)
      have fin : ∀ z : Int, z = rNx (fun p => h 165 (8 * i + p)) w r (p + 1) → OK (X12_goesOn_j80 (i : Int) w (r (p + 1)) ((p + 1 : Nat) : Int) ((p + 1 : Nat) : Int) z h') (LQ (fun s' => p < s ∧ ∃ h'', s' = (r (p + 1), ((p + 1 + 1 : Nat) : Int), h'') ∧ (∀ a, a ≠ 182 → h'' a = h a) ∧ (∀ q : Nat, q ≤ p + 1 → h'' 182 q = rNx (fun p => h 165 (8 * i + p)) w r q) ∧ (∀ q : Nat, p + 1 < q → q ≤ s → h'' 182 q = r q)) (fun h' => (∀ a, a ≠ 182 → h' a = h a) ∧ ∀ p : Nat, p ≤ s → h' 182 p = rNx (fun p => h 165 (8 * i + p)) w r p)) := by
        intro z hz
        unfold X12_goesOn_j80
        refine OK_gi (by omega) (by omega) (by omega) ?_
        rw [wtn (v := ((p + 1 : Nat) : Int)) (p + 1) rfl (by omega), hz]
        refine ⟨c', _, rfl, fun a ha => by rw [setH_o ha]; exact hf a ha, fun q hq => ?_, fun q hq hq2 => ?_⟩
        · by_cases e : q = p + 1
          · rw [e]
            exact setH_s
          · rw [setH_n e]
            exact h1 q (by omega)
        · rw [setH_n (by omega)]
          exact h2 q (by omega) hq2
      have key : ∀ z : Int, z = (if h 165 (8 * i + p) = w then 0 else 1) → OK (X12_goesOn_j37 (i : Int) w ((p + 1 : Nat) : Int) (r p) z h') (LQ (fun s' => p < s ∧ ∃ h'', s' = (r (p + 1), ((p + 1 + 1 : Nat) : Int), h'') ∧ (∀ a, a ≠ 182 → h'' a = h a) ∧ (∀ q : Nat, q ≤ p + 1 → h'' 182 q = rNx (fun p => h 165 (8 * i + p)) w r q) ∧ (∀ q : Nat, p + 1 < q → q ≤ s → h'' 182 q = r q)) (fun h' => (∀ a, a ≠ 182 → h' a = h a) ∧ ∀ p : Nat, p ≤ s → h' 182 p = rNx (fun p => h 165 (8 * i + p)) w r p)) := by
        intro z hz
        have hz2 : 0 ≤ z ∧ z ≤ 1 := by split at hz <;> omega
        have hz3 : rNx (fun p => h 165 (8 * i + p)) w r (p + 1) = min (r p + z) (min (rNx (fun p => h 165 (8 * i + p)) w r p) (r (p + 1)) + 1) := by
          simp only [rNx]
          rw [hz]
        unfold X12_goesOn_j37
        refine OK_gi (by omega) (by omega) (by omega) (OK_gi (by omega) (by omega) (by omega) (OK_gi (by omega) (by omega) (by omega) ?_))
        rw [wtn (v := ((p + 1 : Nat) : Int) - 1) p (by omega) (by omega), wtn (v := ((p + 1 : Nat) : Int)) (p + 1) rfl (by omega), e1, e2]
        rw [w32_id (z := rNx (fun p => h 165 (8 * i + p)) w r p) (by omega) (by omega), w32_id (z := r (p + 1)) (by omega) (by omega)]
        unfold X12_goesOn_j70
        rw [w32_id (z := r p + z) (by omega) (by omega), w32_id (z := rNx (fun p => h 165 (8 * i + p)) w r p + 1) (by omega) (by omega), w32_id (z := r (p + 1) + 1) (by omega) (by omega)]
        refine OK_if (fun c1 => OK_gi (by omega) (by omega) (by omega) ?_) (fun c1 => OK_gi (by omega) (by omega) (by omega) ?_)
        · exact OK_if (fun c2 => fin _ (by rw [hz3]; omega)) (fun c2 => fin _ (by rw [hz3]; omega))
        · exact OK_if (fun c2 => fin _ (by rw [hz3]; omega)) (fun c2 => fin _ (by rw [hz3]; omega))
      rw [w32_id hw.1 hw.2, w32_id (by omega) (by omega)]
      exact OK_if (fun c => key _ (by rw [if_neg c])) (fun c => key _ (by rw [if_pos (by omega)]))
  · have : q = 0 := by omega
    subst this
    show setH h 182 0 (h 182 0 + 1) 182 0 = _
    simp only [rNx]
    rw [hr 0 (by omega)]
    exact setH_s
  · show setH h 182 0 (h 182 0 + 1) 182 q = _
    rw [setH_n (by omega)]
    exact hr q hq2
theorem farOf_s {i j s n : Nat} {h : Hp} (hi : i < 40) (hj : j < 40) (hs : s ≤ 8) (hn : n ≤ 8) (es : h 164 i = (s : Int)) (en : h 164 j = (n : Int)) (hb : ∀ p, 0 ≤ h 165 p ∧ h 165 p ≤ 63) : OK (X12_farOf (i : Int) (j : Int) h) (fun z => z.1 = rKw (fun p => h 165 (8 * i + p)) (fun p => h 165 (8 * j + p)) n s ∧ ∀ a, a ≠ 182 → z.2 a = h a) := by
  unfold X12_farOf
  rw [OK_bindE]
  refine OK_mono (starts_s hi hs es) (fun h1 hh1 => ?_)
  obtain ⟨f1, r1⟩ := hh1
  rw [OK_bindE]
  refine OK_mono (iter_up (fun p t => ∃ h', t = ((p : Int), h') ∧ (∀ a, a ≠ 182 → h' a = h a) ∧ ∀ q : Nat, q ≤ s → h' 182 q = rKw (fun p => h 165 (8 * i + p)) (fun p => h 165 (8 * j + p)) p q) (fun h' => (∀ a, a ≠ 182 → h' a = h a) ∧ ∀ q : Nat, q ≤ s → h' 182 q = rKw (fun p => h 165 (8 * i + p)) (fun p => h 165 (8 * j + p)) n q) n (by omega) (fun p t hp hI => ?_) ⟨h1, rfl, f1, r1⟩) (fun h2 hh2 => ?_)
  · obtain ⟨h', rfl, hf, hr⟩ := hI
    unfold X12_farOf_l5
    try dsimp only
    refine OK_gi (by omega) (by omega) (by omega) ?_
    simp only [wtn (v := (j : Int)) j rfl (by omega), hf 164 (by decide), en]
    simp (disch := omega) only [w32_id]
    refine OK_if (fun c => ?_) (fun c => ?_)
    · rw [OK_some, LQ_r]
      refine ⟨hf, ?_⟩
      rw [show n = p by omega]
      exact hr
    · refine OK_gi (by omega) (by omega) (by omega) ?_
      rw [t8, hf 165 (by decide), OK_bindE]
      have b := hb (8 * j + p)
      refine OK_mono (goesOn_s (r := rKw (fun p => h 165 (8 * i + p)) (fun p => h 165 (8 * j + p)) p) (n := p) hi hs (by rw [hf 164 (by decide)]; exact es) (by omega) (by rw [hf 165 (by decide)]; exact hb) (by omega) hr (rKw_bd _ _ p)) (fun h3 hh3 => ?_)
      obtain ⟨f3, r3⟩ := hh3
      rw [OK_some, LQ_l]
      refine ⟨by omega, _, rfl, fun a ha => (f3 a ha).trans (hf a ha), fun q hq => ?_⟩
      rw [r3 q hq, hf 165 (by decide)]
      rfl
  · obtain ⟨f2, r2⟩ := hh2
    refine OK_gi (by omega) (by omega) (by omega) ?_
    simp only [wtn (v := (i : Int)) i rfl (by omega), f2 164 (by decide), es]
    refine OK_gi (by omega) (by omega) (by omega) ?_
    rw [wtn s rfl (by omega)]
    exact ⟨r2 s (Nat.le_refl _), f2⟩
/-- the model's nearest stretch: fields 61 to 63 -/
theorem nears_s {i k s L : Nat} {h : Hp} (hi : i < 40) (hk : k < 8) (hs : 1 ≤ s ∧ s ≤ 8) (hL : 1 ≤ L ∧ L ≤ 40) (es : h 164 i = (s : Int)) (eL : h 156 k = (L : Int)) (hb : ∀ p, 0 ≤ h 165 p ∧ h 165 p ≤ 63) (hw : ∀ p, 0 ≤ h 157 p ∧ h 157 p ≤ 63) : OK (X12_nears (i : Int) (k : Int) h) (fun h' => (h' 150 61, h' 150 62, h' 150 63) = nNr (fun p => h 165 (8 * i + p)) (fun p => h 157 (40 * k + p)) s L ∧ ∀ a j, a ≠ 182 → ¬ (a = 150 ∧ 61 ≤ j ∧ j ≤ 63) → h' a j = h a j) := by
  unfold X12_nears
  rw [OK_bindE]
  refine iter_up (fun a t => ∃ h', t = ((a : Int), h') ∧ (h' 150 61, h' 150 62, h' 150 63) = nOt (fun p => h 165 (8 * i + p)) (fun p => h 157 (40 * k + p)) s L (100, -1, h 150 63) a ∧ (-1 ≤ h' 150 61 ∧ h' 150 61 ≤ 100 ∧ -1 ≤ h' 150 62 ∧ h' 150 62 ≤ 100) ∧ ∀ a j, a ≠ 182 → ¬ (a = 150 ∧ 61 ≤ j ∧ j ≤ 63) → h' a j = h a j) _ L (by omega) (fun a t ha hI => ?_) ⟨_, rfl, rfl, ⟨by rw [setH_n (by decide), setH_s]; decide, by rw [setH_n (by decide), setH_s]; decide, by rw [setH_s]; decide, by rw [setH_s]; decide⟩, fun a j h1 h2 => by rw [setH_f (by omega), setH_f (by omega)]⟩
  obtain ⟨h', rfl, hst, hbd, hf⟩ := hI
  have f164 : h' 164 = h 164 := funext fun j => hf 164 j (by decide) (by omega)
  have f165 : h' 165 = h 165 := funext fun j => hf 165 j (by decide) (by omega)
  have f156 : h' 156 = h 156 := funext fun j => hf 156 j (by decide) (by omega)
  have f157 : h' 157 = h 157 := funext fun j => hf 157 j (by decide) (by omega)
  unfold X12_nears_l8
  try dsimp only
  refine OK_gi (by omega) (by omega) (by omega) ?_
  simp only [wtn (v := (k : Int)) k rfl (by omega), f156, eL]
  simp (disch := omega) only [w32_id]
  refine OK_if (fun c => ?_) (fun c => ?_)
  · rw [OK_some, LQ_r]
    refine ⟨?_, hf⟩
    rw [hst, show a = L by omega]
    exact nOt_any _ _ s L hs.1 hL.1 _ (by show (s : Int) < 100; omega) hs.2
  · rw [OK_bindE]
    refine OK_mono (starts_s hi hs.2 (by rw [f164]; exact es)) (fun h1 hh1 => ?_)
    obtain ⟨f1, r1⟩ := hh1
    rw [OK_bindE]
    refine OK_mono (iter_up (fun c t => ∃ h2, t = (((a + c : Nat) : Int), h2) ∧ (h2 150 61, h2 150 62, h2 150 63) = nIn (fun p => h 165 (8 * i + p)) (fun p => h 157 (40 * k + p)) s a (h' 150 61, h' 150 62, h' 150 63) c ∧ (-1 ≤ h2 150 61 ∧ h2 150 61 ≤ 100 ∧ -1 ≤ h2 150 62 ∧ h2 150 62 ≤ 100) ∧ (∀ q : Nat, q ≤ s → h2 182 q = rKw (fun p => h 165 (8 * i + p)) (fun q => h 157 (40 * k + (a + q))) c q) ∧ ∀ a j, a ≠ 182 → ¬ (a = 150 ∧ 61 ≤ j ∧ j ≤ 63) → h2 a j = h a j) (fun h2 => (h2 150 61, h2 150 62, h2 150 63) = nIn (fun p => h 165 (8 * i + p)) (fun p => h 157 (40 * k + p)) s a (h' 150 61, h' 150 62, h' 150 63) (L - a) ∧ (-1 ≤ h2 150 61 ∧ h2 150 61 ≤ 100 ∧ -1 ≤ h2 150 62 ∧ h2 150 62 ≤ 100) ∧ ∀ a j, a ≠ 182 → ¬ (a = 150 ∧ 61 ≤ j ∧ j ≤ 63) → h2 a j = h a j) (L - a) (by omega) (fun c t hc hI => ?_) ⟨h1, rfl, by rw [f1 150 (by decide)]; rfl, by rw [f1 150 (by decide)]; exact hbd, r1, fun b j h1 h2 => by rw [f1 b h1]; exact hf b j h1 h2⟩) (fun h2 hh2 => ?_)
    · obtain ⟨h2, rfl, hst2, hbd2, hr2, hf2⟩ := hI
      have g164 : h2 164 = h 164 := funext fun j => hf2 164 j (by decide) (by omega)
      have g165 : h2 165 = h 165 := funext fun j => hf2 165 j (by decide) (by omega)
      have g156 : h2 156 = h 156 := funext fun j => hf2 156 j (by decide) (by omega)
      have g157 : h2 157 = h 157 := funext fun j => hf2 157 j (by decide) (by omega)
      unfold X12_nears_l19
      try dsimp only
      refine OK_gi (by omega) (by omega) (by omega) ?_
      simp only [wtn (v := (k : Int)) k rfl (by omega), g156, eL]
      rw [w32_id (z := (L : Int)) (by omega) (by omega), w32_id (z := ((a + c : Nat) : Int)) (by omega) (by omega)]
      refine OK_if (fun d => ?_) (fun d => ?_)
      · rw [OK_some, LQ_r]
        refine ⟨?_, hbd2, hf2⟩
        rw [hst2, show L - a = c by omega]
      · refine OK_gi (by omega) (by omega) (by omega) ?_
        rw [wtn (v := 40 * (k : Int) + ((a + c : Nat) : Int)) (40 * k + (a + c)) (by omega) (by omega), g157, OK_bindE]
        have b := hw (40 * k + (a + c))
        refine OK_mono (goesOn_s (r := rKw (fun p => h 165 (8 * i + p)) (fun q => h 157 (40 * k + (a + q))) c) (n := c) hi hs.2 (by rw [g164]; exact es) (by omega) (by rw [g165]; exact hb) (by omega) hr2 (rKw_bd _ _ c)) (fun h3 hh3 => ?_)
        obtain ⟨f3, r3⟩ := hh3
        rw [g165] at r3
        refine OK_gi (by omega) (by omega) (by omega) ?_
        simp only [wtn (v := (i : Int)) i rfl (by omega), f3 164 (by decide), g164, es]
        refine OK_gi (by omega) (by omega) (by omega) ?_
        simp only [wtn (v := (s : Int)) s rfl (by omega), r3 s (Nat.le_refl _), f3 150 (by decide)]
        have bd := rKw_bd (fun p => h 165 (8 * i + p)) (fun q => h 157 (40 * k + (a + q))) (c + 1) s
        have e0 : rNx (fun p => h 165 (8 * i + p)) (h 157 (40 * k + (a + c))) (rKw (fun p => h 165 (8 * i + p)) (fun q => h 157 (40 * k + (a + q))) c) s = rKw (fun p => h 165 (8 * i + p)) (fun q => h 157 (40 * k + (a + q))) (c + 1) s := rfl
        rw [e0]
        rw [w32_id (z := rKw _ _ _ _) (by omega) (by omega), w32_id (z := h2 150 61) (by omega) (by omega), w32_id (z := h2 150 62) (by omega) (by omega), w32_id (z := (a : Int)) (by omega) (by omega)]
        have nx : ∀ q : Nat, q ≤ s → h3 182 q = rKw (fun p => h 165 (8 * i + p)) (fun q => h 157 (40 * k + (a + q))) (c + 1) q := fun q hq => r3 q hq
        have fx : ∀ a j, a ≠ 182 → ¬ (a = 150 ∧ 61 ≤ j ∧ j ≤ 63) → h3 a j = h a j := fun b j h1 h2 => by rw [f3 b h1]; exact hf2 b j h1 h2
        have stay : ¬ (rKw (fun p => h 165 (8 * i + p)) (fun q => h 157 (40 * k + (a + q))) (c + 1) s < h2 150 61 ∨ (rKw (fun p => h 165 (8 * i + p)) (fun q => h 157 (40 * k + (a + q))) (c + 1) s = h2 150 61 ∧ h2 150 62 = a)) → nIn (fun p => h 165 (8 * i + p)) (fun p => h 157 (40 * k + p)) s a (h' 150 61, h' 150 62, h' 150 63) (c + 1) = (h2 150 61, h2 150 62, h2 150 63) := fun q => by
          show nUp _ _ _ (nIn _ _ _ _ _ c) = _
          rw [← hst2]
          unfold nUp
          exact if_neg q
        have take : (rKw (fun p => h 165 (8 * i + p)) (fun q => h 157 (40 * k + (a + q))) (c + 1) s < h2 150 61 ∨ (rKw (fun p => h 165 (8 * i + p)) (fun q => h 157 (40 * k + (a + q))) (c + 1) s = h2 150 61 ∧ h2 150 62 = a)) → nIn (fun p => h 165 (8 * i + p)) (fun p => h 157 (40 * k + p)) s a (h' 150 61, h' 150 62, h' 150 63) (c + 1) = (rKw (fun p => h 165 (8 * i + p)) (fun q => h 157 (40 * k + (a + q))) (c + 1) s, (a : Int), ((a + c : Nat) : Int)) := fun q => by
          show nUp _ _ _ (nIn _ _ _ _ _ c) = _
          rw [← hst2]
          unfold nUp
          exact if_pos q
        have goT : (rKw (fun p => h 165 (8 * i + p)) (fun q => h 157 (40 * k + (a + q))) (c + 1) s < h2 150 61 ∨ (rKw (fun p => h 165 (8 * i + p)) (fun q => h 157 (40 * k + (a + q))) (c + 1) s = h2 150 61 ∧ h2 150 62 = a)) → OK (X12_nears_j57 (i : Int) (k : Int) (a : Int) ((a + c : Nat) : Int) (rKw (fun p => h 165 (8 * i + p)) (fun q => h 157 (40 * k + (a + q))) (c + 1) s) h3) (LQ (fun s' => c < L - a ∧ ∃ h2, s' = (((a + (c + 1) : Nat) : Int), h2) ∧ (h2 150 61, h2 150 62, h2 150 63) = nIn (fun p => h 165 (8 * i + p)) (fun p => h 157 (40 * k + p)) s a (h' 150 61, h' 150 62, h' 150 63) (c + 1) ∧ (-1 ≤ h2 150 61 ∧ h2 150 61 ≤ 100 ∧ -1 ≤ h2 150 62 ∧ h2 150 62 ≤ 100) ∧ (∀ q : Nat, q ≤ s → h2 182 q = rKw (fun p => h 165 (8 * i + p)) (fun q => h 157 (40 * k + (a + q))) (c + 1) q) ∧ ∀ a j, a ≠ 182 → ¬ (a = 150 ∧ 61 ≤ j ∧ j ≤ 63) → h2 a j = h a j) (fun h2 => (h2 150 61, h2 150 62, h2 150 63) = nIn (fun p => h 165 (8 * i + p)) (fun p => h 157 (40 * k + p)) s a (h' 150 61, h' 150 62, h' 150 63) (L - a) ∧ (-1 ≤ h2 150 61 ∧ h2 150 61 ≤ 100 ∧ -1 ≤ h2 150 62 ∧ h2 150 62 ≤ 100) ∧ ∀ a j, a ≠ 182 → ¬ (a = 150 ∧ 61 ≤ j ∧ j ≤ 63) → h2 a j = h a j)) := fun q => by
          unfold X12_nears_j57 X12_nears_j66
          refine ⟨by omega, _, rfl, (take q).symm, ?_, fun q hq => ?_, fun b j h1 h2 => ?_⟩
          · refine ⟨?_, ?_, ?_, ?_⟩
            · show -1 ≤ rKw _ _ _ _
              omega
            · show rKw _ _ _ _ ≤ 100
              omega
            · show -1 ≤ (a : Int)
              omega
            · show (a : Int) ≤ 100
              omega
          · rw [setH_o (by decide), setH_o (by decide), setH_o (by decide)]
            exact nx q hq
          · rw [setH_f (by omega), setH_f (by omega), setH_f (by omega)]
            exact fx b j h1 h2
        have goS : ¬ (rKw (fun p => h 165 (8 * i + p)) (fun q => h 157 (40 * k + (a + q))) (c + 1) s < h2 150 61 ∨ (rKw (fun p => h 165 (8 * i + p)) (fun q => h 157 (40 * k + (a + q))) (c + 1) s = h2 150 61 ∧ h2 150 62 = a)) → OK (X12_nears_j66 (i : Int) (k : Int) (a : Int) ((a + c : Nat) : Int) h3) (LQ (fun s' => c < L - a ∧ ∃ h2, s' = (((a + (c + 1) : Nat) : Int), h2) ∧ (h2 150 61, h2 150 62, h2 150 63) = nIn (fun p => h 165 (8 * i + p)) (fun p => h 157 (40 * k + p)) s a (h' 150 61, h' 150 62, h' 150 63) (c + 1) ∧ (-1 ≤ h2 150 61 ∧ h2 150 61 ≤ 100 ∧ -1 ≤ h2 150 62 ∧ h2 150 62 ≤ 100) ∧ (∀ q : Nat, q ≤ s → h2 182 q = rKw (fun p => h 165 (8 * i + p)) (fun q => h 157 (40 * k + (a + q))) (c + 1) q) ∧ ∀ a j, a ≠ 182 → ¬ (a = 150 ∧ 61 ≤ j ∧ j ≤ 63) → h2 a j = h a j) (fun h2 => (h2 150 61, h2 150 62, h2 150 63) = nIn (fun p => h 165 (8 * i + p)) (fun p => h 157 (40 * k + p)) s a (h' 150 61, h' 150 62, h' 150 63) (L - a) ∧ (-1 ≤ h2 150 61 ∧ h2 150 61 ≤ 100 ∧ -1 ≤ h2 150 62 ∧ h2 150 62 ≤ 100) ∧ ∀ a j, a ≠ 182 → ¬ (a = 150 ∧ 61 ≤ j ∧ j ≤ 63) → h2 a j = h a j)) := fun q => by
          unfold X12_nears_j66
          have e1 : h3 150 = h2 150 := f3 150 (by decide)
          refine ⟨by omega, _, rfl, by rw [e1]; exact (stay q).symm, by rw [e1]; exact hbd2, nx, fx⟩
        refine OK_if (fun c1 => goS (by omega)) (fun c1 => OK_if (fun c2 => goT (by omega)) (fun c2 => OK_if (fun c3 => goT (by omega)) (fun c3 => goS (by omega))))
    · obtain ⟨hst2, hbd2, hf2⟩ := hh2
      rw [OK_some, LQ_l]
      refine ⟨by omega, _, rfl, ?_, hbd2, hf2⟩
      rw [hst2, hst]
      rfl
theorem nearnessNow_s {i s : Nat} {h : Hp} (hi : i < 40) (hs : 1 ≤ s ∧ s ≤ 8) (es : h 164 i = (s : Int)) (hf : 0 ≤ h 150 61 ∧ h 150 61 ≤ 100) : X12_nearnessNow (i : Int) h = some (div32 (1000 * max 0 ((s : Int) - h 150 61)) s) := by
  unfold X12_nearnessNow
  simp (disch := omega) only [↓if_inb, w32_id, tn, es]
  by_cases c : h 150 61 ≤ s
  · rw [if_pos c, if_pos (by omega)]
    congr 3
    omega
  · rw [if_neg c, show max 0 ((s : Int) - h 150 61) = 0 by omega]
    congr 1
    have : ∀ s : Fin 9, 1 ≤ s.val → (0 : Int) = div32 (1000 * 0) ((s.val : Nat) : Int) := by decide +kernel
    exact this ⟨s, by omega⟩ hs.1
