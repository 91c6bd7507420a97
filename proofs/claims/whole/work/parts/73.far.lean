/-! HOW FAR, on the one side: cell 54 is the row -/
theorem bitSize_e {v : Int} {h : Hp} (i : Nat) (e : v = (i : Int)) (hi : i < 40) : X7_bitSize v h = some (h 16 i) := by
  unfold X7_bitSize
  rw [at_e i e hi (by omega)]
  rfl
theorem bitWord_e {v p : Int} {h : Hp} (j : Nat) (e : v * 8 + p = (j : Int)) (hj : j < 320) : X7_bitWord v p h = some (h 17 j) := by
  unfold X7_bitWord
  rw [at_e j e hj (by omega)]
  rfl
theorem workWord_e {v p : Int} {h : Hp} (j : Nat) (e : v * 40 + p = (j : Int)) (hj : j < 320) : X7_workWord v p h = some (h 9 j) := by
  unfold X7_workWord
  rw [at_e j e hj (by omega)]
  rfl
theorem wordsLeft_e {v : Int} {h : Hp} (k : Nat) (e : v = (k : Int)) (hk : k < 8) : X7_wordsLeft v h = some (h 8 k) := by
  unfold X7_wordsLeft
  rw [at_e k e hk (by omega)]
  rfl
theorem minI_id {x y : Int} (h1 : -2147483648 ≤ x) (h2 : x < 2147483648) (h3 : -2147483648 ≤ y) (h4 : y < 2147483648) : minI x y = min x y := by
  unfold minI
  rw [w32_id h1 h2, w32_id h3 h4]
  split <;> omega
theorem maxI_id {x y : Int} (h1 : -2147483648 ≤ x) (h2 : x < 2147483648) (h3 : -2147483648 ≤ y) (h4 : y < 2147483648) : maxI x y = max x y := by
  unfold maxI
  rw [w32_id h1 h2, w32_id h3 h4]
  split <;> omega
theorem startRow_s {s : Nat} {h : Hp} (hs : s ≤ 8) : OK (X1_startRow (s : Int) h) (fun h' => (∀ a, a ≠ 54 → h' a = h a) ∧ ∀ p : Nat, p ≤ s → h' 54 p = (p : Int)) := by
  unfold X1_startRow
  rw [OK_bindE]
  refine iter_up (fun p t => ∃ h', t = ((p : Int), h') ∧ (∀ a, a ≠ 54 → h' a = h a) ∧ ∀ q : Nat, q < p → h' 54 q = (q : Int)) _ (s + 1) (by omega) (fun p t hp hI => ?_) ⟨h, rfl, fun a _ => rfl, fun q hq => by omega⟩
  obtain ⟨h', rfl, hf, hr⟩ := hI
  unfold X1_startRow_l2
  try dsimp only
  simp (disch := omega) only [w32_id, OK_some, LQ_l, LQ_r, tn]
  refine OK_if (fun c => ?_) (fun c => ?_)
  · exact ⟨hf, fun q hq => hr q (by omega)⟩
  · refine OK_gn (by omega) (OK_gi (by omega) (by omega) (by omega) ?_)
    refine ⟨by omega, _, rfl, fun a ha => by rw [setH_o ha]; exact hf a ha, fun q hq => ?_⟩
    by_cases e : q = p
    · subst e
      exact setH_s
    · rw [setH_n e]
      exact hr q (by omega)
theorem advance_s {i s : Nat} {w : Int} {h : Hp} {r : Nat → Int} {n : Nat} (hi : i < 40) (hs : s ≤ 8) (hw : -2147483648 ≤ w ∧ w < 2147483648) (hb : ∀ p, p < s → -2147483648 ≤ h 17 (8 * i + p) ∧ h 17 (8 * i + p) < 2147483648) (hn : n ≤ 1000) (hr : ∀ p : Nat, p ≤ s → h 54 p = r p) (hrb : ∀ p : Nat, (n : Int) - p ≤ r p ∧ (p : Int) - n ≤ r p ∧ (r p ≤ n ∨ r p ≤ p)) : OK (X1_advance (i : Int) (s : Int) w h) (fun h' => (∀ a, a ≠ 54 → h' a = h a) ∧ ∀ p : Nat, p ≤ s → h' 54 p = rNx (fun p => h 17 (8 * i + p)) w r p) := by
  unfold X1_advance
  refine OK_gi (by omega) (by omega) (by omega) (OK_gi (by omega) (by omega) (by omega) (OK_gi (by omega) (by omega) (by omega) ?_))
  rw [OK_bindE]
  have hB := fun p => rNx_bd (bw := fun p => h 17 (8 * i + p)) (w := w) hrb p
  refine iter_up (fun p t => ∃ h', t = (r p, ((p + 1 : Nat) : Int), h') ∧ (∀ a, a ≠ 54 → h' a = h a) ∧ (∀ q : Nat, q ≤ p → h' 54 q = rNx (fun p => h 17 (8 * i + p)) w r q) ∧ (∀ q : Nat, p < q → q ≤ s → h' 54 q = r q)) _ s (by omega) (fun p t hp hI => ?_) ⟨_, by rw [w32_0, ← hr 0 (by omega)]; rfl, fun a ha => setH_o ha, fun q hq => ?_, fun q hq hq2 => ?_⟩
  · obtain ⟨h', rfl, hf, h1, h2⟩ := hI
    unfold X1_advance_l15
    try dsimp only
    simp (disch := omega) only [w32_id, OK_some, LQ_l, LQ_r]
    refine OK_if (fun c => ?_) (fun c => ?_)
    · exact ⟨hf, fun q hq => h1 q (by omega)⟩
    · refine OK_gn (by omega) ?_
      rw [bitWord_e (8 * i + p) (by omega) (by omega), hf 17 (by decide), OK_bindE, OK_some]
      have b1 := hb p (by omega)
      have b2 := hrb p
      have b3 := hrb (p + 1)
      have b4 := hB p
      have b5 := hB (p + 1)
      have e1 := h1 p (Nat.le_refl _)
      have e2 := h2 (p + 1) (by omega) (by omega)
      have key : ∀ z : Int, z = r p + (if h 17 (8 * i + p) = w then 0 else 1) → OK (X1_advance_j35 (i : Int) (s : Int) w ((p + 1 : Nat) : Int) z h') (LQ (fun s' => p < s ∧ ∃ h'', s' = (r (p + 1), ((p + 1 + 1 : Nat) : Int), h'') ∧ (∀ a, a ≠ 54 → h'' a = h a) ∧ (∀ q : Nat, q ≤ p + 1 → h'' 54 q = rNx (fun p => h 17 (8 * i + p)) w r q) ∧ (∀ q : Nat, p + 1 < q → q ≤ s → h'' 54 q = r q)) (fun h' => (∀ a, a ≠ 54 → h' a = h a) ∧ ∀ p : Nat, p ≤ s → h' 54 p = rNx (fun p => h 17 (8 * i + p)) w r p)) := by
        intro z hz
        have hz2 : -10000 ≤ z ∧ z ≤ 10000 := by split at hz <;> omega
        unfold X1_advance_j35
        refine OK_gi (by omega) (by omega) (by omega) (OK_gi (by omega) (by omega) (by omega) (OK_gi (by omega) (by omega) (by omega) ?_))
        rw [wtn (v := ((p + 1 : Nat) : Int) - 1) p (by omega) (by omega), wtn (v := ((p + 1 : Nat) : Int)) (p + 1) rfl (by omega), e1, e2, minI_id (x := rNx (fun p => h 17 (8 * i + p)) w r p) (by omega) (by omega) (by omega) (by omega), minI_id (by omega) (by omega) (by omega) (by omega)]
        have e3 : min z (min (rNx (fun p => h 17 (8 * i + p)) w r p) (r (p + 1)) + 1) = rNx (fun p => h 17 (8 * i + p)) w r (p + 1) := by
          simp only [rNx]
          rw [hz]
        rw [e3]
        refine ⟨by omega, _, rfl, fun a ha => by rw [setH_o ha]; exact hf a ha, fun q hq => ?_, fun q hq hq2 => ?_⟩
        · by_cases e : q = p + 1
          · rw [e]
            exact setH_s
          · rw [setH_n e]
            exact h1 q (by omega)
        · rw [setH_n (by omega)]
          exact h2 q (by omega) hq2
      rw [w32_id b1.1 b1.2]
      refine OK_if (fun c => key _ (by rw [if_neg c])) (fun c => key _ (by rw [if_pos (by omega)]; omega))
  · have : q = 0 := by omega
    subst this
    show setH h 54 0 (h 54 0 + 1) 54 0 = _
    simp only [rNx]
    rw [hr 0 (by omega)]
    exact setH_s
  · show setH h 54 0 (h 54 0 + 1) 54 q = _
    rw [setH_n (by omega)]
    exact hr q hq2
theorem far_s {i j s n : Nat} {h : Hp} (hi : i < 40) (hj : j < 40) (hs : s ≤ 8) (hn : n ≤ 8) (es : h 16 i = (s : Int)) (en : h 16 j = (n : Int)) (hb : ∀ p, 0 ≤ h 17 p ∧ h 17 p ≤ 63) : OK (X1_far (i : Int) (j : Int) h) (fun z => z.1 = rKw (fun p => h 17 (8 * i + p)) (fun p => h 17 (8 * j + p)) n s ∧ ∀ a, a ≠ 54 → z.2 a = h a) := by
  unfold X1_far
  rw [bitSize_e i rfl hi, OK_bindE, OK_some, OK_bindE, es]
  refine OK_mono (startRow_s hs) (fun h1 hh1 => ?_)
  obtain ⟨f1, r1⟩ := hh1
  rw [OK_bindE]
  refine OK_mono (iter_up (fun p t => ∃ h', t = ((p : Int), h') ∧ (∀ a, a ≠ 54 → h' a = h a) ∧ ∀ q : Nat, q ≤ s → h' 54 q = rKw (fun p => h 17 (8 * i + p)) (fun p => h 17 (8 * j + p)) p q) (fun h' => (∀ a, a ≠ 54 → h' a = h a) ∧ ∀ q : Nat, q ≤ s → h' 54 q = rKw (fun p => h 17 (8 * i + p)) (fun p => h 17 (8 * j + p)) n q) n (by omega) (fun p t hp hI => ?_) ⟨h1, rfl, f1, r1⟩) (fun h2 hh2 => ?_)
  · obtain ⟨h', rfl, hf, hr⟩ := hI
    unfold X1_far_l10
    try dsimp only
    rw [bitSize_e j rfl hj, hf 16 (by decide), en, OK_bindE, OK_some]
    simp (disch := omega) only [w32_id]
    refine OK_if (fun c => ?_) (fun c => ?_)
    · rw [OK_some, LQ_r]
      refine ⟨hf, ?_⟩
      rw [show n = p by omega]
      exact hr
    · rw [bitWord_e (8 * j + p) (by omega) (by omega), hf 17 (by decide), OK_bindE, OK_some, OK_bindE]
      have b := hb (8 * j + p)
      refine OK_mono (advance_s (r := rKw (fun p => h 17 (8 * i + p)) (fun p => h 17 (8 * j + p)) p) (n := p) hi hs (by omega) (fun q hq => by rw [hf 17 (by decide)]; have := hb (8 * i + q); omega) (by omega) hr (rKw_bd _ _ p)) (fun h3 hh3 => ?_)
      obtain ⟨f3, r3⟩ := hh3
      rw [OK_some, LQ_l]
      refine ⟨by omega, _, rfl, fun a ha => (f3 a ha).trans (hf a ha), fun q hq => ?_⟩
      rw [r3 q hq, hf 17 (by decide)]
      rfl
  · obtain ⟨f2, r2⟩ := hh2
    rw [at_e s rfl (by omega) (by omega), OK_bindE, OK_some, OK_some]
    exact ⟨r2 s (Nat.le_refl _), f2⟩
