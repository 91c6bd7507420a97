/-! NEAR, on the one side: cells 55 to 58 keep what was found -/
theorem z1_1 : z1 1 = 1 := by decide
/-- one WORK's stretches from one place on -/
theorem find_in {i k s L a : Nat} {h : Hp} {l0 : Int} (hi : i < 40) (hk : k < 8) (hs : 1 ≤ s ∧ s ≤ 8) (hL : L ≤ 40) (ha : a < L) (hb : ∀ p, 0 ≤ h 17 p ∧ h 17 p ≤ 63) (hw : ∀ p, 0 ≤ h 9 p ∧ h 9 p ≤ 63) (hl : -1 ≤ l0 ∧ l0 ≤ 100) (hr : ∀ q : Nat, q ≤ s → h 54 q = (q : Int)) (hbd : -1 ≤ h 57 (8 * i + k) ∧ h 57 (8 * i + k) ≤ 100) (E : Nat) (hE : a ≤ E ∧ E ≤ 40) : OK (iter (X1_find_l57 (i : Int) (k : Int) ((8 * i + k : Nat) : Int) (s : Int) (a : Int) (E : Int)) FU (l0, (a : Int), h)) (fun z => (z.1, z.2 57 (8 * i + k), z.2 58 (8 * i + k)) = nIn (fun p => h 17 (8 * i + p)) (fun p => h 9 (40 * k + p)) s a (l0, h 57 (8 * i + k), h 58 (8 * i + k)) (E - a) ∧ (-1 ≤ z.1 ∧ z.1 ≤ 100 ∧ -1 ≤ z.2 57 (8 * i + k) ∧ z.2 57 (8 * i + k) ≤ 100) ∧ ∀ b j, b ≠ 54 → ¬ ((b = 57 ∨ b = 58) ∧ j = 8 * i + k) → z.2 b j = h b j) := by
  refine iter_up (fun c t => ∃ l h2, t = (l, ((a + c : Nat) : Int), h2) ∧ (l, h2 57 (8 * i + k), h2 58 (8 * i + k)) = nIn (fun p => h 17 (8 * i + p)) (fun p => h 9 (40 * k + p)) s a (l0, h 57 (8 * i + k), h 58 (8 * i + k)) c ∧ (-1 ≤ l ∧ l ≤ 100 ∧ -1 ≤ h2 57 (8 * i + k) ∧ h2 57 (8 * i + k) ≤ 100) ∧ (∀ q : Nat, q ≤ s → h2 54 q = rKw (fun p => h 17 (8 * i + p)) (fun q => h 9 (40 * k + (a + q))) c q) ∧ ∀ b j, b ≠ 54 → ¬ ((b = 57 ∨ b = 58) ∧ j = 8 * i + k) → h2 b j = h b j) _ (E - a) (by omega) (fun c t hc hI => ?_) ⟨l0, h, rfl, rfl, ⟨hl.1, hl.2, hbd⟩, hr, fun b j _ _ => rfl⟩
  obtain ⟨l, h2, rfl, hst2, hbd2, hr2, hf2⟩ := hI
  have g17 : h2 17 = h 17 := funext fun j => hf2 17 j (by decide) (by omega)
  have g9 : h2 9 = h 9 := funext fun j => hf2 9 j (by decide) (by omega)
  unfold X1_find_l57
  try dsimp only
  rw [w32_id (z := (E : Int)) (by omega) (by omega), w32_id (z := ((a + c : Nat) : Int)) (by omega) (by omega)]
  refine OK_if (fun d => ?_) (fun d => ?_)
  · rw [OK_some, LQ_r]
    refine ⟨?_, hbd2, hf2⟩
    show (l, h2 57 (8 * i + k), h2 58 (8 * i + k)) = _
    rw [hst2, show E - a = c by omega]
  · rw [workWord_e (40 * k + (a + c)) (by omega) (by omega), g9, OK_bindE, OK_some, OK_bindE]
    have b := hw (40 * k + (a + c))
    refine OK_mono (advance_s (r := rKw (fun p => h 17 (8 * i + p)) (fun q => h 9 (40 * k + (a + q))) c) (n := c) hi hs.2 (by omega) (fun p _ => by rw [g17]; have := hb (8 * i + p); omega) (by omega) hr2 (rKw_bd _ _ c)) (fun h3 hh3 => ?_)
    obtain ⟨f3, r3⟩ := hh3
    rw [g17] at r3
    rw [at_e s rfl (by omega) (by omega), OK_bindE, OK_some, r3 s (Nat.le_refl _)]
    have bd := rKw_bd (fun p => h 17 (8 * i + p)) (fun q => h 9 (40 * k + (a + q))) (c + 1) s
    have e0 : rNx (fun p => h 17 (8 * i + p)) (h 9 (40 * k + (a + c))) (rKw (fun p => h 17 (8 * i + p)) (fun q => h 9 (40 * k + (a + q))) c) s = rKw (fun p => h 17 (8 * i + p)) (fun q => h 9 (40 * k + (a + q))) (c + 1) s := rfl
    rw [e0]
    rw [w32_id (z := rKw _ _ _ _) (by omega) (by omega), w32_id (z := l) (by omega) (by omega)]
    have nx : ∀ q : Nat, q ≤ s → h3 54 q = rKw (fun p => h 17 (8 * i + p)) (fun q => h 9 (40 * k + (a + q))) (c + 1) q := fun q hq => r3 q hq
    have fx : ∀ b j, b ≠ 54 → ¬ ((b = 57 ∨ b = 58) ∧ j = 8 * i + k) → h3 b j = h b j := fun b j h1 h2 => by rw [f3 b h1]; exact hf2 b j h1 h2
    have stay : ¬ (rKw (fun p => h 17 (8 * i + p)) (fun q => h 9 (40 * k + (a + q))) (c + 1) s < l ∨ (rKw (fun p => h 17 (8 * i + p)) (fun q => h 9 (40 * k + (a + q))) (c + 1) s = l ∧ h2 57 (8 * i + k) = a)) → nIn (fun p => h 17 (8 * i + p)) (fun p => h 9 (40 * k + p)) s a (l0, h 57 (8 * i + k), h 58 (8 * i + k)) (c + 1) = (l, h2 57 (8 * i + k), h2 58 (8 * i + k)) := fun q => by
      show nUp _ _ _ (nIn _ _ _ _ _ c) = _
      rw [← hst2]
      unfold nUp
      exact if_neg q
    have take : (rKw (fun p => h 17 (8 * i + p)) (fun q => h 9 (40 * k + (a + q))) (c + 1) s < l ∨ (rKw (fun p => h 17 (8 * i + p)) (fun q => h 9 (40 * k + (a + q))) (c + 1) s = l ∧ h2 57 (8 * i + k) = a)) → nIn (fun p => h 17 (8 * i + p)) (fun p => h 9 (40 * k + p)) s a (l0, h 57 (8 * i + k), h 58 (8 * i + k)) (c + 1) = (rKw (fun p => h 17 (8 * i + p)) (fun q => h 9 (40 * k + (a + q))) (c + 1) s, (a : Int), ((a + c : Nat) : Int)) := fun q => by
      show nUp _ _ _ (nIn _ _ _ _ _ c) = _
      rw [← hst2]
      unfold nUp
      exact if_pos q
    have e7 : h3 57 = h2 57 := f3 57 (by decide)
    have e8 : h3 58 = h2 58 := f3 58 (by decide)
    refine OK_if (fun c1 => ?_) (fun c1 => OK_if (fun c2 => ?_) (fun c2 => OK_gi (by omega) (by omega) (by omega) ?_))
    · unfold X1_find_j86 X1_find_j98
      refine OK_gi (by omega) (by omega) (by omega) (OK_gi (by omega) (by omega) (by omega) ?_)
      rw [wtn (8 * i + k) rfl (by omega), OK_some, LQ_l]
      refine ⟨by omega, _, _, rfl, ?_, ?_, fun q hq => ?_, fun b j h1 h2 => ?_⟩
      · rw [take (Or.inl c1), setH_o (by decide), setH_s, setH_s]
      · rw [setH_o (by decide), setH_s]
        omega
      · rw [setH_o (by decide), setH_o (by decide)]
        exact nx q hq
      · rw [setH_f (by omega), setH_f (by omega)]
        exact fx b j h1 h2
    · unfold X1_find_j98
      rw [OK_some, LQ_l]
      refine ⟨by omega, _, _, rfl, ?_, ?_, nx, fx⟩
      · rw [e7, e8]
        exact (stay (by omega)).symm
      · rw [e7]
        exact hbd2
    · rw [wtn (8 * i + k) rfl (by omega), e7, w32_id (by omega) (by omega), w32_id (by omega) (by omega)]
      refine OK_if (fun c3 => ?_) (fun c3 => ?_)
      · unfold X1_find_j98
        rw [OK_some, LQ_l]
        refine ⟨by omega, _, _, rfl, ?_, ?_, nx, fx⟩
        · rw [e7, e8]
          exact (stay (by omega)).symm
        · rw [e7]
          exact hbd2
      · unfold X1_find_j86 X1_find_j98
        refine OK_gi (by omega) (by omega) (by omega) (OK_gi (by omega) (by omega) (by omega) ?_)
        rw [wtn (8 * i + k) rfl (by omega), OK_some, LQ_l]
        refine ⟨by omega, _, _, rfl, ?_, ?_, fun q hq => ?_, fun b j h1 h2 => ?_⟩
        · rw [take (by omega), setH_o (by decide), setH_s, setH_s]
        · rw [setH_o (by decide), setH_s]
          omega
        · rw [setH_o (by decide), setH_o (by decide)]
          exact nx q hq
        · rw [setH_f (by omega), setH_f (by omega)]
          exact fx b j h1 h2
/-- what is found, where nothing was found yet -/
theorem find_new {i k s L : Nat} {h : Hp} (hi : i < 40) (hk : k < 8) (hs : 1 ≤ s ∧ s ≤ 8) (hL : 1 ≤ L ∧ L ≤ 40) (es : h 16 i = (s : Int)) (eL : h 8 k = (L : Int)) (hb : ∀ p, 0 ≤ h 17 p ∧ h 17 p ≤ 63) (hw : ∀ p, 0 ≤ h 9 p ∧ h 9 p ≤ 63) (h0 : h 55 (8 * i + k) = 0) (hbd : -1 ≤ h 57 (8 * i + k) ∧ h 57 (8 * i + k) ≤ 100) : OK (X1_find (i : Int) (k : Int) h) (fun h' => h' 55 (8 * i + k) = 1 ∧ (h' 56 (8 * i + k), h' 57 (8 * i + k), h' 58 (8 * i + k)) = nNr (fun p => h 17 (8 * i + p)) (fun p => h 9 (40 * k + p)) s L ∧ ∀ b j, b ≠ 54 → ¬ ((b = 55 ∨ b = 56 ∨ b = 57 ∨ b = 58) ∧ j = 8 * i + k) → h' b j = h b j) := by
  have e0 : (i : Int) * 8 + (k : Int) = ((8 * i + k : Nat) : Int) := by omega
  unfold X1_find
  rw [e0]
  simp (disch := omega) only [↓if_inb, w32_id, tn, h0, if_true, z1_1]
  refine OK_gn (by omega) (OK_gn (by omega) ?_)
  rw [bitSize_e i rfl hi, OK_bindE, OK_some, setH_o (by decide), es, OK_bindE]
  refine OK_mono (iter_up (fun a t => ∃ l h', t = (l, (a : Int), h') ∧ (l, h' 57 (8 * i + k), h' 58 (8 * i + k)) = nCu (fun p => h 17 (8 * i + p)) (fun p => h 9 (40 * k + p)) s L ((s : Int) + 1, h 57 (8 * i + k), h 58 (8 * i + k)) a ∧ (-1 ≤ l ∧ l ≤ 100 ∧ -1 ≤ h' 57 (8 * i + k) ∧ h' 57 (8 * i + k) ≤ 100) ∧ h' 55 (8 * i + k) = 1 ∧ ∀ b j, b ≠ 54 → ¬ ((b = 55 ∨ b = 57 ∨ b = 58) ∧ j = 8 * i + k) → h' b j = h b j) (fun z => (z.1, z.2 57 (8 * i + k), z.2 58 (8 * i + k)) = nNr (fun p => h 17 (8 * i + p)) (fun p => h 9 (40 * k + p)) s L ∧ z.2 55 (8 * i + k) = 1 ∧ ∀ b j, b ≠ 54 → ¬ ((b = 55 ∨ b = 57 ∨ b = 58) ∧ j = 8 * i + k) → z.2 b j = h b j) L (by omega) (fun a t ha hI => ?_) ⟨(s : Int) + 1, _, rfl, by rw [setH_o (by decide), setH_o (by decide)]; rfl, ?_, setH_s, fun b j h1 h2 => setH_f (by omega)⟩) (fun z hz => ?_)
  · obtain ⟨l, h', rfl, hst, hbd', h55, hf⟩ := hI
    have f17 : h' 17 = h 17 := funext fun j => hf 17 j (by decide) (by omega)
    have f9 : h' 9 = h 9 := funext fun j => hf 9 j (by decide) (by omega)
    have f8 : h' 8 = h 8 := funext fun j => hf 8 j (by decide) (by omega)
    unfold X1_find_l35
    try dsimp only
    rw [wordsLeft_e k rfl hk, f8, eL, OK_bindE, OK_some]
    rw [w32_id (z := (L : Int)) (by omega) (by omega), w32_id (z := (a : Int)) (by omega) (by omega)]
    refine OK_if (fun c => ?_) (fun c => ?_)
    · rw [OK_some, LQ_r]
      refine ⟨?_, h55, hf⟩
      show (l, h' 57 (8 * i + k), h' 58 (8 * i + k)) = _
      rw [hst, show a = L by omega]
      exact nCu_any _ _ s L hs.1 hL.1 _ (by show (s : Int) < s + 1; omega) hs.2
    · rw [OK_bindE, OK_some, OK_bindE]
      refine OK_mono (startRow_s hs.2) (fun h1 hh1 => ?_)
      obtain ⟨f1, r1⟩ := hh1
      rw [OK_bindE, minI_id (by omega) (by omega) (by omega) (by omega), show min (L : Int) ((a : Int) + 2 * (s : Int)) = ((min L (a + 2 * s) : Nat) : Int) by omega]
      have g17 : h1 17 = h 17 := (f1 17 (by decide)).trans f17
      have g9 : h1 9 = h 9 := (f1 9 (by decide)).trans f9
      have g57 : h1 57 = h' 57 := f1 57 (by decide)
      have g58 : h1 58 = h' 58 := f1 58 (by decide)
      refine OK_mono (find_in (L := L) hi hk hs hL.2 (by omega) (by rw [g17]; exact hb) (by rw [g9]; exact hw) ⟨hbd'.1, hbd'.2.1⟩ r1 (by rw [g57]; exact hbd'.2.2) (min L (a + 2 * s)) (by omega)) (fun z hz => ?_)
      obtain ⟨z1', z2, z3⟩ := hz
      rw [g17, g9, g57, g58] at z1'
      rw [OK_some, LQ_l]
      refine ⟨by omega, _, _, rfl, ?_, z2, ?_, fun b j h1 h2 => ?_⟩
      · rw [z1', hst]
        rfl
      · rw [z3 55 _ (by decide) (by omega), f1 55 (by decide)]
        exact h55
      · rw [z3 b j h1 (by omega), f1 b h1]
        exact hf b j h1 h2
  · rw [setH_o (by decide)]
    omega
  · obtain ⟨z1', z2, z3⟩ := hz
    rw [OK_some]
    refine ⟨by rw [setH_o (by decide)]; exact z2, by rw [setH_s, setH_o (by decide), setH_o (by decide)]; exact z1', fun b j h1 h2 => ?_⟩
    rw [setH_f (by omega)]
    exact z3 b j h1 (by omega)
