/-! SHARED: the other side -/
theorem if_01 {α : Type} {c : Prop} {dc : Decidable c} (F : Int → Option α) : (if w32 (@ite Int c dc 1 0) = 0 then F 0 else F 1) = F (@ite Int c dc 1 0) := by
  by_cases h : c
  · rw [if_pos h, if_neg (by decide)]
  · rw [if_neg h, if_pos (by decide)]
theorem cnBt_i {f : Nat → Bool} {p : Nat} {c : Prop} {dc : Decidable c} (h : f p = true ↔ c) : ((cnBt f (p + 1) : Nat) : Int) = ((cnBt f p : Nat) : Int) + @ite Int c dc 1 0 := by
  by_cases k : c
  · rw [cnBt_t (h.mpr k), if_pos k]
    omega
  · have : f p = false := by
      cases q : f p
      · rfl
      · exact absurd (h.mp q) k
    rw [cnBt_n this, if_neg k]
    omega
def cMH (e j : Nat) : Prop := e = 150 ∧ 67 ≤ j ∧ j ≤ 72
theorem LYw_cg {W : Nat → Nat → Int} {h u : Hp} (e : ∀ j, u 185 j = h 185 j) (L : LYw W h) : LYw W u := fun wr pl h1 h2 => by
  rw [e]
  exact L wr pl h1 h2
theorem shares_s {W : Nat → Nat → Int} {h : Hp} {a b k n : Nat} (L : LYw W h) (hW : ∀ wr p, -1 ≤ W wr p ∧ W wr p ≤ 63) (ha : a < 8) (hb : b < 8) (hk : k < 8) (h7 : ∀ j, 0 ≤ h 157 j ∧ h 157 j ≤ 63) (h6 : h 156 k = (n : Int)) (hn : n ≤ 40) (hz : ∀ wr p, n ≤ p → W wr p = -1) : OK (X12_shares (a : Int) (b : Int) (k : Int) h) (fun z => (z 150 67 = ((cnBt (shN (W a) (W b)) 40 : Nat) : Int) ∧ z 150 68 = ((cnBt (shA (fun p => h 157 (40 * k + p)) (W a) (W b)) 40 : Nat) : Int) ∧ z 150 69 = ((cnBt (shB (fun p => h 157 (40 * k + p)) (W a) (W b)) 40 : Nat) : Int) ∧ z 150 70 = ((cnBt (shC (fun p => h 157 (40 * k + p)) (W a) (W b)) 40 : Nat) : Int)) ∧ (z 150 71 = ((hyS (cnBt (shN (W a) (W b)) 40) (cnBt (shA (fun p => h 157 (40 * k + p)) (W a) (W b)) 40) (cnBt (shB (fun p => h 157 (40 * k + p)) (W a) (W b)) 40) (cnBt (shC (fun p => h 157 (40 * k + p)) (W a) (W b)) 40) (cnBt (shB (fun p => h 157 (40 * k + p)) (W a) (W b)) 40 + 1 - cnBt (shC (fun p => h 157 (40 * k + p)) (W a) (W b)) 40) : Nat) : Int) ∧ z 150 72 = ((chN (cnBt (shN (W a) (W b)) 40) (cnBt (shB (fun p => h 157 (40 * k + p)) (W a) (W b)) 40) : Nat) : Int)) ∧ ∀ e j, ¬ cMH e j → z e j = h e j) := by
  generalize hww : (fun p => h 157 (40 * k + p)) = ww
  have eww : ∀ p, h 157 (40 * k + p) = ww p := fun p => by rw [← hww]
  have c40 : ∀ f : Nat → Bool, (∀ p, n ≤ p → f p = false) → cnBt f 40 = cnBt f n := fun f hf => by
    have e := cnBt_ext (f := f) (n := n) (40 - n) (fun i h1 _ => hf i h1)
    rw [show n + (40 - n) = 40 from by omega] at e
    exact e
  have eN : cnBt (shN (W a) (W b)) 40 = cnBt (shN (W a) (W b)) n := c40 _ (fun p hp => decide_eq_false (fun q => q.1 (hz a p hp)))
  have eA : cnBt (shA ww (W a) (W b)) 40 = cnBt (shA ww (W a) (W b)) n := c40 _ (fun p hp => decide_eq_false (fun q => q.1 (hz a p hp)))
  have eB : cnBt (shB ww (W a) (W b)) 40 = cnBt (shB ww (W a) (W b)) n := c40 _ (fun p hp => decide_eq_false (fun q => q.1 (hz a p hp)))
  have eC : cnBt (shC ww (W a) (W b)) 40 = cnBt (shC ww (W a) (W b)) n := c40 _ (fun p hp => decide_eq_false (fun q => q.1 (hz a p hp)))
  have sl := sh_le ww (W a) (W b) n
  have l40 := cnBt_le (shN (W a) (W b)) n
  rw [eN, eA, eB, eC]
  have SA : ∀ u : Hp, (∀ e j, ¬ cMH e j → u e j = h e j) → ∀ (wr p : Nat), wr < 8 → p < 40 → X12_slipsAt (wr : Int) (k : Int) (p : Int) u = some (if W wr p ≠ -1 ∧ W wr p ≠ ww p then 1 else 0) := fun u hu wr p h1 h2 => by
    have e7 : u 157 (40 * k + p) = ww p := by rw [hu 157 _ (by unfold cMH; omega), eww]
    have := slipsAt_s (W := W) (h := u) (LYw_cg (fun j => hu 185 j (by unfold cMH; omega)) L) (hW wr p) h1 h2 hk (by rw [hu 157 _ (by unfold cMH; omega)]; exact h7 _)
    rw [e7] at this
    exact this
  have HP : ∀ u : Hp, (∀ e j, ¬ cMH e j → u e j = h e j) → ∀ (wr p : Nat), wr < 8 → p < 40 → X12_hasPlace (wr : Int) (p : Int) u = some (if W wr p = -1 then 0 else 1) := fun u hu wr p h1 h2 =>
    hasP_s (W := W) (h := u) (LYw_cg (fun j => hu 185 j (by unfold cMH; omega)) L) (hW wr p) h1 h2
  unfold X12_shares
  rw [OK_bindE]
  refine OK_mono (iter_up (fun p s => p ≤ n ∧ ∃ g : Hp, s = ((p : Int), g) ∧ (g 150 67 = ((cnBt (shN (W a) (W b)) p : Nat) : Int) ∧ g 150 68 = ((cnBt (shA ww (W a) (W b)) p : Nat) : Int) ∧ g 150 69 = ((cnBt (shB ww (W a) (W b)) p : Nat) : Int) ∧ g 150 70 = ((cnBt (shC ww (W a) (W b)) p : Nat) : Int)) ∧ ∀ e j, ¬ cMH e j → g e j = h e j) (fun g => (g 150 67 = ((cnBt (shN (W a) (W b)) n : Nat) : Int) ∧ g 150 68 = ((cnBt (shA ww (W a) (W b)) n : Nat) : Int) ∧ g 150 69 = ((cnBt (shB ww (W a) (W b)) n : Nat) : Int) ∧ g 150 70 = ((cnBt (shC ww (W a) (W b)) n : Nat) : Int)) ∧ ∀ e j, ¬ cMH e j → g e j = h e j) n (by omega) (fun p s hp hI => ?_) ⟨Nat.zero_le _, _, rfl, ⟨?_, ?_, ?_, ?_⟩, fun e j hq => ?_⟩) (fun g hg => ?_)
  · obtain ⟨-, g, rfl, ⟨g1, g2, g3, g4⟩, gf⟩ := hI
    unfold X12_shares_l14
    dsimp only
    refine OK_gi (by omega) (by omega) (by omega) ?_
    simp only [wtn k rfl (by omega), gf 156 k (by unfold cMH; omega), h6, w32_id (z := (n : Int)) (by omega) (by omega), w32_id (z := (p : Int)) (by omega) (by omega)]
    refine OK_if (fun c => ?_) (fun c => ?_)
    · rw [OK_some, LQ_r]
      have : p = n := by omega
      subst this
      exact ⟨⟨g1, g2, g3, g4⟩, gf⟩
    · have hp40 : p < 40 := by omega
      have skip : ¬ (W a p ≠ -1 ∧ W b p ≠ -1) → OK (X12_shares_j96 (a : Int) (b : Int) (k : Int) (p : Int) g) (LQ (fun (s' : Int × Hp) => p < n ∧ (p + 1 ≤ n ∧ ∃ g : Hp, s' = (((p + 1 : Nat) : Int), g) ∧ (g 150 67 = ((cnBt (shN (W a) (W b)) (p + 1) : Nat) : Int) ∧ g 150 68 = ((cnBt (shA ww (W a) (W b)) (p + 1) : Nat) : Int) ∧ g 150 69 = ((cnBt (shB ww (W a) (W b)) (p + 1) : Nat) : Int) ∧ g 150 70 = ((cnBt (shC ww (W a) (W b)) (p + 1) : Nat) : Int)) ∧ ∀ e j, ¬ cMH e j → g e j = h e j)) (fun (g : Hp) => (g 150 67 = ((cnBt (shN (W a) (W b)) n : Nat) : Int) ∧ g 150 68 = ((cnBt (shA ww (W a) (W b)) n : Nat) : Int) ∧ g 150 69 = ((cnBt (shB ww (W a) (W b)) n : Nat) : Int) ∧ g 150 70 = ((cnBt (shC ww (W a) (W b)) n : Nat) : Int)) ∧ ∀ e j, ¬ cMH e j → g e j = h e j)) := by
        intro hq
        unfold X12_shares_j96
        rw [OK_some, LQ_l]
        refine ⟨by omega, by omega, g, rfl, ?_, gf⟩
        rw [cnBt_n (f := shN (W a) (W b)) (decide_eq_false hq), cnBt_n (f := shA ww (W a) (W b)) (decide_eq_false (fun q => hq ⟨q.1, q.2.1⟩)), cnBt_n (f := shB ww (W a) (W b)) (decide_eq_false (fun q => hq ⟨q.1, q.2.1⟩)), cnBt_n (f := shC ww (W a) (W b)) (decide_eq_false (fun q => hq ⟨q.1, q.2.1⟩))]
        exact ⟨g1, g2, g3, g4⟩
      rw [HP g gf a p ha hp40, OK_bindE, OK_some]
      by_cases dA : W a p = -1
      · rw [if_pos dA]
        exact OK_gd (by decide) (skip (fun q => q.1 dA))
      · rw [if_neg dA]
        refine OK_gn (by decide) ?_
        rw [HP g gf b p hb hp40, OK_bindE, OK_some]
        by_cases dB : W b p = -1
        · rw [if_pos dB]
          exact OK_gn (by decide) (skip (fun q => q.2 dB))
        · rw [if_neg dB]
          refine OK_gd (by decide) ?_
          have f1 : ∀ v e j, ¬ cMH e j → setH g 150 67 v e j = h e j := fun v e j q => by
            rw [setH_f (by unfold cMH at q; omega), gf e j q]
          have f2 : ∀ v w e j, ¬ cMH e j → setH (setH g 150 67 v) 150 68 w e j = h e j := fun v w e j q => by
            rw [setH_f (by unfold cMH at q; omega), f1 v e j q]
          have f3 : ∀ v w y e j, ¬ cMH e j → setH (setH (setH g 150 67 v) 150 68 w) 150 69 y e j = h e j := fun v w y e j q => by
            rw [setH_f (by unfold cMH at q; omega), f2 v w e j q]
          rw [SA _ (f1 _) a p ha hp40, OK_bindE, OK_some, if_01 (fun v => X12_shares_j49 (a : Int) (b : Int) (k : Int) (p : Int) (g 150 68) v (setH g 150 67 (g 150 67 + 1)))]
          unfold X12_shares_j49
          rw [SA _ (f2 _ _) b p hb hp40, OK_bindE, OK_some, setH_n (show (69 : Nat) ≠ 67 by decide)]
          generalize hvA : (if W a p ≠ -1 ∧ W a p ≠ ww p then (1 : Int) else 0) = vA
          rw [if_01 (fun v => X12_shares_j63 (a : Int) (b : Int) (k : Int) (p : Int) (g 150 69) v (setH (setH g 150 67 (g 150 67 + 1)) 150 68 (g 150 68 + vA)))]
          generalize hvB : (if W b p ≠ -1 ∧ W b p ≠ ww p then (1 : Int) else 0) = vB
          have fin : ∀ vC : Int, vC = (if W a p ≠ -1 ∧ W b p ≠ -1 ∧ W a p ≠ ww p ∧ W a p = W b p then (1 : Int) else 0) → OK (some (Sum.inl ((p : Int) + 1, setH (setH (setH (setH g 150 67 (g 150 67 + 1)) 150 68 (g 150 68 + vA)) 150 69 (g 150 69 + vB)) 150 70 (g 150 70 + vC)))) (LQ (fun (s' : Int × Hp) => p < n ∧ (p + 1 ≤ n ∧ ∃ g : Hp, s' = (((p + 1 : Nat) : Int), g) ∧ (g 150 67 = ((cnBt (shN (W a) (W b)) (p + 1) : Nat) : Int) ∧ g 150 68 = ((cnBt (shA ww (W a) (W b)) (p + 1) : Nat) : Int) ∧ g 150 69 = ((cnBt (shB ww (W a) (W b)) (p + 1) : Nat) : Int) ∧ g 150 70 = ((cnBt (shC ww (W a) (W b)) (p + 1) : Nat) : Int)) ∧ ∀ e j, ¬ cMH e j → g e j = h e j)) (fun (g : Hp) => (g 150 67 = ((cnBt (shN (W a) (W b)) n : Nat) : Int) ∧ g 150 68 = ((cnBt (shA ww (W a) (W b)) n : Nat) : Int) ∧ g 150 69 = ((cnBt (shB ww (W a) (W b)) n : Nat) : Int) ∧ g 150 70 = ((cnBt (shC ww (W a) (W b)) n : Nat) : Int)) ∧ ∀ e j, ¬ cMH e j → g e j = h e j)) := by
            intro vC hvC
            rw [OK_some, LQ_l]
            refine ⟨by omega, by omega, _, rfl, ⟨?_, ?_, ?_, ?_⟩, fun e j q => by rw [setH_f (by unfold cMH at q; omega), f3 _ _ _ e j q]⟩
            · rw [setH_n (by decide), setH_n (by decide), setH_n (by decide), setH_s, g1, cnBt_t (f := shN (W a) (W b)) (decide_eq_true ⟨dA, dB⟩)]
              rfl
            · rw [setH_n (by decide), setH_n (by decide), setH_s, g2, ← hvA]
              refine (cnBt_i ?_).symm
              unfold shA
              rw [decide_eq_true_iff]
              exact ⟨fun q => ⟨q.1, q.2.2⟩, fun q => ⟨q.1, dB, q.2⟩⟩
            · rw [setH_n (by decide), setH_s, g3, ← hvB]
              refine (cnBt_i ?_).symm
              unfold shB
              rw [decide_eq_true_iff]
              exact ⟨fun q => ⟨q.2.1, q.2.2⟩, fun q => ⟨dA, q.1, q.2⟩⟩
            · rw [setH_s, g4, hvC]
              refine (cnBt_i ?_).symm
              unfold shC
              rw [decide_eq_true_iff]
          unfold X12_shares_j63 X12_shares_j93 X12_shares_j94 X12_shares_j96
          rw [SA _ (f3 _ _ _) a p ha hp40, OK_bindE, OK_some, setH_n (show (70 : Nat) ≠ 68 by decide), setH_n (show (70 : Nat) ≠ 67 by decide)]
          by_cases eA2 : W a p ≠ ww p
          · rw [if_pos (show W a p ≠ -1 ∧ W a p ≠ ww p from ⟨dA, eA2⟩)]
            refine OK_gn (by decide) (OK_gi (by omega) (by omega) (by omega) (OK_gi (by omega) (by omega) (by omega) ?_))
            have wa := hW a p
            have wb := hW b p
            have ga : ∀ q, setH (setH g 150 67 (g 150 67 + 1)) 150 68 (g 150 68 + vA) 185 q = h 185 q := fun q => f2 _ _ 185 q (by unfold cMH; omega)
            simp only [ga, wtn (v := 40 * (a : Int) + (p : Int)) (40 * a + p) (by omega) (by omega), wtn (v := 40 * (b : Int) + (p : Int)) (40 * b + p) (by omega) (by omega), L a p ha hp40, L b p hb hp40, w32_id (z := W a p) (by omega) (by omega), w32_id (z := W b p) (by omega) (by omega)]
            refine OK_if (fun d => ?_) (fun d => ?_)
            · exact fin 0 (by rw [if_neg (fun q => d q.2.2.2)])
            · exact fin 1 (by rw [if_pos ⟨dA, dB, eA2, by omega⟩])
          · rw [if_neg (show ¬ (W a p ≠ -1 ∧ W a p ≠ ww p) from fun q => eA2 q.2)]
            refine OK_gd (by decide) ?_
            exact fin 0 (by rw [if_neg (fun q => eA2 q.2.2.1)])
  · rw [setH_n (by decide), setH_n (by decide), setH_n (by decide), setH_s]
    rfl
  · rw [setH_n (by decide), setH_n (by decide), setH_s]
    rfl
  · rw [setH_n (by decide), setH_s]
    rfl
  · rw [setH_s]
    rfl
  · unfold cMH at hq
    rw [setH_f (by omega), setH_f (by omega), setH_f (by omega), setH_f (by omega)]
  · obtain ⟨⟨g1, g2, g3, g4⟩, gf⟩ := hg
    generalize cnBt (shN (W a) (W b)) n = cn at g1 sl l40 ⊢
    generalize cnBt (shA ww (W a) (W b)) n = ca at g2 sl ⊢
    generalize cnBt (shB ww (W a) (W b)) n = cb at g3 sl ⊢
    generalize cnBt (shC ww (W a) (W b)) n = cc at g4 sl ⊢
    rw [g4, OK_bindE]
    refine OK_mono (iter_up (fun t s => t ≤ cb + 1 - cc ∧ ∃ u : Hp, s = (((cc + t : Nat) : Int), u) ∧ u 150 71 = ((hyS cn ca cb cc t : Nat) : Int) ∧ ∀ e j, ¬ (e = 150 ∧ j = 71) → u e j = g e j) (fun u => u 150 71 = ((hyS cn ca cb cc (cb + 1 - cc) : Nat) : Int) ∧ ∀ e j, ¬ (e = 150 ∧ j = 71) → u e j = g e j) (cb + 1 - cc) (by omega) (fun t s ht hI => ?_) ⟨Nat.zero_le _, _, rfl, by rw [setH_s]; rfl, fun e j q => by rw [setH_f (by omega)]⟩) (fun u hu => ?_)
    · obtain ⟨-, u, rfl, u1, uf⟩ := hI
      unfold X12_shares_l104
      dsimp only
      have e1 : (cn : Int) - (ca : Int) = ((cn - ca : Nat) : Int) := by omega
      simp only [uf 150 67 (by decide), uf 150 68 (by decide), uf 150 69 (by decide), g1, g2, g3, u1, w32_id (z := (cb : Int)) (by omega) (by omega), w32_id (z := ((cc + t : Nat) : Int)) (by omega) (by omega)]
      refine OK_if (fun c => ?_) (fun c => ?_)
      · rw [OK_some, LQ_r]
        have : t = cb + 1 - cc := by omega
        subst this
        exact ⟨u1, uf⟩
      · have e2 : (cb : Int) - ((cc + t : Nat) : Int) = ((cb - (cc + t) : Nat) : Int) := by omega
        rw [choices_s (by omega) (by omega), OK_bindE, OK_some, e1, e2, choices_s (by omega) (by omega), OK_bindE, OK_some, OK_some, LQ_l]
        exact ⟨by omega, by omega, _, rfl, by rw [setH_s, hyS_s]; rfl, fun e j q => by rw [setH_f q, uf e j q]⟩
    · obtain ⟨u1, uf⟩ := hu
      have ug : ∀ e j, ¬ cMH e j → u e j = h e j := fun e j q => by rw [uf e j (by unfold cMH at q; omega), gf e j q]
      rw [uf 150 67 (by decide), uf 150 69 (by decide), g1, g3, choices_s (by omega) (by omega), OK_bindE, OK_some, OK_some]
      refine ⟨⟨?_, ?_, ?_, ?_⟩, ⟨?_, ?_⟩, fun e j q => by rw [setH_f (by unfold cMH at q; omega), ug e j q]⟩
      · rw [setH_n (by decide), uf 150 67 (by decide), g1]
      · rw [setH_n (by decide), uf 150 68 (by decide), g2]
      · rw [setH_n (by decide), uf 150 69 (by decide), g3]
      · rw [setH_n (by decide), uf 150 70 (by decide), g4]
      · rw [setH_n (by decide), u1]
      · rw [setH_s]
