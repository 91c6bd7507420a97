/-! FROM WHOM: the other side -/
theorem frC_i {ww W V : Nat → Int} {p : Nat} {c : Int} (hc : c = (if W p = -1 then 0 else if W p ≠ ww p then (if W p ≠ V p then 1 else 0) else (if V p ≠ -1 ∧ V p ≠ ww p then 2 else 0))) : ((frC ww W V (p + 1) : Nat) : Int) = ((frC ww W V p : Nat) : Int) + c := by
  unfold frC
  have e1 := cnBt_i (f := frO ww W V) (p := p) (c := W p ≠ -1 ∧ W p ≠ ww p ∧ W p ≠ V p) (dc := inferInstance) (by unfold frO; rw [decide_eq_true_iff])
  have e2 := cnBt_i (f := frM ww W V) (p := p) (c := W p ≠ -1 ∧ W p = ww p ∧ V p ≠ -1 ∧ V p ≠ ww p) (dc := inferInstance) (by unfold frM; rw [decide_eq_true_iff])
  rw [hc]
  by_cases a : W p = -1
  · rw [if_neg (fun q => q.1 a)] at e1 e2
    rw [if_pos a]
    omega
  · rw [if_neg a]
    by_cases b : W p ≠ ww p
    · rw [if_neg (fun q => b q.2.1)] at e2
      rw [if_pos b]
      by_cases d : W p ≠ V p
      · rw [if_pos ⟨a, b, d⟩] at e1
        rw [if_pos d]
        omega
      · rw [if_neg (fun q => d q.2.2)] at e1
        rw [if_neg d]
        omega
    · rw [if_neg (fun q => b q.2.1)] at e1
      rw [if_neg b]
      by_cases d : V p ≠ -1 ∧ V p ≠ ww p
      · rw [if_pos ⟨a, by omega, d⟩] at e2
        rw [if_pos d]
        omega
      · rw [if_neg (fun q => d q.2.2)] at e2
        rw [if_neg d]
        omega
theorem costM_s {W : Nat → Nat → Int} {h : Hp} {a o k n : Nat} {v3 v4 : Int} (L : LYw W h) (hW : ∀ wr p, -1 ≤ W wr p ∧ W wr p ≤ 63) (ha : a < 8) (ho : o < 8) (hk : k < 8) (h7 : ∀ j, 0 ≤ h 157 j ∧ h 157 j ≤ 63) (h6 : h 156 k = (n : Int)) (hn : n ≤ 40) (hz : ∀ wr p, n ≤ p → W wr p = -1) : iter (X12_fromOf_l43 (a : Int) (k : Int) v3 v4 (o : Int)) FU (1, 0, h) = some (((frC (fun p => h 157 (40 * k + p)) (W a) (W o) 40 : Nat) : Int), h) := by
  have e40 : frC (fun p => h 157 (40 * k + p)) (W a) (W o) 40 = frC (fun p => h 157 (40 * k + p)) (W a) (W o) n := by
    unfold frC
    have e1 := cnBt_ext (f := frO (fun p => h 157 (40 * k + p)) (W a) (W o)) (n := n) (40 - n) (fun i h1 _ => decide_eq_false (fun q => q.1 (hz a i h1)))
    have e2 := cnBt_ext (f := frM (fun p => h 157 (40 * k + p)) (W a) (W o)) (n := n) (40 - n) (fun i h1 _ => decide_eq_false (fun q => q.1 (hz a i h1)))
    rw [show n + (40 - n) = 40 from by omega] at e1 e2
    rw [e1, e2]
  rw [e40]
  have key : OK (iter (X12_fromOf_l43 (a : Int) (k : Int) v3 v4 (o : Int)) FU (1, 0, h)) (fun z => z = (((frC (fun p => h 157 (40 * k + p)) (W a) (W o) n : Nat) : Int), h)) := by
    refine iter_up (fun p s => p ≤ n ∧ s = (((frC (fun p => h 157 (40 * k + p)) (W a) (W o) p : Nat) : Int), (p : Int), h)) _ n (by omega) (fun p s hp hI => ?_) ⟨Nat.zero_le _, rfl⟩
    obtain ⟨-, rfl⟩ := hI
    unfold X12_fromOf_l43 X12_fromOf_j95 X12_fromOf_j82 X12_fromOf_j97
    dsimp only
    refine OK_gi (by omega) (by omega) (by omega) ?_
    simp only [wtn k rfl (by omega), h6, w32_id (z := (n : Int)) (by omega) (by omega), w32_id (z := (p : Int)) (by omega) (by omega)]
    refine OK_if (fun c => ?_) (fun c => ?_)
    · rw [OK_some, LQ_r, show p = n from by omega]
    · have hp40 : p < 40 := by omega
      have wa := hW a p
      have wo := hW o p
      have fin : ∀ c : Int, c = (if W a p = -1 then 0 else if W a p ≠ h 157 (40 * k + p) then (if W a p ≠ W o p then 1 else 0) else (if W o p ≠ -1 ∧ W o p ≠ h 157 (40 * k + p) then 2 else 0)) → LQ (fun (s' : Int × Int × Hp) => p < n ∧ (p + 1 ≤ n ∧ s' = (((frC (fun p => h 157 (40 * k + p)) (W a) (W o) (p + 1) : Nat) : Int), ((p + 1 : Nat) : Int), h))) (fun z : Int × Hp => z = (((frC (fun p => h 157 (40 * k + p)) (W a) (W o) n : Nat) : Int), h)) (Sum.inl (((frC (fun p => h 157 (40 * k + p)) (W a) (W o) p : Nat) : Int) + c, (p : Int) + 1, h)) := by
        intro c hc
        rw [LQ_l, frC_i (ww := fun p => h 157 (40 * k + p)) (W := W a) (V := W o) hc]
        exact ⟨by omega, by omega, rfl⟩
      rw [hasP_s L (hW a p) ha hp40, OK_bindE, OK_some]
      by_cases d1 : W a p = -1
      · rw [if_pos d1]
        refine OK_gn (by decide) ?_
        rw [OK_some]
        have := fin 0 (by rw [if_pos d1])
        rw [Int.add_zero] at this
        exact this
      · rw [if_neg d1]
        refine OK_gd (by decide) ?_
        rw [slipsAt_s L (hW a p) ha hp40 hk (h7 _), OK_bindE, OK_some]
        by_cases d2 : W a p ≠ h 157 (40 * k + p)
        · rw [if_pos (show W a p ≠ -1 ∧ W a p ≠ h 157 (40 * k + p) from ⟨d1, d2⟩)]
          refine OK_gn (by decide) (OK_gi (by omega) (by omega) (by omega) (OK_gi (by omega) (by omega) (by omega) ?_))
          simp only [wtn (v := 40 * (a : Int) + (p : Int)) (40 * a + p) (by omega) (by omega), wtn (v := 40 * (o : Int) + (p : Int)) (40 * o + p) (by omega) (by omega), L a p ha hp40, L o p ho hp40, w32_id (z := W a p) (by omega) (by omega), w32_id (z := W o p) (by omega) (by omega)]
          refine OK_if (fun d3 => ?_) (fun d3 => ?_)
          · rw [OK_some]
            exact fin 1 (by rw [if_neg d1, if_pos d2, if_pos d3])
          · rw [OK_some]
            exact fin 0 (by rw [if_neg d1, if_pos d2, if_neg d3])
        · rw [if_neg (show ¬ (W a p ≠ -1 ∧ W a p ≠ h 157 (40 * k + p)) from fun q => d2 q.2)]
          refine OK_gd (by decide) ?_
          rw [slipsAt_s L (hW o p) ho hp40 hk (h7 _), OK_bindE, OK_some]
          by_cases d3 : W o p ≠ -1 ∧ W o p ≠ h 157 (40 * k + p)
          · rw [if_pos d3]
            refine OK_gn (by decide) ?_
            rw [OK_some]
            exact fin 2 (by rw [if_neg d1, if_neg d2, if_pos d3])
          · rw [if_neg d3]
            refine OK_gd (by decide) ?_
            rw [OK_some]
            exact fin 0 (by rw [if_neg d1, if_neg d2, if_neg d3])
  obtain ⟨z, ez, hz2⟩ := OK_ex key
  rw [ez, hz2]
theorem fromOf_s {W : Nat → Nat → Int} {h : Hp} {a k n nw : Nat} (L : LYw W h) (hW : ∀ wr p, -1 ≤ W wr p ∧ W wr p ≤ 63) (ha : a < 8) (hk : k < 8) (h7 : ∀ j, 0 ≤ h 157 j ∧ h 157 j ≤ 63) (h6 : h 156 k = (n : Int)) (hn : n ≤ 40) (hz : ∀ wr (p : Nat), n ≤ p → W wr p = -1) (hnw : h 150 4 = (nw : Int)) (hw8 : nw ≤ 8) (h9 : ∀ j, 0 ≤ h 159 j ∧ h 159 j ≤ 999) : OK (X12_fromOf (a : Int) (k : Int) h) (fun z => z.1 = (frF (fun p => h 157 (40 * k + p)) W (h 159) a nw).1 ∧ z.2 150 74 = (((frF (fun p => h 157 (40 * k + p)) W (h 159) a nw).2 : Nat) : Int) ∧ ∀ e j, ¬ (e = 150 ∧ j = 74) → z.2 e j = h e j) := by
  unfold X12_fromOf
  rw [OK_bindE]
  refine OK_mono (slipsOf_s (wr := a) (k := k) L (fun pl => hW a pl) ha hk h7 (by omega) (fun pl q => hz a pl (by omega))) (fun Q hQ => ?_)
  have c0 : cnBt (tb Q) 64 = cnBt (frL (fun p => h 157 (40 * k + p)) (W a)) 40 := cnBt_40 (fun i hi => by
    rw [hQ.2 i hi]
    unfold frL
    by_cases c : i < 40 <;> simp [c])
  rw [sizeOf_s, OK_bindE, OK_some, c0]
  generalize hg : setH h 150 74 ((cnBt (frL (fun p => h 157 (40 * k + p)) (W a)) 40 : Nat) : Int) = g
  have gf : ∀ e j, ¬ (e = 150 ∧ j = 74) → g e j = h e j := fun e j q => by rw [← hg, setH_f q]
  have g74 : g 150 74 = ((cnBt (frL (fun p => h 157 (40 * k + p)) (W a)) 40 : Nat) : Int) := by rw [← hg, setH_s]
  rw [OK_bindE]
  refine OK_mono (placesOf_s (wr := a) (h := g) (LYw_cg (fun j => gf 185 j (by omega)) L) (fun pl => hW a pl) ha) (fun P hP => ?_)
  rw [OK_bindE]
  refine OK_mono (iter_up (fun o s => o ≤ nw ∧ ∃ u : Hp, s = ((frF (fun p => h 157 (40 * k + p)) W (h 159) a o).1, (o : Int), u) ∧ u 150 74 = (((frF (fun p => h 157 (40 * k + p)) W (h 159) a o).2 : Nat) : Int) ∧ ∀ e j, ¬ (e = 150 ∧ j = 74) → u e j = h e j) (fun z => z.1 = (frF (fun p => h 157 (40 * k + p)) W (h 159) a nw).1 ∧ z.2 150 74 = (((frF (fun p => h 157 (40 * k + p)) W (h 159) a nw).2 : Nat) : Int) ∧ ∀ e j, ¬ (e = 150 ∧ j = 74) → z.2 e j = h e j) nw (by omega) (fun o s ho hI => ?_) ⟨Nat.zero_le _, g, rfl, g74, gf⟩) (fun z hz2 => by rw [OK_some]; exact hz2)
  obtain ⟨-, u, rfl, u74, uf⟩ := hI
  unfold X12_fromOf_l15 X12_fromOf_j109
  dsimp only
  have u9 : ∀ j, u 159 j = h 159 j := fun j => uf 159 j (by omega)
  have ba := h9 a
  have bo := h9 o
  simp only [uf 150 4 (by decide), hnw, w32_id (z := (nw : Int)) (by omega) (by omega), w32_id (z := (o : Int)) (by omega) (by omega)]
  refine OK_if (fun c => ?_) (fun c => ?_)
  · rw [OK_some, LQ_r]
    have : o = nw := by omega
    subst this
    exact ⟨rfl, u74, uf⟩
  · have ho8 : o < 8 := by omega
    have Lu : LYw W u := LYw_cg (fun j => uf 185 j (by omega)) L
    have skip : ¬ (h 159 o < h 159 a ∧ cnBt (frX (W a) (W o)) 40 = 0 ∧ frC (fun p => h 157 (40 * k + p)) (W a) (W o) 40 < (frF (fun p => h 157 (40 * k + p)) W (h 159) a o).2) → LQ (fun (s' : Int × Int × Hp) => o < nw ∧ (o + 1 ≤ nw ∧ ∃ u : Hp, s' = ((frF (fun p => h 157 (40 * k + p)) W (h 159) a (o + 1)).1, ((o + 1 : Nat) : Int), u) ∧ u 150 74 = (((frF (fun p => h 157 (40 * k + p)) W (h 159) a (o + 1)).2 : Nat) : Int) ∧ ∀ e j, ¬ (e = 150 ∧ j = 74) → u e j = h e j)) (fun z : Int × Hp => z.1 = (frF (fun p => h 157 (40 * k + p)) W (h 159) a nw).1 ∧ z.2 150 74 = (((frF (fun p => h 157 (40 * k + p)) W (h 159) a nw).2 : Nat) : Int) ∧ ∀ e j, ¬ (e = 150 ∧ j = 74) → z.2 e j = h e j) (Sum.inl ((frF (fun p => h 157 (40 * k + p)) W (h 159) a o).1, (o : Int) + 1, u)) := by
      intro hq
      rw [LQ_l, frF_s, if_neg hq]
      exact ⟨by omega, by omega, u, rfl, u74, uf⟩
    have bF := frF_b (fun p => h 157 (40 * k + p)) W (h 159) a o
    have bC := frC_b (fun p => h 157 (40 * k + p)) (W a) (W o) 40
    refine OK_gi (by omega) (by omega) (by omega) (OK_gi (by omega) (by omega) (by omega) ?_)
    simp only [wtn a rfl (by omega), tn, u9, w32_id (z := h 159 a) (by omega) (by omega), w32_id (z := h 159 o) (by omega) (by omega)]
    refine OK_if (fun d => ?_) (fun d => ?_)
    · rw [OK_some]
      exact skip (fun q => by omega)
    · rw [OK_bindE]
      refine OK_mono (placesOf_s (wr := o) (h := u) Lu (fun pl => hW o pl) ho8) (fun Q2 hQ2 => ?_)
      have sz := sub_z hP.2 hQ2.2
      refine OK_if (fun e => ?_) (fun e => ?_)
      · have e7 : (fun p => u 157 (40 * k + p)) = (fun p => h 157 (40 * k + p)) := funext fun p => uf 157 _ (by omega)
        have cm := costM_s (a := a) (o := o) (k := k) (n := n) (v3 := (frF (fun p => h 157 (40 * k + p)) W (h 159) a o).1) (v4 := P) Lu hW ha ho8 hk (fun j => by rw [uf 157 j (by omega)]; exact h7 j) (by rw [uf 156 k (by omega), h6]) hn hz
        rw [e7] at cm
        rw [cm, OK_bindE, OK_some]
        dsimp only
        simp only [u74, w32_id (z := ((frC (fun p => h 157 (40 * k + p)) (W a) (W o) 40 : Nat) : Int)) (by omega) (by omega), w32_id (z := (((frF (fun p => h 157 (40 * k + p)) W (h 159) a o).2 : Nat) : Int)) (by omega) (by omega)]
        refine OK_if (fun f => ?_) (fun f => ?_)
        · have hyes : h 159 o < h 159 a ∧ cnBt (frX (W a) (W o)) 40 = 0 ∧ frC (fun p => h 157 (40 * k + p)) (W a) (W o) 40 < (frF (fun p => h 157 (40 * k + p)) W (h 159) a o).2 := ⟨by omega, sz.mp e, by omega⟩
          rw [OK_some, LQ_l, frF_s, if_pos hyes]
          exact ⟨by omega, by omega, _, rfl, by rw [setH_s], fun e j q => by rw [setH_f q]; exact uf e j q⟩
        · rw [OK_some]
          exact skip (fun q => by have := q.2.2; omega)
      · rw [OK_some]
        exact skip (fun q => e (sz.mpr q.2.1))
