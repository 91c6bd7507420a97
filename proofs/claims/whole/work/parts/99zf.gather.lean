/-! SLIPS: gathered by the one side -/
def cXG (s a j : Nat) : Prop := (54 ≤ a ∧ a ≤ 58) ∨ (a = s ∧ (j = 3 ∨ j = 4)) ∨ a = s + 1
theorem addB_s {x m : Hp} (R : RS x m) {ww W : Nat → Int} {s i k f : Nat} (hs : s = 62 ∨ s = 64) (hi : (i : Int) < m 150 5) (hk : k < 8) (hf : (f : Int) + m 164 i ≤ 40) (hww : ∀ p, ww p = m 157 (40 * k + p)) (H : SLw ww W s x) : OK (iter (X8_addBit_l30 s (i : Int) (k : Int) (f : Int) (m 164 i)) FU (0, x)) (fun g => SLw ww (gvP W f (m 164 i).toNat (fun p => m 165 (8 * i + p))) s g ∧ ∀ a j, ¬ (a = s ∧ (j = 3 ∨ j = 4)) → a ≠ s + 1 → g a j = x a j) := by
  obtain ⟨⟨⟨-, -, -, e311⟩, ⟨-, -, -, -, -, e9, -, -⟩, ⟨-, -, -, -, e16⟩, e17, -⟩, S⟩ := id R
  obtain ⟨⟨-, -, -, b5⟩, -, ⟨-, b157, -⟩, -, ⟨b164, b165⟩, -⟩ := id S
  have b4 := b164 i
  obtain ⟨sz, hsz⟩ := Int.eq_ofNat_of_zero_le b4.1
  rw [hsz]
  refine iter_up (fun t st => t ≤ sz ∧ ∃ g : Hp, st = ((t : Int), g) ∧ SLw ww (gvP W f t (fun p => m 165 (8 * i + p))) s g ∧ ∀ a j, ¬ (a = s ∧ (j = 3 ∨ j = 4)) → a ≠ s + 1 → g a j = x a j) _ sz (by omega) (fun t st ht hI => ?_) ⟨Nat.zero_le _, x, rfl, by rw [gvP_0]; exact H, fun _ _ _ _ => rfl⟩
  obtain ⟨-, g, rfl, G, gf⟩ := hI
  unfold X8_addBit_l30 X8_addBit_j54
  dsimp only
  simp only [w32_id (z := (sz : Int)) (by omega) (by omega), w32_id (z := (t : Int)) (by omega) (by omega)]
  refine OK_if (fun c => ?_) (fun c => ?_)
  · rw [OK_some, LQ_r]
    have : t = sz := by omega
    subst this
    exact ⟨G, gf⟩
  · have c1 := b165 (8 * i + t)
    have c2 := b157 (40 * k + (f + t))
    have ec : (f : Int) + (t : Int) = ((f + t : Nat) : Int) := rfl
    have g17 : g 17 (8 * i + t) = m 165 (8 * i + t) := by
      rw [gf 17 _ (by omega) (by omega)]
      exact e17 i t hi (by omega)
    have g9 : g 9 (40 * k + (f + t)) = m 157 (40 * k + (f + t)) := by
      rw [gf 9 _ (by omega) (by omega), e9]
    rw [ec, has8_s (by omega), OK_bindE, OK_some]
    have gs := fun pl => gvP_s (W := W) (f := f) (t := t) (wd := fun p => m 165 (8 * i + p)) (by omega) pl
    have gW : gvP W f t (fun p => m 165 (8 * i + p)) (f + t) = W (f + t) := by
      unfold gvP
      rw [if_neg (by omega)]
    by_cases d : W (f + t) = -1
    · have hb : tb (g s 3) (f + t) = false := by
        rw [G.1 _ (by omega)]
        exact decide_eq_false (fun q => q.2 (by rw [gW]; exact d))
      rw [hb]
      refine OK_gn (by decide) ?_
      rw [bitWord_e (8 * i + t) (by omega) (by omega), OK_bindE, OK_some, workWord_e (40 * k + (f + t)) (by omega) (by omega), OK_bindE, OK_some, g17, g9, ← hww, OK_bindE]
      refine OK_mono (addP_s (p := f + t) (w := m 165 (8 * i + t)) (by omega) (by omega) (by rw [hww]; exact c2) G (by rw [gW]; exact d)) (fun z hz => ?_)
      rw [OK_some, LQ_l]
      refine ⟨by omega, by omega, z, rfl, ?_, fun a j h1 h2 => by rw [hz.2 a j h1 h2, gf a j h1 h2]⟩
      have e : gvP W f (t + 1) (fun p => m 165 (8 * i + p)) = fun q => if q = f + t then m 165 (8 * i + t) else gvP W f t (fun p => m 165 (8 * i + p)) q := by
        funext pl
        rw [gs pl]
        by_cases q : pl = f + t
        · rw [if_pos ⟨q, by rw [q]; exact d⟩, if_pos q]
        · rw [if_neg (fun r => q r.1), if_neg q]
      rw [e]
      exact hz.1
    · have hb : tb (g s 3) (f + t) = true := by
        rw [G.1 _ (by omega)]
        exact decide_eq_true ⟨by omega, fun q => d (by rw [← gW]; exact q)⟩
      rw [hb]
      refine OK_gd (by decide) ?_
      rw [OK_some, LQ_l]
      refine ⟨by omega, by omega, g, rfl, ?_, gf⟩
      have e : gvP W f (t + 1) (fun p => m 165 (8 * i + p)) = gvP W f t (fun p => m 165 (8 * i + p)) := by
        funext pl
        rw [gs pl, if_neg (fun r => d (by rw [← r.1]; exact r.2))]
      rw [e]
      exact G
theorem RS_cG {x z m : Hp} {s : Nat} (hs : s = 62 ∨ s = 64) (hz : ∀ a j, ¬ cXG s a j → z a j = x a j) (R : RS x m) : RS z m := RS_cg (fun a j h => hz a j (by unfold cXS at h; unfold cXG; omega)) (fun _ _ _ => rfl) R
theorem gather_s {x m : Hp} (R : RS x m) (C : RC x m) {s wr k n : Nat} (hs : s = 62 ∨ s = 64) (hn : m 150 5 = (n : Int)) (hwr : wr < 1000) (hk : k < 8) (hl : 1 ≤ m 156 k) : OK (X8_gather s (wr : Int) (k : Int) x) (fun z => SLw (fun p => m 157 (40 * k + p)) (hwF m k wr n) s z ∧ RC z m ∧ ∀ a j, ¬ cXG s a j → z a j = x a j) := by
  obtain ⟨-, S⟩ := id R
  obtain ⟨⟨-, b3, b4, b5⟩, -, ⟨b156, -⟩, ⟨b160, b161, -⟩, ⟨b164, b165⟩, ⟨bb, -⟩⟩ := id S
  unfold X8_gather
  rw [OK_bindE]
  refine OK_mono (iter_up (fun i st => i ≤ n ∧ ∃ g : Hp, st = ((i : Int), g) ∧ SLw (fun p => m 157 (40 * k + p)) (hwF m k wr i) s g ∧ RC g m ∧ ∀ a j, ¬ cXG s a j → g a j = x a j) (fun z => SLw (fun p => m 157 (40 * k + p)) (hwF m k wr n) s z ∧ RC z m ∧ ∀ a j, ¬ cXG s a j → z a j = x a j) n (by omega) (fun i st hi hI => ?_) ⟨Nat.zero_le _, _, rfl, ?_, ?_, fun a j h => ?_⟩) (fun z hz => hz)
  · obtain ⟨-, g, rfl, G, GC, gf⟩ := hI
    have Rg : RS g m := RS_cG hs gf R
    obtain ⟨⟨⟨-, -, -, e311⟩, -, ⟨e12, e13, e14, e15, e16⟩, -⟩, -⟩ := id Rg
    unfold X8_gather_l8 X8_gather_j39 X7_bits
    dsimp only
    rw [OK_bindE, OK_some]
    simp only [e311, hn, w32_id (z := (n : Int)) (by omega) (by omega), w32_id (z := (i : Int)) (by omega) (by omega)]
    refine OK_if (fun c => ?_) (fun c => ?_)
    · rw [OK_some, LQ_r]
      have : i = n := by omega
      subst this
      exact ⟨G, GC, gf⟩
    · have c0 := b160 i
      have c1 := b161 i
      have c4 := b164 i
      have cb := bb i (by omega)
      rw [bitWriter_in i (by omega) (by omega), OK_bindE, OK_some]
      simp only [e12, w32_id (z := m 160 i) (by omega) (by omega), w32_id (z := (wr : Int)) (by omega) (by omega)]
      have skip : ¬ (m 161 i = (k : Int) ∧ m 160 i = (wr : Int) ∧ qlB m i k = true) → ∀ h' : Hp, SLw (fun p => m 157 (40 * k + p)) (hwF m k wr i) s h' → RC h' m → (∀ a j, ¬ cXG s a j → h' a j = x a j) → OK (some (Sum.inl ((i : Int) + 1, h'))) (LQ (fun s' => i < n ∧ (i + 1 ≤ n ∧ ∃ g : Hp, s' = (((i + 1 : Nat) : Int), g) ∧ SLw (fun p => m 157 (40 * k + p)) (hwF m k wr (i + 1)) s g ∧ RC g m ∧ ∀ a j, ¬ cXG s a j → g a j = x a j)) (fun z => SLw (fun p => m 157 (40 * k + p)) (hwF m k wr n) s z ∧ RC z m ∧ ∀ a j, ¬ cXG s a j → z a j = x a j)) := by
        intro hq h' H1 H2 H3
        rw [OK_some, LQ_l]
        exact ⟨by omega, by omega, h', rfl, by rw [hwF_s, if_neg hq]; exact H1, H2, H3⟩
      by_cases d : m 160 i = (wr : Int)
      · refine OK_gn (fun q => q d) ?_
        rw [bitWork_in i (by omega) (by omega), OK_bindE, OK_some]
        simp only [e13, w32_id (z := m 161 i) (by omega) (by omega), w32_id (z := (k : Int)) (by omega) (by omega)]
        by_cases e : m 161 i = (k : Int)
        · refine OK_gn (fun q => q e) ?_
          rw [OK_bindE]
          refine OK_mono (find_s Rg GC (i := i) (k := k) (by omega) hk hl) (fun y hy => ?_)
          obtain ⟨y1, y2, y3⟩ := hy
          have gd := neM_gd S (i := i) (k := k) (by omega) hl
          have b6 := b156 k
          have y56 : y 56 (8 * i + k) = (neM m i k).1 := by rw [← y1]
          have y57 : y 57 (8 * i + k) = (neM m i k).2.1 := by rw [← y1]
          have y58 : y 58 (8 * i + k) = (neM m i k).2.2 := by rw [← y1]
          have yf : ∀ a j, ¬ cXG s a j → y a j = x a j := fun a j h => by
            rw [y3 a (by unfold cXG at h; omega) (by unfold cXG at h; omega), gf a j h]
          have Ry : RS y m := RS_cG hs yf R
          have GY : SLw (fun p => m 157 (40 * k + p)) (hwF m k wr i) s y := SLw_cg (congrFun (y3 s (by omega) (by omega)) 3) (congrFun (y3 s (by omega) (by omega)) 4) (y3 (s + 1) (by omega) (by omega)) G
          have yb : y 16 = m 164 := by
            obtain ⟨⟨-, -, ⟨-, -, -, -, q⟩, -⟩, -⟩ := id Ry
            exact q
          obtain ⟨f, hf⟩ := Int.eq_ofNat_of_zero_le gd.2.2.1
          unfold X1_firstPlace X8_addBit X1_lastPlace X1_leastFar
          rw [at_e (a := 57) (n := 320) (8 * i + k) (by omega) (by omega) (by omega), Option.bind_some, OK_bindE, OK_some]
          simp only [y57]
          rw [OK_bindE, bitSize_e i rfl (by omega), OK_bindE, OK_some, at_e (a := 58) (n := 320) (8 * i + k) (by omega) (by omega) (by omega), Option.bind_some, OK_bindE, OK_some]
          simp only [y58, yb, w32_id (z := m 164 i) (by omega) (by omega), w32_id (z := (neM m i k).2.2 - (neM m i k).2.1 + 1) (by omega) (by omega)]
          by_cases h1 : (neM m i k).2.2 - (neM m i k).2.1 + 1 = m 164 i
          · refine OK_gn (fun q => q h1) ?_
            rw [hf, others_s Ry (s := s) (f := f) (by omega) hk (by omega), OK_bindE, OK_some, at_e (a := 56) (n := 320) (8 * i + k) (by omega) (by omega) (by omega), Option.bind_some, OK_bindE, OK_some, y56]
            have eo : cnBt (fun p => decide (m 165 (8 * i + p) ≠ m 157 (40 * k + f + p))) (m 164 i).toNat = otW m i k := by
              unfold otW
              rw [hf, tn]
            have lo : otW m i k ≤ (m 164 i).toNat := cnBt_le _ _
            simp only [eo, w32_id (z := ((otW m i k : Nat) : Int)) (by omega) (by omega), w32_id (z := (neM m i k).1) (by omega) (by omega)]
            by_cases h2 : ((otW m i k : Nat) : Int) = (neM m i k).1
            · refine OK_gd h2 ?_
              rw [OK_bindE]
              refine OK_mono (addB_s Ry (W := hwF m k wr i) (f := f) hs (by omega) hk (by omega) (fun p => rfl) GY) (fun g2 hg2 => ?_)
              rw [OK_some, OK_some, LQ_l]
              have e57 : ∀ a j, 55 ≤ a ∧ a ≤ 58 → g2 a j = y a j := fun a j h => hg2.2 a j (by omega) (by omega)
              refine ⟨by omega, by omega, g2, rfl, ?_, RC_cg (fun a j h => e57 a j (by unfold cXC at h; omega)) (Int.le_refl _) (fun _ _ _ _ _ => ⟨rfl, rfl⟩) y2, fun a j h => by rw [hg2.2 a j (by unfold cXG at h; omega) (by unfold cXG at h; omega), yf a j h]⟩
              rw [hwF_s, if_pos ⟨e, d, by unfold qlB; rw [decide_eq_true_iff]; exact ⟨h1, h2⟩⟩, hf, tn]
              exact hg2.1
            · refine OK_gn h2 ?_
              rw [OK_some]
              exact skip (fun q => by have := q.2.2; unfold qlB at this; rw [decide_eq_true_iff] at this; exact h2 this.2) y GY y2 yf
          · refine OK_gd h1 ?_
            rw [OK_some]
            exact skip (fun q => by have := q.2.2; unfold qlB at this; rw [decide_eq_true_iff] at this; exact h1 this.1) y GY y2 yf
        · refine OK_gd e ?_
          exact skip (fun q => e q.1) g G GC gf
      · exact OK_gd d (skip (fun q => d q.2.1) g G GC gf)
  · refine ⟨fun pl hpl => ?_, fun pl hpl => ?_, fun pl _ h => absurd rfl h, ?_, ?_⟩
    · rw [setH_n (by decide), setH_s, tb_0]
      exact (decide_eq_false (fun q => q.2 rfl)).symm
    · rw [setH_s, tb_0]
      exact (decide_eq_false (fun q => q.2.1 rfl)).symm
    · rw [setH_n (by decide), setH_s, w64_0]
    · rw [setH_s, w64_0]
  · exact RC_cg (fun a j h => by rw [setH_o (by unfold cXC at h; omega), setH_o (by unfold cXC at h; omega)]) (Int.le_refl _) (fun _ _ _ _ _ => ⟨rfl, rfl⟩) C
  · rw [setH_f (by unfold cXG at h; omega), setH_f (by unfold cXG at h; omega)]
