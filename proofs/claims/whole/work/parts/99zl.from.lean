/-! FROM WHOM, THERE -/
def frO (ww W V : Nat → Int) (p : Nat) : Bool := decide (W p ≠ -1 ∧ W p ≠ ww p ∧ W p ≠ V p)
def frM (ww W V : Nat → Int) (p : Nat) : Bool := decide (W p ≠ -1 ∧ W p = ww p ∧ V p ≠ -1 ∧ V p ≠ ww p)
def frX (W V : Nat → Int) (p : Nat) : Bool := decide (W p ≠ -1 ∧ V p = -1)
def frL (ww W : Nat → Int) (p : Nat) : Bool := decide (W p ≠ -1 ∧ W p ≠ ww p)
def frP (W : Nat → Int) (p : Nat) : Bool := decide (W p ≠ -1)
def frC (ww W V : Nat → Int) (n : Nat) : Nat := 1 + cnBt (frO ww W V) n + 2 * cnBt (frM ww W V) n
def frF (ww : Nat → Int) (W : Nat → Nat → Int) (yr : Nat → Int) (a : Nat) : Nat → Int × Nat
  | 0 => (-1, cnBt (frL ww (W a)) 40)
  | o + 1 => if yr o < yr a ∧ cnBt (frX (W a) (W o)) 40 = 0 ∧ frC ww (W a) (W o) 40 < (frF ww W yr a o).2 then ((o : Int), frC ww (W a) (W o) 40) else frF ww W yr a o
theorem frF_s (ww : Nat → Int) (W : Nat → Nat → Int) (yr : Nat → Int) (a o : Nat) : frF ww W yr a (o + 1) = if yr o < yr a ∧ cnBt (frX (W a) (W o)) 40 = 0 ∧ frC ww (W a) (W o) 40 < (frF ww W yr a o).2 then ((o : Int), frC ww (W a) (W o) 40) else frF ww W yr a o := rfl
theorem frC_b (ww W V : Nat → Int) (n : Nat) : frC ww W V n ≤ 1 + 3 * n := by
  have a := cnBt_le (frO ww W V) n
  have b := cnBt_le (frM ww W V) n
  unfold frC
  omega
theorem frF_b (ww : Nat → Int) (W : Nat → Nat → Int) (yr : Nat → Int) (a : Nat) : ∀ o, -1 ≤ (frF ww W yr a o).1 ∧ (frF ww W yr a o).1 < (o : Int) ∧ (frF ww W yr a o).2 ≤ 121 := by
  intro o
  induction o with
  | zero =>
    have := cnBt_le (frL ww (W a)) 40
    exact ⟨Int.le_refl _, by show (-1 : Int) < 0; omega, by show cnBt (frL ww (W a)) 40 ≤ 121; omega⟩
  | succ o ih =>
    have := frC_b ww (W a) (W o) 40
    rw [frF_s]
    split
    · exact ⟨by dsimp only; omega, by dsimp only; omega, by dsimp only; omega⟩
    · exact ⟨ih.1, by omega, ih.2.2⟩
theorem costFO_s {ww W V : Nat → Int} {h : Hp} (hW : ∀ p, -1 ≤ W p ∧ W p ≤ 63) (hV : ∀ p, -1 ≤ V p ∧ V p ≤ 63) (H : SLw ww W 62 h) (G : SLw ww V 64 h) : X2_costFromOther h = some ((frC ww W V 40 : Nat) : Int) := by
  obtain ⟨u, eu, hu1, hu2⟩ := OK_ex (alike_s hW hV H G)
  have e1 : cnBt (tb (and64 (h 62 4) (xor64 u (-1)))) 64 = cnBt (frO ww W V) 40 := cnBt_40 (fun i hi => by
    rw [tb_and, tb_not hi, H.2.1 i hi, hu2 i hi]
    unfold frO
    by_cases c : i < 40
    · rw [Bool.eq_iff_iff]
      simp [c]
      omega
    · simp [c])
  have e2 : cnBt (tb (and64 (and64 (h 64 4) (h 62 3)) (xor64 (h 62 4) (-1)))) 64 = cnBt (frM ww W V) 40 := cnBt_40 (fun i hi => by
    rw [tb_and, tb_and, tb_not hi, H.1 i hi, H.2.1 i hi, G.2.1 i hi]
    unfold frM
    by_cases c : i < 40
    · rw [Bool.eq_iff_iff]
      simp [c]
      omega
    · simp [c])
  unfold X2_costFromOther X8_marks X8_places
  simp only [Option.bind_some, eu, bitCount_s, e1, e2]
  unfold frC
  congr 1
theorem sub_z {W V : Nat → Int} {P Q : Int} (hP : ∀ i, i < 64 → tb P i = decide (i < 40 ∧ W i ≠ -1)) (hQ : ∀ i, i < 64 → tb Q i = decide (i < 40 ∧ V i ≠ -1)) : (w32 (cmp64 (and64 P (xor64 Q (-1))) 0) = 0) ↔ cnBt (frX W V) 40 = 0 := by
  have e1 : cnBt (tb (and64 P (xor64 Q (-1)))) 64 = cnBt (frX W V) 40 := cnBt_40 (fun i hi => by
    rw [tb_and, tb_not hi, hP i hi, hQ i hi]
    unfold frX
    by_cases c : i < 40
    · rw [Bool.eq_iff_iff]
      simp [c]
    · simp [c])
  rw [cmp_z, ← cn_z, e1]
theorem pl_z {W : Nat → Int} {P : Int} (hP : ∀ i, i < 64 → tb P i = decide (i < 40 ∧ W i ≠ -1)) : (w32 (cmp64 P 0) = 0) ↔ cnBt (frP W) 40 = 0 := by
  have e1 : cnBt (tb P) 64 = cnBt (frP W) 40 := cnBt_40 (fun i hi => by
    rw [hP i hi]
    unfold frP
    by_cases c : i < 40 <;> simp [c])
  rw [cmp_z, ← cn_z, e1]
theorem writerYear_e {v : Int} {h : Hp} (k : Nat) (e : v = (k : Int)) (hk : k < 8) : X7_writerYear v h = some (h 11 k) := by
  unfold X7_writerYear
  rw [at_e k e hk (by omega), Option.bind_some]
theorem findSource_s {x m : Hp} (R : RS x m) (C : RC x m) {a k n : Nat} (hn : m 150 5 = (n : Int)) (ha : a < 8) (hk : k < 8) (hl : 1 ≤ m 156 k) {nw : Nat} (hnw : m 150 4 = (nw : Int)) : OK (X2_findSource (a : Int) (k : Int) x) (fun z => z 61 8 = (frF (fun p => m 157 (40 * k + p)) (fun wr => hwF m k wr n) (m 159) a nw).1 ∧ z 61 9 = (((frF (fun p => m 157 (40 * k + p)) (fun wr => hwF m k wr n) (m 159) a nw).2 : Nat) : Int) ∧ SLw (fun p => m 157 (40 * k + p)) (hwF m k a n) 62 z ∧ RC z m ∧ ∀ e j, ¬ cXK e → z e j = x e j) := by
  obtain ⟨⟨⟨e30, e33, e39, e311⟩, -⟩, S⟩ := id R
  obtain ⟨⟨-, b3, b4, b5⟩, -, ⟨-, -, -, b159⟩, -⟩ := id S
  have hwb : ∀ wr p, -1 ≤ hwF m k wr n p ∧ hwF m k wr n p ≤ 63 := fun wr p => by
    have := (hwF_bd S (wr := wr) hl n (by omega) p).1
    omega
  unfold X2_findSource
  rw [OK_bindE]
  refine OK_mono (gather_s R C (s := 62) (wr := a) (Or.inl rfl) hn (by omega) hk hl) (fun y hy => ?_)
  obtain ⟨y1, yC, yf⟩ := hy
  unfold X8_marks
  rw [OK_bindE, OK_some, bitCount_s, OK_bindE, OK_some, setH_o (show (62 : Nat) ≠ 61 by decide)]
  have c0 : cnBt (tb (y 62 4)) 64 = cnBt (frL (fun p => m 157 (40 * k + p)) (hwF m k a n)) 40 := cnBt_40 (fun i hi => by
    rw [y1.2.1 i hi]
    unfold frL
    by_cases c : i < 40 <;> simp [c])
  rw [c0, OK_bindE]
  refine OK_mono (iter_up (fun o s => o ≤ nw ∧ ∃ h : Hp, s = ((o : Int), h) ∧ h 61 8 = (frF (fun p => m 157 (40 * k + p)) (fun wr => hwF m k wr n) (m 159) a o).1 ∧ h 61 9 = (((frF (fun p => m 157 (40 * k + p)) (fun wr => hwF m k wr n) (m 159) a o).2 : Nat) : Int) ∧ SLw (fun p => m 157 (40 * k + p)) (hwF m k a n) 62 h ∧ RC h m ∧ ∀ e j, ¬ cXK e → h e j = x e j) (fun z => z 61 8 = (frF (fun p => m 157 (40 * k + p)) (fun wr => hwF m k wr n) (m 159) a nw).1 ∧ z 61 9 = (((frF (fun p => m 157 (40 * k + p)) (fun wr => hwF m k wr n) (m 159) a nw).2 : Nat) : Int) ∧ SLw (fun p => m 157 (40 * k + p)) (hwF m k a n) 62 z ∧ RC z m ∧ ∀ e j, ¬ cXK e → z e j = x e j) nw (by omega) (fun o s ho hI => ?_) ⟨Nat.zero_le _, _, rfl, ?_, ?_, ?_, ?_, fun e j q => ?_⟩) (fun z hz => by rw [OK_some]; exact hz)
  · obtain ⟨-, h, rfl, h8, h9, hS, hC, hf⟩ := hI
    have Rh : RS h m := RS_cK hf R
    obtain ⟨⟨⟨-, -, i39, -⟩, ⟨-, -, -, -, -, -, -, i11⟩, -⟩, -⟩ := id Rh
    unfold X2_findSource_l16 X2_findSource_j60 X7_writers
    dsimp only
    rw [OK_bindE, OK_some]
    simp only [i39, hnw, w32_id (z := (nw : Int)) (by omega) (by omega), w32_id (z := (o : Int)) (by omega) (by omega)]
    refine OK_if (fun c => ?_) (fun c => ?_)
    · rw [OK_some, LQ_r]
      have : o = nw := by omega
      subst this
      exact ⟨h8, h9, hS, hC, hf⟩
    · have ho8 : o < 8 := by omega
      have ba := b159 a
      have bo := b159 o
      rw [writerYear_e o rfl ho8, OK_bindE, OK_some, writerYear_e a rfl ha, OK_bindE, OK_some, i11]
      simp only [w32_id (z := m 159 a) (by omega) (by omega), w32_id (z := m 159 o) (by omega) (by omega)]
      have skip : ¬ (m 159 o < m 159 a ∧ cnBt (frX (hwF m k a n) (hwF m k o n)) 40 = 0 ∧ frC (fun p => m 157 (40 * k + p)) (hwF m k a n) (hwF m k o n) 40 < (frF (fun p => m 157 (40 * k + p)) (fun wr => hwF m k wr n) (m 159) a o).2) → ∀ g : Hp, g 61 8 = (frF (fun p => m 157 (40 * k + p)) (fun wr => hwF m k wr n) (m 159) a o).1 → g 61 9 = (((frF (fun p => m 157 (40 * k + p)) (fun wr => hwF m k wr n) (m 159) a o).2 : Nat) : Int) → SLw (fun p => m 157 (40 * k + p)) (hwF m k a n) 62 g → RC g m → (∀ e j, ¬ cXK e → g e j = x e j) → OK (some (Sum.inl ((o : Int) + 1, g))) (LQ (fun (s' : Int × Hp) => o < nw ∧ (o + 1 ≤ nw ∧ ∃ h : Hp, s' = (((o + 1 : Nat) : Int), h) ∧ h 61 8 = (frF (fun p => m 157 (40 * k + p)) (fun wr => hwF m k wr n) (m 159) a (o + 1)).1 ∧ h 61 9 = (((frF (fun p => m 157 (40 * k + p)) (fun wr => hwF m k wr n) (m 159) a (o + 1)).2 : Nat) : Int) ∧ SLw (fun p => m 157 (40 * k + p)) (hwF m k a n) 62 h ∧ RC h m ∧ ∀ e j, ¬ cXK e → h e j = x e j)) (fun (z : Hp) => z 61 8 = (frF (fun p => m 157 (40 * k + p)) (fun wr => hwF m k wr n) (m 159) a nw).1 ∧ z 61 9 = (((frF (fun p => m 157 (40 * k + p)) (fun wr => hwF m k wr n) (m 159) a nw).2 : Nat) : Int) ∧ SLw (fun p => m 157 (40 * k + p)) (hwF m k a n) 62 z ∧ RC z m ∧ ∀ e j, ¬ cXK e → z e j = x e j)) := by
        intro hq g g1 g2 g3 g4 g5
        rw [OK_some, LQ_l]
        refine ⟨by omega, by omega, g, rfl, ?_, ?_, g3, g4, g5⟩
        · rw [frF_s, if_neg hq]
          exact g1
        · rw [frF_s, if_neg hq]
          exact g2
      refine OK_if (fun d => ?_) (fun d => ?_)
      · exact skip (fun q => by omega) h h8 h9 hS hC hf
      · rw [OK_bindE]
        refine OK_mono (gather_s Rh hC (s := 64) (wr := o) (Or.inr rfl) hn (by omega) hk hl) (fun g hg => ?_)
        obtain ⟨g1, gC, gf⟩ := hg
        have g2 : SLw (fun p => m 157 (40 * k + p)) (hwF m k a n) 62 g := SLw_cg (gf 62 3 (by unfold cXG; omega)) (gf 62 4 (by unfold cXG; omega)) (funext fun j => gf 63 j (by unfold cXG; omega)) hS
        have gx : ∀ e j, ¬ cXK e → g e j = x e j := fun e j q => by rw [gf e j (by unfold cXK at q; unfold cXG; omega), hf e j q]
        have g8 : g 61 8 = h 61 8 := gf 61 8 (by unfold cXG; omega)
        have g9 : g 61 9 = h 61 9 := gf 61 9 (by unfold cXG; omega)
        have bF := frF_b (fun p => m 157 (40 * k + p)) (fun wr => hwF m k wr n) (m 159) a o
        have bC := frC_b (fun p => m 157 (40 * k + p)) (hwF m k a n) (hwF m k o n) 40
        unfold X8_places
        rw [costFO_s (hwb a) (hwb o) g2 g1, OK_bindE, OK_some, OK_bindE, OK_some, OK_bindE, OK_some]
        simp only [g9, h9, w32_id (z := ((frC (fun p => m 157 (40 * k + p)) (hwF m k a n) (hwF m k o n) 40 : Nat) : Int)) (by omega) (by omega), w32_id (z := (((frF (fun p => m 157 (40 * k + p)) (fun wr => hwF m k wr n) (m 159) a o).2 : Nat) : Int)) (by omega) (by omega)]
        have sz := sub_z g2.1 g1.1
        refine OK_if (fun e => ?_) (fun e => OK_if (fun f => ?_) (fun f => ?_))
        · exact skip (fun q => e (sz.mpr q.2.1)) g (by rw [g8, h8]) (by rw [g9, h9]) g2 gC gx
        · exact skip (fun q => by have := q.2.2; omega) g (by rw [g8, h8]) (by rw [g9, h9]) g2 gC gx
        · have e0 : cnBt (frX (hwF m k a n) (hwF m k o n)) 40 = 0 := sz.mp (by
            by_cases q : w32 (cmp64 (and64 (g 62 3) (xor64 (g 64 3) (-1))) 0) = 0
            · exact q
            · exact absurd q e)
          have hyes : m 159 o < m 159 a ∧ cnBt (frX (hwF m k a n) (hwF m k o n)) 40 = 0 ∧ frC (fun p => m 157 (40 * k + p)) (hwF m k a n) (hwF m k o n) 40 < (frF (fun p => m 157 (40 * k + p)) (fun wr => hwF m k wr n) (m 159) a o).2 := ⟨by omega, e0, by omega⟩
          rw [OK_some, LQ_l]
          refine ⟨by omega, by omega, _, rfl, ?_, ?_, SLw_cg (by rw [setH_o (by decide), setH_o (by decide)]) (by rw [setH_o (by decide), setH_o (by decide)]) (by rw [setH_o (by decide), setH_o (by decide)]) g2, RC_cg (fun e j h => by unfold cXC at h; rw [setH_o (by omega), setH_o (by omega)]) (Int.le_refl _) (fun _ _ _ _ _ => ⟨rfl, rfl⟩) gC, fun e j q => by unfold cXK at q; rw [setH_o (by omega), setH_o (by omega)]; exact gx e j q⟩
          · rw [setH_n (by decide), setH_s, frF_s, if_pos hyes]
          · rw [setH_s, frF_s, if_pos hyes]
  · rw [setH_n (by decide), setH_s]
    rfl
  · rw [setH_s]
    rfl
  · exact SLw_cg (by rw [setH_o (by decide), setH_o (by decide)]) (by rw [setH_o (by decide), setH_o (by decide)]) (by rw [setH_o (by decide), setH_o (by decide)]) y1
  · exact RC_cg (fun e j h => by unfold cXC at h; rw [setH_o (by omega), setH_o (by omega)]) (Int.le_refl _) (fun _ _ _ _ _ => ⟨rfl, rfl⟩) yC
  · unfold cXK at q
    rw [setH_o (by omega), setH_o (by omega)]
    exact yf e j (by unfold cXG; omega)
