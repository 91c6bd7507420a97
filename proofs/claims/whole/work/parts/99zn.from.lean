/-! FROM, THERE -/
def cMF (e j : Nat) : Prop := cMY e j ∨ (e = 150 ∧ j = 74)
theorem hasPl_s {ww W : Nat → Int} {z : Hp} (H : SLw ww W 62 z) : X2_hasPlaces z = some (if cnBt (frP W) 40 = 0 then 0 else 1) := by
  unfold X2_hasPlaces X8_places
  rw [Option.bind_some]
  have p := pl_z H.1
  by_cases c : cnBt (frP W) 40 = 0
  · rw [if_pos (p.mpr c), if_pos c]
  · rw [if_neg (fun q => c (p.mp q)), if_neg c]
theorem from_b {x m : Hp} (R : RS x m) (C : RC x m) {a k c : Int} (ha : I32 a) (hk : I32 k) (hc : I32 c) : OK (X11_from a k c x) (fun z => OK (X12_from a k c m) (fun w => z.1 = w.1 ∧ RC z.2 m ∧ (∀ e j, ¬ cXK e → z.2 e j = x e j) ∧ ∀ e j, ¬ cMF e j → w.2 e j = m e j)) := by
  obtain ⟨⟨⟨-, e33, e39, e311⟩, -⟩, S⟩ := id R
  obtain ⟨⟨-, b3, b4, b5⟩, -, ⟨-, -, -, b159⟩, -⟩ := id S
  unfold X11_from X12_from
  simp only [x_isM (h := x) (by omega) (by omega), m_isM (h := m) (by omega) (by omega), e39, I32_w ha, I32_w hc, x_left R hk, m_left S hk, within_in (a := c) (b := 0) (c := 1) (by omega) (by omega) hc.1 hc.2 (by omega) (by omega), lies_in (a := c) (b := 0) (c := 1) (by have := hc.1; omega) (by have := hc.2; omega) (by omega) (by omega) (by omega) (by omega), Option.bind_some]
  have triv : ∀ (c : Prop), (-3 : Int) = -3 ∧ RC x m ∧ (∀ e j, ¬ cXK e → x e j = x e j) ∧ ∀ e j, ¬ cMF e j → m e j = m e j := fun _ => ⟨rfl, C, fun _ _ _ => rfl, fun _ _ _ => rfl⟩
  by_cases d1 : 0 ≤ a ∧ a < m 150 4
  · by_cases d2 : 0 ≤ k ∧ k < m 150 3 ∧ 0 < m 156 k.toNat
    · by_cases d3 : 0 ≤ c ∧ c ≤ 1
      · simp only [if_pos d1, if_pos d2, if_pos d3, q1, qn1, if_true, if_false]
        obtain ⟨i, rfl⟩ := Int.eq_ofNat_of_zero_le d1.1
        obtain ⟨k, rfl, hk, hk3, hl⟩ := left_k S d2
        obtain ⟨n, hn⟩ := Int.eq_ofNat_of_zero_le b5.1
        obtain ⟨nw, hnw⟩ := Int.eq_ofNat_of_zero_le b4.1
        obtain ⟨w, ew, L, wf⟩ := OK_ex (lays_s R hn hk hl)
        obtain ⟨f1, f2, f3, f4, f5⟩ := lyW_facts R hn hk hl wf
        obtain ⟨N, hN⟩ := Int.eq_ofNat_of_zero_le f3.1
        obtain ⟨P, eP, hP1, hP2⟩ := OK_ex (placesOf_s (wr := i) L (fun pl => f1 i pl) (by omega))
        have wff : ∀ e j, ¬ cMF e j → w e j = m e j := fun e j q => wf e j (fun r => q (Or.inl r))
        rw [OK_bindE]
        refine OK_mono (findSource_s R C (a := i) hn (by omega) hk hl hnw) (fun z hz => ?_)
        obtain ⟨z8, z9, zS, zC, zf⟩ := hz
        rw [hasPl_s zS, OK_bindE, OK_some, ew, Option.bind_some, eP, Option.bind_some]
        have p := pl_z (W := hwF m k i n) hP2
        by_cases d4 : cnBt (frP (hwF m k i n)) 40 = 0
        · rw [if_pos d4]
          refine OK_gn (by decide) ?_
          rw [OK_some, if_neg (fun q => q (p.mpr d4)), OK_some]
          exact ⟨rfl, zC, zf, wff⟩
        · rw [if_neg d4]
          refine OK_gd (by decide) ?_
          have hne : w32 (cmp64 P 0) ≠ 0 := fun q => d4 (p.mp q)
          simp only [if_pos hne]
          have eww : (fun p => w 157 (40 * k + p)) = (fun p => m 157 (40 * k + p)) := funext fun p => f5 _
          have e9 : w 159 = m 159 := funext fun j => wf 159 j (by unfold cMY; omega)
          obtain ⟨v, ev, v1, v2, vf⟩ := OK_ex (fromOf_s (a := i) (k := k) (n := N) (nw := nw) L f1 (by omega) hk f2 hN (by omega) (fun wr p hp => f4 wr p (by omega)) (by rw [wf 150 4 (by unfold cMY; omega), hnw]) (by omega) (fun j => by rw [e9]; exact b159 j))
          rw [eww, e9] at v1 v2
          have ff : ∀ e q, ¬ cMF e q → v.2 e q = m e q := fun e q h1 => by rw [vf e q (fun r => h1 (Or.inr r)), wff e q h1]
          unfold X2_cost X2_source
          rw [Option.bind_some, Option.bind_some, ev, Option.bind_some, z8, z9, v1, v2]
          by_cases d5 : c ≠ 0
          · rw [if_pos d5, if_pos d5, OK_some, OK_some]
            exact ⟨rfl, zC, zf, ff⟩
          · rw [if_neg d5, if_neg d5, OK_some, OK_some]
            exact ⟨rfl, zC, zf, ff⟩
      · simp only [if_pos d1, if_pos d2, if_neg d3, q0, q1, qn0, if_true, if_false]
        exact triv True
    · simp only [if_pos d1, if_neg d2, q0, q1, if_true, if_false]
      exact triv True
  · simp only [if_neg d1, q0, if_true]
    exact triv True
def thY (ww : Nat → Int) (W : Nat → Nat → Int) (yr : Nat → Int) (nw : Nat) : Nat → Int
  | 0 => -1
  | p + 1 => if cnBt (frP (W p)) 40 ≠ 0 ∧ (frF ww W yr p nw).1 = -1 then max (thY ww W yr nw p) (yr p) else thY ww W yr nw p
theorem thY_s (ww : Nat → Int) (W : Nat → Nat → Int) (yr : Nat → Int) (nw p : Nat) : thY ww W yr nw (p + 1) = if cnBt (frP (W p)) 40 ≠ 0 ∧ (frF ww W yr p nw).1 = -1 then max (thY ww W yr nw p) (yr p) else thY ww W yr nw p := rfl
theorem thY_b {ww : Nat → Int} {W : Nat → Nat → Int} {yr : Nat → Int} {nw : Nat} (h : ∀ j, 0 ≤ yr j ∧ yr j ≤ 999) : ∀ p, -1 ≤ thY ww W yr nw p ∧ thY ww W yr nw p ≤ 999 := by
  intro p
  induction p with
  | zero => exact ⟨Int.le_refl _, by show (-1 : Int) ≤ 999; omega⟩
  | succ p ih =>
    have := h p
    rw [thY_s]
    split <;> omega
theorem there_b {x m : Hp} (R : RS x m) (C : RC x m) {k : Int} (hk : I32 k) : OK (X11_there k x) (fun z => OK (X12_there k m) (fun w => z.1 = w.1 ∧ RC z.2 m ∧ (∀ e j, ¬ cXK e → z.2 e j = x e j) ∧ ∀ e j, ¬ cMF e j → w.2 e j = m e j)) := by
  obtain ⟨-, S⟩ := id R
  obtain ⟨⟨-, b3, b4, b5⟩, -, ⟨-, -, -, b159⟩, -⟩ := id S
  unfold X11_there X12_there
  simp only [x_left R hk, m_left S hk, Option.bind_some]
  by_cases d2 : 0 ≤ k ∧ k < m 150 3 ∧ 0 < m 156 k.toNat
  · simp only [if_pos d2, q1, qn1, if_true, if_false]
    obtain ⟨k, rfl, hk, hk3, hl⟩ := left_k S d2
    obtain ⟨n, hn⟩ := Int.eq_ofNat_of_zero_le b5.1
    obtain ⟨nw, hnw⟩ := Int.eq_ofNat_of_zero_le b4.1
    obtain ⟨w, ew, L, wf⟩ := OK_ex (lays_s R hn hk hl)
    obtain ⟨f1, f2, f3, f4, f5⟩ := lyW_facts R hn hk hl wf
    obtain ⟨N, hN⟩ := Int.eq_ofNat_of_zero_le f3.1
    have wff : ∀ e j, ¬ cMF e j → w e j = m e j := fun e j q => wf e j (fun r => q (Or.inl r))
    have eww : (fun p => w 157 (40 * k + p)) = (fun p => m 157 (40 * k + p)) := funext fun p => f5 _
    have e9 : w 159 = m 159 := funext fun j => wf 159 j (by unfold cMY; omega)
    unfold X2_lastYearHad
    rw [ew, Option.bind_some, OK_bindE, OK_bindE]
    refine OK_mono (iter_up (fun p s => p ≤ nw ∧ ∃ h : Hp, s = (thY (fun p => m 157 (40 * k + p)) (fun wr => hwF m k wr n) (m 159) nw p, (p : Int), h) ∧ RC h m ∧ ∀ e j, ¬ cXK e → h e j = x e j) (fun z => z.1 = thY (fun p => m 157 (40 * k + p)) (fun wr => hwF m k wr n) (m 159) nw nw ∧ RC z.2 m ∧ ∀ e j, ¬ cXK e → z.2 e j = x e j) nw (by omega) (fun p s hp hI => ?_) ⟨Nat.zero_le _, x, rfl, C, fun _ _ _ => rfl⟩) (fun z hz => ?_)
    · obtain ⟨-, h, rfl, hC, hf⟩ := hI
      have Rh : RS h m := RS_cK hf R
      obtain ⟨⟨⟨-, -, i39, -⟩, -⟩, -⟩ := id Rh
      unfold X2_lastYearHad_l4 X2_lastYearHad_j27 X7_writers
      dsimp only
      rw [OK_bindE, OK_some]
      simp only [i39, hnw, w32_id (z := (nw : Int)) (by omega) (by omega), w32_id (z := (p : Int)) (by omega) (by omega)]
      refine OK_if (fun c => ?_) (fun c => ?_)
      · rw [OK_some, LQ_r]
        have : p = nw := by omega
        subst this
        exact ⟨rfl, hC, hf⟩
      · rw [OK_bindE]
        refine OK_mono (findSource_s Rh hC (a := p) hn (by omega) hk hl hnw) (fun z hz => ?_)
        obtain ⟨z8, z9, zS, zC, zf⟩ := hz
        have zx : ∀ e j, ¬ cXK e → z e j = x e j := fun e j q => by rw [zf e j q, hf e j q]
        have bF := frF_b (fun p => m 157 (40 * k + p)) (fun wr => hwF m k wr n) (m 159) p nw
        have bT := thY_b (ww := fun p => m 157 (40 * k + p)) (W := fun wr => hwF m k wr n) (yr := m 159) (nw := nw) b159 p
        have b9 := b159 p
        have skip : ¬ (cnBt (frP (hwF m k p n)) 40 ≠ 0 ∧ (frF (fun p => m 157 (40 * k + p)) (fun wr => hwF m k wr n) (m 159) p nw).1 = -1) → LQ (fun (s' : Int × Int × Hp) => p < nw ∧ (p + 1 ≤ nw ∧ ∃ h : Hp, s' = (thY (fun p => m 157 (40 * k + p)) (fun wr => hwF m k wr n) (m 159) nw (p + 1), ((p + 1 : Nat) : Int), h) ∧ RC h m ∧ ∀ e j, ¬ cXK e → h e j = x e j)) (fun z : Int × Hp => z.1 = thY (fun p => m 157 (40 * k + p)) (fun wr => hwF m k wr n) (m 159) nw nw ∧ RC z.2 m ∧ ∀ e j, ¬ cXK e → z.2 e j = x e j) (Sum.inl (thY (fun p => m 157 (40 * k + p)) (fun wr => hwF m k wr n) (m 159) nw p, (p : Int) + 1, z)) := by
          intro hq
          rw [LQ_l, thY_s, if_neg hq]
          exact ⟨by omega, by omega, z, rfl, zC, zx⟩
        rw [hasPl_s zS, OK_bindE, OK_some]
        by_cases d4 : cnBt (frP (hwF m k p n)) 40 = 0
        · rw [if_pos d4]
          refine OK_gd (by decide) ?_
          rw [OK_some]
          exact skip (fun q => q.1 d4)
        · rw [if_neg d4]
          refine OK_gn (by decide) ?_
          simp only [z8, w32_id (z := (frF (fun p => m 157 (40 * k + p)) (fun wr => hwF m k wr n) (m 159) p nw).1) (by omega) (by omega), show w32 (-1) = -1 from rfl]
          refine OK_if (fun d5 => ?_) (fun d5 => ?_)
          · rw [OK_some]
            exact skip (fun q => d5 q.2)
          · have d6 : (frF (fun p => m 157 (40 * k + p)) (fun wr => hwF m k wr n) (m 159) p nw).1 = -1 := by omega
            obtain ⟨⟨-, ⟨-, -, -, -, -, -, -, i11⟩, -⟩, -⟩ := RS_cK zx R
            rw [writerYear_e p rfl (by omega), OK_bindE, OK_some, i11, OK_some, LQ_l, maxI_id (by omega) (by omega) (by omega) (by omega), thY_s, if_pos ⟨d4, d6⟩]
            exact ⟨by omega, by omega, z, rfl, zC, zx⟩
    · rw [OK_some, OK_some, OK_bindE]
      refine OK_mono (iter_up (fun p s => p ≤ nw ∧ ∃ h : Hp, s = (thY (fun p => m 157 (40 * k + p)) (fun wr => hwF m k wr n) (m 159) nw p, (p : Int), h) ∧ ∀ e j, ¬ (e = 150 ∧ j = 74) → h e j = w e j) (fun v => v.1 = thY (fun p => m 157 (40 * k + p)) (fun wr => hwF m k wr n) (m 159) nw nw ∧ ∀ e j, ¬ (e = 150 ∧ j = 74) → v.2 e j = w e j) nw (by omega) (fun p s hp hI => ?_) ⟨Nat.zero_le _, w, rfl, fun _ _ _ => rfl⟩) (fun v hv => ?_)
      · obtain ⟨-, h, rfl, hf⟩ := hI
        unfold X12_there_l13 X12_there_j40
        dsimp only
        have h4 : h 150 4 = (nw : Int) := by rw [hf 150 4 (by decide), wf 150 4 (by unfold cMY; omega), hnw]
        simp only [h4, w32_id (z := (nw : Int)) (by omega) (by omega), w32_id (z := (p : Int)) (by omega) (by omega)]
        refine OK_if (fun c => ?_) (fun c => ?_)
        · rw [OK_some, LQ_r]
          have : p = nw := by omega
          subst this
          exact ⟨rfl, hf⟩
        · have Lh : LYw (fun wr => hwF m k wr n) h := LYw_cg (fun j => hf 185 j (by omega)) L
          have bF := frF_b (fun p => m 157 (40 * k + p)) (fun wr => hwF m k wr n) (m 159) p nw
          have bT := thY_b (ww := fun p => m 157 (40 * k + p)) (W := fun wr => hwF m k wr n) (yr := m 159) (nw := nw) b159 p
          have b9 := b159 p
          have skip : ∀ h' : Hp, (∀ e j, ¬ (e = 150 ∧ j = 74) → h' e j = w e j) → ¬ (cnBt (frP (hwF m k p n)) 40 ≠ 0 ∧ (frF (fun p => m 157 (40 * k + p)) (fun wr => hwF m k wr n) (m 159) p nw).1 = -1) → LQ (fun (s' : Int × Int × Hp) => p < nw ∧ (p + 1 ≤ nw ∧ ∃ h : Hp, s' = (thY (fun p => m 157 (40 * k + p)) (fun wr => hwF m k wr n) (m 159) nw (p + 1), ((p + 1 : Nat) : Int), h) ∧ ∀ e j, ¬ (e = 150 ∧ j = 74) → h e j = w e j)) (fun v : Int × Hp => v.1 = thY (fun p => m 157 (40 * k + p)) (fun wr => hwF m k wr n) (m 159) nw nw ∧ ∀ e j, ¬ (e = 150 ∧ j = 74) → v.2 e j = w e j) (Sum.inl (thY (fun p => m 157 (40 * k + p)) (fun wr => hwF m k wr n) (m 159) nw p, (p : Int) + 1, h')) := by
            intro h' hf' hq
            rw [LQ_l, thY_s, if_neg hq]
            exact ⟨by omega, by omega, h', rfl, hf'⟩
          rw [OK_bindE]
          refine OK_mono (placesOf_s (wr := p) Lh (fun pl => f1 p pl) (by omega)) (fun P hP => ?_)
          have pz := pl_z (W := hwF m k p n) hP.2
          refine OK_if (fun d4 => ?_) (fun d4 => ?_)
          · rw [OK_some]
            exact skip h hf (fun q => q.1 (pz.mp d4))
          · have e7 : (fun p => h 157 (40 * k + p)) = (fun p => m 157 (40 * k + p)) := funext fun p => by rw [hf 157 _ (by omega), f5]
            have e9h : h 159 = m 159 := funext fun j => by rw [hf 159 j (by omega), e9]
            rw [OK_bindE]
            refine OK_mono (fromOf_s (a := p) (k := k) (n := N) (nw := nw) Lh f1 (by omega) hk (fun j => by rw [hf 157 j (by omega)]; exact f2 j) (by rw [hf 156 k (by omega), hN]) (by omega) (fun wr p hp => f4 wr p (by omega)) h4 (by omega) (fun j => by rw [e9h]; exact b159 j)) (fun v hv => ?_)
            obtain ⟨v1, v2, vf⟩ := hv
            rw [e7, e9h] at v1 v2
            have vw : ∀ e j, ¬ (e = 150 ∧ j = 74) → v.2 e j = w e j := fun e j q => by rw [vf e j q, hf e j q]
            have v9 : v.2 159 p = m 159 p := by rw [vw 159 p (by omega), e9]
            simp only [v1, w32_id (z := (frF (fun p => m 157 (40 * k + p)) (fun wr => hwF m k wr n) (m 159) p nw).1) (by omega) (by omega), show w32 (-1) = -1 from rfl]
            refine OK_if (fun d5 => ?_) (fun d5 => OK_gi (by omega) (by omega) (by omega) ?_)
            · rw [OK_some]
              exact skip v.2 vw (fun q => d5 q.2)
            · have d6 : (frF (fun p => m 157 (40 * k + p)) (fun wr => hwF m k wr n) (m 159) p nw).1 = -1 := by omega
              simp only [tn, v9, w32_id (z := m 159 p) (by omega) (by omega), w32_id (z := thY (fun p => m 157 (40 * k + p)) (fun wr => hwF m k wr n) (m 159) nw p) (by omega) (by omega)]
              refine OK_if (fun d7 => ?_) (fun d7 => OK_gi (by omega) (by omega) (by omega) ?_)
              · rw [OK_some, LQ_l, thY_s, if_pos ⟨fun q => d4 (pz.mpr q), d6⟩]
                exact ⟨by omega, by omega, v.2, by rw [show max (thY (fun p => m 157 (40 * k + p)) (fun wr => hwF m k wr n) (m 159) nw p) (m 159 p) = thY (fun p => m 157 (40 * k + p)) (fun wr => hwF m k wr n) (m 159) nw p from by omega]; rfl, vw⟩
              · rw [OK_some, LQ_l, thY_s, if_pos ⟨fun q => d4 (pz.mpr q), d6⟩]
                exact ⟨by omega, by omega, v.2, by rw [show max (thY (fun p => m 157 (40 * k + p)) (fun wr => hwF m k wr n) (m 159) nw p) (m 159 p) = m 159 p from by omega]; rfl, vw⟩
      · rw [OK_some]
        exact ⟨by dsimp only; rw [hz.1, hv.1], hz.2.1, hz.2.2, fun e j q => by dsimp only; rw [hv.2 e j (fun r => q (Or.inr r)), wff e j q]⟩
  · simp only [if_neg d2, q0, qn0, if_true, if_false]
    exact ⟨rfl, C, fun _ _ _ => rfl, fun _ _ _ => rfl⟩
