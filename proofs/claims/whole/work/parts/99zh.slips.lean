/-! SLIPS, SLIP -/
theorem cn_cg {u v : Int} (h : ∀ i, i < 64 → tb u i = tb v i) : cnBt (tb u) 64 = cnBt (tb v) 64 := cnBt_cg 64 h
theorem eq_of_tb {u v : Int} (hu : w64 u = u) (hv : w64 v = v) (h : ∀ i, i < 64 → tb u i = tb v i) : u = v := by
  rw [← hu, ← hv]
  exact tb_ext h
/-- a work that is left, and a writer -/
theorem left_k {m : Hp} (S : SB m) {k : Int} (h : 0 ≤ k ∧ k < m 150 3 ∧ 0 < m 156 k.toNat) : ∃ q : Nat, k = (q : Int) ∧ q < 8 ∧ (q : Int) < m 150 3 ∧ 1 ≤ m 156 q := by
  obtain ⟨q, rfl⟩ := Int.eq_ofNat_of_zero_le h.1
  have b3 := S.1.2.1
  exact ⟨q, rfl, by omega, h.2.1, h.2.2⟩
theorem lyW_facts {x m w : Hp} (R : RS x m) {k n : Nat} (hn : m 150 5 = (n : Int)) (hk : k < 8) (hl : 1 ≤ m 156 k) (f : ∀ a j, ¬ cMY a j → w a j = m a j) : (∀ wr pl, -1 ≤ hwF m k wr n pl ∧ hwF m k wr n pl ≤ 63) ∧ (∀ j, 0 ≤ w 157 j ∧ w 157 j ≤ 63) ∧ (0 ≤ w 156 k ∧ w 156 k ≤ 40) ∧ (∀ wr (pl : Nat), w 156 k ≤ (pl : Int) → hwF m k wr n pl = -1) ∧ (∀ p, w 157 p = m 157 p) := by
  obtain ⟨-, S⟩ := id R
  obtain ⟨-, -, ⟨b156, b157, -⟩, -⟩ := id S
  have e7 : ∀ p, w 157 p = m 157 p := fun p => f 157 p (by unfold cMY; omega)
  have e6 : w 156 k = m 156 k := f 156 k (by unfold cMY; omega)
  refine ⟨fun wr pl => ?_, fun j => by rw [e7]; exact b157 j, by rw [e6]; exact b156 k, fun wr pl h => ?_, e7⟩
  · have := (hwF_bd S (wr := wr) hl n (by omega) pl).1
    omega
  · rw [e6] at h
    exact (hwF_bd S (wr := wr) hl n (by omega) pl).2 h
theorem slips_b {x m : Hp} (R : RS x m) (C : RC x m) {a b c : Int} (ha : I32 a) (hb : I32 b) (hc : I32 c) : OK (X11_slips a b c x) (fun z => OK (X12_slips a b c m) (fun w => z.1 = w.1 ∧ RC z.2 m ∧ (∀ e j, ¬ cXG 62 e j → z.2 e j = x e j) ∧ ∀ e j, ¬ cMY e j → w.2 e j = m e j)) := by
  obtain ⟨⟨⟨-, e33, e39, e311⟩, -⟩, S⟩ := id R
  obtain ⟨⟨-, b3, b4, b5⟩, -⟩ := id S
  unfold X11_slips X12_slips
  simp only [x_isM (h := x) (by omega) (by omega), m_isM (h := m) (by omega) (by omega), e39, I32_w ha, I32_w hc, x_left R hb, m_left S hb, lies_in (a := c) (b := 0) (c := 3) (by have := hc.1; omega) (by have := hc.2; omega) (by omega) (by omega) (by omega) (by omega), Option.bind_some]
  have triv : ∀ (c : Prop), (-1 : Int) = -1 ∧ RC x m ∧ (∀ e j, ¬ cXG 62 e j → x e j = x e j) ∧ ∀ e j, ¬ cMY e j → m e j = m e j := fun _ => ⟨rfl, C, fun _ _ _ => rfl, fun _ _ _ => rfl⟩
  by_cases d1 : 0 ≤ a ∧ a < m 150 4
  · by_cases d2 : 0 ≤ b ∧ b < m 150 3 ∧ 0 < m 156 b.toNat
    · simp only [if_pos d1, if_pos d2, q1, qn1, if_true, if_false]
      obtain ⟨wr, rfl⟩ := Int.eq_ofNat_of_zero_le d1.1
      obtain ⟨k, rfl, hk, hk3, hl⟩ := left_k S d2
      obtain ⟨n, hn⟩ := Int.eq_ofNat_of_zero_le b5.1
      unfold X2_slipsOf
      rw [OK_bindE, OK_bindE]
      refine OK_mono (gather_s R C (s := 62) (wr := wr) (Or.inl rfl) hn (by omega) hk hl) (fun z hz => ?_)
      obtain ⟨⟨z1, z2, z3, z4, z5⟩, zC, zf⟩ := hz
      rw [OK_some]
      refine OK_gd rfl ?_
      dsimp only
      unfold X8_marks X8_places
      simp only [Option.bind_some, bitCount_s]
      have l1 := cnBt_le (tb (z 62 3)) 64
      have l2 := cnBt_le (tb (z 62 4)) 64
      by_cases d3 : 0 ≤ c ∧ c ≤ 3
      · simp only [if_pos d3, qn1, if_true, Option.bind_some]
        have mid : ∀ (A : Option (Int × Hp)) (B : Hp → Option (Int × Hp)), (∀ w : Hp, LYw (fun wr => hwF m k wr n) w → (∀ a j, ¬ cMY a j → w a j = m a j) → OK A (fun y => OK (B w) (fun v => y.1 = v.1 ∧ y.2 = z ∧ v.2 = w))) → OK A (fun y => OK ((X12_lays (k : Int) m).bind B) (fun v => y.1 = v.1 ∧ RC y.2 m ∧ (∀ e j, ¬ cXG 62 e j → y.2 e j = x e j) ∧ ∀ e j, ¬ cMY e j → v.2 e j = m e j)) := by
          intro A B h
          obtain ⟨w, ew, L, wf⟩ := OK_ex (lays_s R hn hk hl)
          rw [ew]
          refine OK_mono (h w L wf) (fun y hy => ?_)
          rw [Option.bind_some]
          refine OK_mono hy (fun v hv => ?_)
          obtain ⟨v1, v2, v3⟩ := hv
          rw [v2, v3]
          exact ⟨v1, zC, zf, wf⟩
        refine mid _ _ (fun w L wf => ?_)
        obtain ⟨f1, f2, f3, f4, f5⟩ := lyW_facts R hn hk hl wf
        obtain ⟨P, eP, hP1, hP2⟩ := OK_ex (placesOf_s (wr := wr) L (fun pl => f1 wr pl) (by omega))
        obtain ⟨Q, eQ, hQ1, hQ2⟩ := OK_ex (slipsOf_s (wr := wr) (k := k) L (fun pl => f1 wr pl) (by omega) hk f2 f3 (fun pl h => f4 wr pl h))
        have tP : ∀ i, i < 64 → tb (z 62 3) i = tb P i := fun i hi => by rw [z1 i hi, hP2 i hi]
        have tQ : ∀ i, i < 64 → tb (z 62 4) i = tb Q i := fun i hi => by rw [z2 i hi, hQ2 i hi, f5]
        have c4 : c = 0 ∨ c = 1 ∨ c = 2 ∨ c = 3 := by omega
        rcases c4 with rfl | rfl | rfl | rfl
        · simp only [eQ, Option.bind_some, sizeOf_s]
          refine OK_gd trivial ?_
          rw [OK_some]
          refine OK_gn (fun q => q rfl) ?_
          rw [OK_some, cn_cg tQ]
          exact ⟨rfl, rfl, rfl⟩
        · simp only [eP, Option.bind_some, sizeOf_s]
          refine OK_gn (by decide) (OK_gd trivial ?_)
          rw [OK_some]
          refine OK_gd (by decide) (OK_gn (fun q => q rfl) ?_)
          rw [OK_some, cn_cg tP]
          exact ⟨rfl, rfl, rfl⟩
        · refine OK_gn (by decide) (OK_gn (by decide) (OK_gd rfl ?_))
          rw [OK_some]
          refine OK_gd (by decide) (OK_gd (by decide) (OK_gn (fun q => q rfl) ?_))
          rw [eP, Option.bind_some, OK_some]
          exact ⟨eq_of_tb z4 hP1 tP, rfl, rfl⟩
        · refine OK_gn (by decide) (OK_gn (by decide) (OK_gn (by decide) (OK_gd rfl ?_)))
          rw [OK_some]
          refine OK_gd (by decide) (OK_gd (by decide) (OK_gd (by decide) ?_))
          rw [eQ, Option.bind_some, OK_some]
          exact ⟨eq_of_tb z5 hQ1 tQ, rfl, rfl⟩
      · simp only [if_neg d3, qn0, if_false, Option.bind_some]
        refine OK_gn (by omega) (OK_gn (by omega) (OK_gn (by omega) (OK_gn (by omega) ?_)))
        rw [OK_some, OK_some]
        exact ⟨rfl, zC, zf, fun _ _ _ => rfl⟩
    · simp only [if_pos d1, if_neg d2, q1, q0, qn0, if_true, if_false]
      exact triv True
  · simp only [if_neg d1, q0, if_true]
    exact triv True
theorem isAt_s {s p : Nat} {h : Hp} (hp : p < 40) : X8_isAt s (p : Int) h = some (if tb (h s 4) p = true then 1 else 0) := by
  unfold X8_isAt
  rw [isIn_s hp, Option.bind_some]
  by_cases c : tb (h s 4) p = true
  · rw [if_pos c, if_pos (Or.inr rfl)]
  · rw [if_neg c, if_pos (Or.inl rfl)]
theorem wordPut_s {ww W : Nat → Int} {s : Nat} {h : Hp} {c : Int} (hc : I32 c) (H : SLw ww W s h) : X8_wordPut s c h = some (if 0 ≤ c ∧ c < 40 ∧ W c.toNat ≠ -1 ∧ W c.toNat ≠ ww c.toNat then W c.toNat else -1) := by
  obtain ⟨h1, h2, h3, h4, h5⟩ := H
  unfold X8_wordPut
  by_cases d : 0 ≤ c ∧ c < 40
  · obtain ⟨p, rfl⟩ := Int.eq_ofNat_of_zero_le d.1
    rw [isAt_s (by omega), Option.bind_some, tn]
    by_cases e : W p ≠ -1 ∧ W p ≠ ww p
    · have hb : tb (h s 4) p = true := by
        rw [h2 p (by omega)]
        exact decide_eq_true ⟨by omega, e⟩
      rw [hb, if_neg (show ¬ w32 (if (true : Bool) = true then (1 : Int) else 0) = 0 by decide), at_e (a := s + 1) (n := 40) p rfl (by omega) (by omega), Option.bind_some, if_pos ⟨d.1, d.2, e⟩, h3 p (by omega) e.1 e.2]
    · have hb : tb (h s 4) p = false := by
        rw [h2 p (by omega)]
        exact decide_eq_false (fun q => e q.2)
      rw [hb, if_pos (show w32 (if (false : Bool) = true then (1 : Int) else 0) = 0 by decide), if_neg (fun q => e q.2.2)]
  · have : X8_isIn (h s 4) c = some 0 := by
      unfold X8_isIn
      simp only [I32_w hc, show w32 40 = 40 from rfl]
      by_cases f : c < 0
      · rw [if_pos f]
      · rw [if_neg f, if_pos (by omega)]
    unfold X8_isAt
    rw [this, Option.bind_some, if_pos (Or.inl rfl), Option.bind_some, if_pos (by decide), if_neg (fun q => d ⟨q.1, q.2.1⟩)]
theorem slip_b {x m : Hp} (R : RS x m) (C : RC x m) {a b c : Int} (ha : I32 a) (hb : I32 b) (hc : I32 c) : OK (X11_slip a b c x) (fun z => OK (X12_slip a b c m) (fun w => z.1 = w.1 ∧ RC z.2 m ∧ (∀ e j, ¬ cXG 62 e j → z.2 e j = x e j) ∧ ∀ e j, ¬ cMY e j → w.2 e j = m e j)) := by
  obtain ⟨⟨⟨-, e33, e39, e311⟩, -⟩, S⟩ := id R
  obtain ⟨⟨-, b3, b4, b5⟩, -, ⟨b156, -⟩, -⟩ := id S
  unfold X11_slip X12_slip
  simp only [x_isM (h := x) (by omega) (by omega), m_isM (h := m) (by omega) (by omega), e39, I32_w ha, I32_w hc, x_left R hb, m_left S hb, Option.bind_some]
  have triv : ∀ (c : Prop), (-1 : Int) = -1 ∧ RC x m ∧ (∀ e j, ¬ cXG 62 e j → x e j = x e j) ∧ ∀ e j, ¬ cMY e j → m e j = m e j := fun _ => ⟨rfl, C, fun _ _ _ => rfl, fun _ _ _ => rfl⟩
  by_cases d1 : 0 ≤ a ∧ a < m 150 4
  · by_cases d2 : 0 ≤ b ∧ b < m 150 3 ∧ 0 < m 156 b.toNat
    · simp only [if_pos d1, if_pos d2, q1, qn1, if_true, if_false]
      obtain ⟨wr, rfl⟩ := Int.eq_ofNat_of_zero_le d1.1
      obtain ⟨k, rfl, hk, hk3, hl⟩ := left_k S d2
      obtain ⟨n, hn⟩ := Int.eq_ofNat_of_zero_le b5.1
      have b6 := b156 k
      unfold X2_slipsOf
      rw [OK_bindE, OK_bindE]
      refine OK_mono (gather_s R C (s := 62) (wr := wr) (Or.inl rfl) hn (by omega) hk hl) (fun z hz => ?_)
      obtain ⟨zS, zC, zf⟩ := hz
      rw [OK_some]
      refine OK_gd rfl ?_
      dsimp only
      rw [wordPut_s hc zS, OK_bindE, OK_some, OK_some]
      refine OK_gi (by omega) (by omega) (by omega) ?_
      simp only [wtn k rfl (by omega), w32_id (z := m 156 k - 1) (by omega) (by omega)]
      rw [lies_in (a := c) (b := 0) (c := m 156 k - 1) (by have := hc.1; omega) (by have := hc.2; omega) (by omega) (by omega) (by omega) (by omega), OK_bindE, OK_some]
      by_cases d3 : 0 ≤ c ∧ c ≤ m 156 k - 1
      · rw [if_pos d3]
        refine OK_gd (by decide) ?_
        rw [OK_bindE]
        refine OK_mono (lays_s R hn hk hl) (fun w hw => ?_)
        obtain ⟨L, wf⟩ := hw
        obtain ⟨f1, f2, f3, f4, f5⟩ := lyW_facts R hn hk hl wf
        obtain ⟨p, rfl⟩ := Int.eq_ofNat_of_zero_le d3.1
        rw [slipsAt_s L (f1 wr p) (by omega) (by omega) hk (f2 _), OK_bindE, OK_some, tn, f5]
        by_cases d4 : hwF m k wr n p ≠ -1 ∧ hwF m k wr n p ≠ m 157 (40 * k + p)
        · rw [if_pos d4]
          refine OK_gn (by decide) (OK_gi (by omega) (by omega) (by omega) ?_)
          simp only [wtn (v := 40 * (wr : Int) + (p : Int)) (40 * wr + p) (by omega) (by omega)]
          rw [L wr p (by omega) (by omega), OK_some]
          refine ⟨?_, zC, zf, wf⟩
          dsimp only
          rw [if_pos ⟨d3.1, by omega, d4⟩]
        · rw [if_neg d4]
          refine OK_gd (by decide) ?_
          rw [OK_some]
          refine ⟨?_, zC, zf, wf⟩
          dsimp only
          rw [if_neg (fun q => d4 q.2.2)]
      · rw [if_neg d3]
        refine OK_gn (by decide) ?_
        rw [OK_some]
        refine ⟨?_, zC, zf, fun _ _ _ => rfl⟩
        dsimp only
        rw [if_neg (fun q => q.2.2.1 ((hwF_bd S (wr := wr) hl n (by omega) c.toNat).2 (by omega)))]
    · simp only [if_pos d1, if_neg d2, q1, q0, qn0, if_true, if_false]
      exact triv True
  · simp only [if_neg d1, q0, if_true]
    exact triv True
