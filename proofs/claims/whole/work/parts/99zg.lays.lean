/-! SLIPS: laid by the other side -/
def cMY (a j : Nat) : Prop := a = 182 ∨ a = 185 ∨ (a = 150 ∧ 61 ≤ j ∧ j ≤ 63)
theorem RS_cY {x m h : Hp} (hw : ∀ a j, ¬ cMY a j → h a j = m a j) (R : RS x m) : RS x h := RS_cg (fun _ _ _ => rfl) (fun a j q => hw a j (by unfold cMS at q; unfold cMY; omega)) R
theorem neM_cY {m h : Hp} (hw : ∀ a j, ¬ cMY a j → h a j = m a j) (i k : Nat) : neM h i k = neM m i k :=
  neM_cg (hw 164 i (by unfold cMY; omega)) (fun p _ => hw 165 _ (by unfold cMY; omega)) (hw 156 k (by unfold cMY; omega)) (fun p _ => hw 157 _ (by unfold cMY; omega))
def upW (W : Nat → Nat → Int) (a : Nat) (V : Nat → Int) : Nat → Nat → Int := fun wr => if wr = a then V else W wr
theorem upW_s (W : Nat → Nat → Int) (a : Nat) (V : Nat → Int) : upW W a V a = V := if_pos rfl
theorem upW_n {W : Nat → Nat → Int} {a wr : Nat} {V : Nat → Int} (h : wr ≠ a) : upW W a V wr = W wr := if_neg h
/-- what the other side holds of all writers -/
def LYw (W : Nat → Nat → Int) (h : Hp) : Prop := ∀ wr pl, wr < 8 → pl < 40 → h 185 (40 * wr + pl) = W wr pl
theorem cntM_s {x m : Hp} (R : RS x m) {i k f : Nat} (hi : (i : Int) < m 150 5) (hk : k < 8) (h62 : m 150 62 = (f : Int)) (hf : (f : Int) + m 164 i ≤ 40) : iter (X12_lays_l46 (k : Int) (i : Int)) FU (0, 0, m) = some (((cnBt (fun p => decide (m 165 (8 * i + p) ≠ m 157 (40 * k + f + p))) (m 164 i).toNat : Nat) : Int), m) := by
  obtain ⟨-, S⟩ := id R
  obtain ⟨⟨-, -, -, b5⟩, -, ⟨-, b157, -⟩, -, ⟨b164, b165⟩, -⟩ := id S
  have b4 := b164 i
  obtain ⟨sz, hsz⟩ := Int.eq_ofNat_of_zero_le b4.1
  have key : OK (iter (X12_lays_l46 (k : Int) (i : Int)) FU (0, 0, m)) (fun z => z = (((cnBt (fun p => decide (m 165 (8 * i + p) ≠ m 157 (40 * k + f + p))) sz : Nat) : Int), m)) := by
    refine iter_up (fun p t => p ≤ sz ∧ t = (((cnBt (fun p => decide (m 165 (8 * i + p) ≠ m 157 (40 * k + f + p))) p : Nat) : Int), (p : Int), m)) _ sz (by omega) (fun p t hp hI => ?_) ⟨Nat.zero_le _, rfl⟩
    obtain ⟨-, rfl⟩ := hI
    unfold X12_lays_l46 X12_lays_j76
    dsimp only
    refine OK_gi (by omega) (by omega) (by omega) ?_
    simp only [wtn i rfl (by omega), hsz, w32_id (z := (sz : Int)) (by omega) (by omega), w32_id (z := (p : Int)) (by omega) (by omega)]
    refine OK_if (fun c => ?_) (fun c => ?_)
    · rw [OK_some, LQ_r, show p = sz from by omega]
    · have c1 := b165 (8 * i + p)
      have c2 := b157 (40 * k + f + p)
      simp only [h62]
      refine OK_gi (by omega) (by omega) (by omega) (OK_gi (by omega) (by omega) (by omega) ?_)
      simp only [wtn (v := 8 * (i : Int) + (p : Int)) (8 * i + p) (by omega) (by omega), wtn (v := 40 * (k : Int) + (f : Int) + (p : Int)) (40 * k + f + p) (by omega) (by omega), w32_id (z := m 165 (8 * i + p)) (by omega) (by omega), w32_id (z := m 157 (40 * k + f + p)) (by omega) (by omega)]
      refine OK_if (fun d => ?_) (fun d => ?_)
      · rw [OK_some, LQ_l]
        refine ⟨by omega, by omega, ?_⟩
        have e : cnBt (fun p => decide (m 165 (8 * i + p) ≠ m 157 (40 * k + f + p))) (p + 1) = cnBt (fun p => decide (m 165 (8 * i + p) ≠ m 157 (40 * k + f + p))) p := by
          exact cnBt_n (decide_eq_false (fun q => q d))
        rw [e, Int.add_zero]
        rfl
      · rw [OK_some, LQ_l]
        refine ⟨by omega, by omega, ?_⟩
        have e : cnBt (fun p => decide (m 165 (8 * i + p) ≠ m 157 (40 * k + f + p))) (p + 1) = cnBt (fun p => decide (m 165 (8 * i + p) ≠ m 157 (40 * k + f + p))) p + 1 := by
          exact cnBt_t (decide_eq_true d)
        rw [e]
        rfl
  obtain ⟨z, ez, hz⟩ := OK_ex key
  rw [ez, hz, hsz]
  rfl
theorem setM_s {x m : Hp} (R : RS x m) {W : Nat → Nat → Int} {i k f a : Nat} (hi : (i : Int) < m 150 5) (hk : k < 8) (h62 : m 150 62 = (f : Int)) (hf : (f : Int) + m 164 i ≤ 40) (ha : m 160 i = (a : Int)) (hW : ∀ wr pl, -1 ≤ W wr pl ∧ W wr pl ≤ 63) (L : LYw W m) : OK (iter (X12_lays_l87 (k : Int) (i : Int)) FU (0, m)) (fun g => LYw (upW W a (gvP (W a) f (m 164 i).toNat (fun p => m 165 (8 * i + p)))) g ∧ ∀ c j, c ≠ 185 → g c j = m c j) := by
  obtain ⟨-, S⟩ := id R
  obtain ⟨⟨-, -, b4, b5⟩, -, ⟨-, b157, -⟩, ⟨b160, -⟩, ⟨b164, b165⟩, -⟩ := id S
  have b4' := b164 i
  have ba := b160 i
  obtain ⟨sz, hsz⟩ := Int.eq_ofNat_of_zero_le b4'.1
  rw [hsz]
  refine iter_up (fun t st => t ≤ sz ∧ ∃ g : Hp, st = ((t : Int), g) ∧ LYw (upW W a (gvP (W a) f t (fun p => m 165 (8 * i + p)))) g ∧ ∀ c j, c ≠ 185 → g c j = m c j) _ sz (by omega) (fun t st ht hI => ?_) ⟨Nat.zero_le _, m, rfl, ?_, fun _ _ _ => rfl⟩
  · obtain ⟨-, g, rfl, G, gf⟩ := hI
    unfold X12_lays_l87 X12_lays_j127
    dsimp only
    refine OK_gi (by omega) (by omega) (by omega) ?_
    simp only [wtn i rfl (by omega)]
    rw [gf 164 i (by decide)]
    simp only [hsz, w32_id (z := (sz : Int)) (by omega) (by omega), w32_id (z := (t : Int)) (by omega) (by omega)]
    refine OK_if (fun c => ?_) (fun c => ?_)
    · rw [OK_some, LQ_r]
      have : t = sz := by omega
      subst this
      exact ⟨G, gf⟩
    · have c1 := b165 (8 * i + t)
      have gs := fun pl => gvP_s (W := W a) (f := f) (t := t) (wd := fun p => m 165 (8 * i + p)) (by omega) pl
      have gW : gvP (W a) f t (fun p => m 165 (8 * i + p)) (f + t) = W a (f + t) := by
        unfold gvP
        rw [if_neg (by omega)]
      have hWa := hW a (f + t)
      have hg : g 185 (40 * a + (f + t)) = W a (f + t) := by
        rw [G a (f + t) (by omega) (by omega), upW_s, gW]
      rw [gf 160 i (by decide), ha, gf 150 62 (by decide), h62, gf 165 _ (by decide)]
      simp only [wtn (v := 40 * (a : Int) + (f : Int) + (t : Int)) (40 * a + (f + t)) (by omega) (by omega), hg, w32_id (z := W a (f + t)) (by omega) (by omega), show w32 (-1) = -1 from rfl, wtn (v := 8 * (i : Int) + (t : Int)) (8 * i + t) (by omega) (by omega)]
      have fin : ∀ v, v = (if W a (f + t) = -1 then m 165 (8 * i + t) else W a (f + t)) → OK (if inb (40 * (a : Int) + (f : Int) + (t : Int)) 320 then some (Sum.inl ((t : Int) + 1, setH g 185 (40 * a + (f + t)) v)) else none) (LQ (fun s' => t < sz ∧ (t + 1 ≤ sz ∧ ∃ g : Hp, s' = (((t + 1 : Nat) : Int), g) ∧ LYw (upW W a (gvP (W a) f (t + 1) (fun p => m 165 (8 * i + p)))) g ∧ ∀ c j, c ≠ 185 → g c j = m c j)) (fun g => LYw (upW W a (gvP (W a) f sz (fun p => m 165 (8 * i + p)))) g ∧ ∀ c j, c ≠ 185 → g c j = m c j)) := by
        intro v hv
        subst hv
        refine OK_gi (by omega) (by omega) (by omega) ?_
        rw [OK_some, LQ_l]
        refine ⟨by omega, by omega, _, rfl, fun wr pl h1 h2 => ?_, fun c j h => by rw [setH_o h, gf c j h]⟩
        by_cases e : 40 * wr + pl = 40 * a + (f + t)
        · have e1 : wr = a := by omega
          have e2 : pl = f + t := by omega
          subst e1 e2
          rw [setH_s, upW_s, gs, gW]
          by_cases q : W wr (f + t) = -1
          · rw [if_pos q, if_pos (show f + t = f + t ∧ W wr (f + t) = -1 from ⟨rfl, q⟩)]
          · rw [if_neg q, if_neg (show ¬ (f + t = f + t ∧ W wr (f + t) = -1) from fun r => q r.2)]
        · rw [setH_n e, G wr pl h1 h2]
          by_cases e1 : wr = a
          · subst e1
            rw [upW_s, upW_s, gs, if_neg (fun r => by have := r.1; omega)]
          · rw [upW_n e1, upW_n e1]
      refine OK_gi (by omega) (by omega) (by omega) (OK_gi (by omega) (by omega) (by omega) (OK_if (fun d => OK_gi (by omega) (by omega) (by omega) ?_) (fun d => OK_gi (by omega) (by omega) (by omega) ?_)))
      · exact fin _ (by rw [if_neg d])
      · exact fin _ (by rw [if_pos (by omega)])
  · intro wr pl h1 h2
    rw [L wr pl h1 h2]
    by_cases e : wr = a
    · subst e
      rw [upW_s, gvP_0]
    · rw [upW_n e]
theorem lays_s {x m : Hp} (R : RS x m) {k n : Nat} (hn : m 150 5 = (n : Int)) (hk : k < 8) (hl : 1 ≤ m 156 k) : OK (X12_lays (k : Int) m) (fun w => LYw (fun wr => hwF m k wr n) w ∧ ∀ a j, ¬ cMY a j → w a j = m a j) := by
  obtain ⟨-, S⟩ := id R
  obtain ⟨⟨-, b3, b4, b5⟩, -, ⟨b156, -⟩, ⟨b160, b161, -⟩, ⟨b164, b165⟩, ⟨bb, -⟩⟩ := id S
  unfold X12_lays
  rw [OK_bindE]
  refine OK_mono (iter_up (fun p s => p ≤ 320 ∧ ∃ h : Hp, s = ((p : Int), h) ∧ (∀ r, r < p → h 185 r = -1) ∧ ∀ c j, c ≠ 185 → h c j = m c j) (fun h => (∀ r, r < 320 → h 185 r = -1) ∧ ∀ c j, c ≠ 185 → h c j = m c j) 320 (by omega) (fun p s hp hI => ?_) ⟨Nat.zero_le _, m, rfl, fun r hr => by omega, fun _ _ _ => rfl⟩) (fun h1 hh1 => ?_)
  · obtain ⟨-, h, rfl, z1, z2⟩ := hI
    unfold X12_lays_l2
    dsimp only
    simp only [w32_id (z := (p : Int)) (by omega) (by omega), show w32 320 = 320 from rfl]
    refine OK_if (fun c => ?_) (fun c => ?_)
    · rw [OK_some, LQ_r]
      exact ⟨fun r hr => z1 r (by omega), z2⟩
    · refine OK_gi (by omega) (by omega) (by omega) ?_
      rw [OK_some, LQ_l, tn]
      refine ⟨by omega, by omega, _, rfl, fun r hr => ?_, fun c j hc => by rw [setH_o hc, z2 c j hc]⟩
      by_cases e : r = p
      · subst e
        rw [setH_s]
      · rw [setH_n e]
        exact z1 r (by omega)
  · obtain ⟨z1, z2⟩ := hh1
    rw [OK_bindE]
    refine OK_mono (iter_up (fun i st => i ≤ n ∧ ∃ g : Hp, st = ((i : Int), g) ∧ LYw (fun wr => hwF m k wr i) g ∧ ∀ a j, ¬ cMY a j → g a j = m a j) (fun w => LYw (fun wr => hwF m k wr n) w ∧ ∀ a j, ¬ cMY a j → w a j = m a j) n (by omega) (fun i st hi hI => ?_) ⟨Nat.zero_le _, h1, rfl, fun wr pl h2 h3 => by rw [z1 _ (by omega)]; rfl, fun a j h => z2 a j (by unfold cMY at h; omega)⟩) (fun w hw => hw)
    obtain ⟨-, g, rfl, G, gf⟩ := hI
    unfold X12_lays_l14 X12_lays_j130
    dsimp only
    have g5 : g 150 5 = (n : Int) := by rw [gf 150 5 (by unfold cMY; omega), hn]
    simp only [g5, w32_id (z := (n : Int)) (by omega) (by omega), w32_id (z := (i : Int)) (by omega) (by omega)]
    refine OK_if (fun c => ?_) (fun c => ?_)
    · rw [OK_some, LQ_r]
      have : i = n := by omega
      subst this
      exact ⟨G, gf⟩
    · have c0 := b160 i
      have c1 := b161 i
      have c4 := b164 i
      have cb := bb i (by omega)
      have skip : (∀ wr, ¬ (m 161 i = (k : Int) ∧ m 160 i = (wr : Int) ∧ qlB m i k = true)) → ∀ h' : Hp, LYw (fun wr => hwF m k wr i) h' → (∀ a j, ¬ cMY a j → h' a j = m a j) → OK (some (Sum.inl ((i : Int) + 1, h'))) (LQ (fun s' => i < n ∧ (i + 1 ≤ n ∧ ∃ g : Hp, s' = (((i + 1 : Nat) : Int), g) ∧ LYw (fun wr => hwF m k wr (i + 1)) g ∧ ∀ a j, ¬ cMY a j → g a j = m a j)) (fun w => LYw (fun wr => hwF m k wr n) w ∧ ∀ a j, ¬ cMY a j → w a j = m a j)) := by
        intro hq h' H1 H2
        rw [OK_some, LQ_l]
        exact ⟨by omega, by omega, h', rfl, fun wr pl h2 h3 => by dsimp only; rw [hwF_s, if_neg (hq wr)]; exact H1 wr pl h2 h3, H2⟩
      refine OK_gi (by omega) (by omega) (by omega) ?_
      simp only [tn]
      rw [gf 161 i (by unfold cMY; omega)]
      simp only [w32_id (z := m 161 i) (by omega) (by omega), w32_id (z := (k : Int)) (by omega) (by omega)]
      by_cases e : m 161 i = (k : Int)
      · refine OK_gd e ?_
        have Rg : RS x g := RS_cY gf R
        have ne := neM_cY gf i k
        rw [OK_bindE]
        refine OK_mono (nears_b Rg.2 (i := i) (k := k) (by omega) hk (by rw [gf 156 k (by unfold cMY; omega)]; exact hl)) (fun y hy => ?_)
        obtain ⟨y1, y2⟩ := hy
        rw [ne] at y1
        have gd := neM_gd S (i := i) (k := k) (by omega) hl
        have b6 := b156 k
        have y61 : y 150 61 = (neM m i k).1 := by rw [← y1]
        have y62 : y 150 62 = (neM m i k).2.1 := by rw [← y1]
        have y63 : y 150 63 = (neM m i k).2.2 := by rw [← y1]
        have yf : ∀ a j, ¬ cMY a j → y a j = m a j := fun a j h => by
          rw [y2 a j (by unfold cMY at h; omega) (by unfold cMY at h; omega), gf a j h]
        have Ry : RS x y := RS_cY yf R
        have GY : LYw (fun wr => hwF m k wr i) y := fun wr pl h2 h3 => by
          rw [y2 185 _ (by decide) (by omega)]
          exact G wr pl h2 h3
        have y164 : y 164 = m 164 := funext fun j => yf 164 j (by unfold cMY; omega)
        have y165 : y 165 = m 165 := funext fun j => yf 165 j (by unfold cMY; omega)
        have y157 : y 157 = m 157 := funext fun j => yf 157 j (by unfold cMY; omega)
        have y160 : y 160 = m 160 := funext fun j => yf 160 j (by unfold cMY; omega)
        obtain ⟨f, hf⟩ := Int.eq_ofNat_of_zero_le gd.2.2.1
        obtain ⟨a, ha⟩ := Int.eq_ofNat_of_zero_le c0.1
        refine OK_gi (by omega) (by omega) (by omega) ?_
        simp only [y61, y62, y63, y164, w32_id (z := m 164 i) (by omega) (by omega), w32_id (z := (neM m i k).2.2 - (neM m i k).2.1 + 1) (by omega) (by omega)]
        by_cases h1 : (neM m i k).2.2 - (neM m i k).2.1 + 1 = m 164 i
        · refine OK_gd h1 ?_
          have cm := cntM_s Ry (i := i) (k := k) (f := f) (by rw [yf 150 5 (by unfold cMY; omega), hn]; omega) hk (by rw [y62, hf]) (by rw [y164]; omega)
          have eo : cnBt (fun p => decide (y 165 (8 * i + p) ≠ y 157 (40 * k + f + p))) (y 164 i).toNat = otW m i k := by
            unfold otW
            rw [hf, tn, y165, y157, y164]
          rw [eo] at cm
          have lo : otW m i k ≤ (m 164 i).toNat := cnBt_le _ _
          rw [cm, OK_bindE, OK_some]
          dsimp only
          simp only [y61, w32_id (z := ((otW m i k : Nat) : Int)) (by omega) (by omega), w32_id (z := (neM m i k).1) (by omega) (by omega)]
          by_cases h2 : ((otW m i k : Nat) : Int) = (neM m i k).1
          · refine OK_gd h2 ?_
            rw [OK_bindE]
            refine OK_mono (setM_s Ry (W := fun wr => hwF m k wr i) (i := i) (k := k) (f := f) (a := a) (by rw [yf 150 5 (by unfold cMY; omega), hn]; omega) hk (by rw [y62, hf]) (by rw [y164]; omega) (by rw [y160, ha]) (fun wr pl => by
              have := ((hwF_bd S (wr := wr) hl i (by omega)) pl).1
              omega) GY) (fun g2 hg2 => ?_)
            rw [OK_some, LQ_l]
            refine ⟨by omega, by omega, g2, rfl, fun wr pl h3 h4 => ?_, fun c j h => by rw [hg2.2 c j (by unfold cMY at h; omega), yf c j h]⟩
            rw [hg2.1 wr pl h3 h4]
            dsimp only
            rw [hwF_s, y164, y165, hf, tn]
            by_cases q : wr = a
            · subst q
              rw [upW_s, if_pos ⟨e, ha, by unfold qlB; rw [decide_eq_true_iff]; exact ⟨h1, h2⟩⟩]
            · rw [upW_n q, if_neg (fun r => q (by have := r.2.1; omega))]
          · refine OK_gn h2 ?_
            exact skip (fun wr q => by have := q.2.2; unfold qlB at this; rw [decide_eq_true_iff] at this; exact h2 this.2) y GY yf
        · refine OK_gn h1 ?_
          exact skip (fun wr q => by have := q.2.2; unfold qlB at this; rw [decide_eq_true_iff] at this; exact h1 this.1) y GY yf
      · refine OK_gn e ?_
        exact skip (fun wr q => e q.1) g G gf
theorem hasP_s {W : Nat → Nat → Int} {h : Hp} {wr pl : Nat} (L : LYw W h) (hW : -1 ≤ W wr pl ∧ W wr pl ≤ 63) (hw : wr < 8) (hp : pl < 40) : X12_hasPlace (wr : Int) (pl : Int) h = some (if W wr pl = -1 then 0 else 1) := by
  unfold X12_hasPlace
  rw [if_inb (by omega) (by omega) (by omega)]
  simp only [wtn (v := 40 * (wr : Int) + (pl : Int)) (40 * wr + pl) (by omega) (by omega), L wr pl hw hp, w32_id (z := W wr pl) (by omega) (by omega), show w32 (-1) = -1 from rfl]
  by_cases c : W wr pl = -1
  · rw [if_pos c, if_pos c]
  · rw [if_neg c, if_neg c]
theorem slipsAt_s {W : Nat → Nat → Int} {h : Hp} {wr pl k : Nat} (L : LYw W h) (hW : -1 ≤ W wr pl ∧ W wr pl ≤ 63) (hw : wr < 8) (hp : pl < 40) (hk : k < 8) (h7 : 0 ≤ h 157 (40 * k + pl) ∧ h 157 (40 * k + pl) ≤ 63) : X12_slipsAt (wr : Int) (k : Int) (pl : Int) h = some (if W wr pl ≠ -1 ∧ W wr pl ≠ h 157 (40 * k + pl) then 1 else 0) := by
  unfold X12_slipsAt
  rw [hasP_s L hW hw hp, Option.bind_some]
  by_cases c : W wr pl = -1
  · rw [if_pos c, if_pos (by decide), if_neg (fun q => q.1 c)]
  · rw [if_neg c, if_neg (by decide), if_inb (by omega) (by omega) (by omega), if_inb (by omega) (by omega) (by omega)]
    simp only [wtn (v := 40 * (wr : Int) + (pl : Int)) (40 * wr + pl) (by omega) (by omega), wtn (v := 40 * (k : Int) + (pl : Int)) (40 * k + pl) (by omega) (by omega), L wr pl hw hp, w32_id (z := W wr pl) (by omega) (by omega), w32_id (z := h 157 (40 * k + pl)) (by omega) (by omega)]
    by_cases d : W wr pl = h 157 (40 * k + pl)
    · rw [if_pos d, if_neg (fun q => q.2 d)]
    · rw [if_neg d, if_pos ⟨c, d⟩]
theorem placesOf_s {W : Nat → Nat → Int} {h : Hp} {wr : Nat} (L : LYw W h) (hW : ∀ pl, -1 ≤ W wr pl ∧ W wr pl ≤ 63) (hw : wr < 8) : OK (X12_placesOf (wr : Int) h) (fun z => w64 z = z ∧ ∀ pl, pl < 64 → tb z pl = decide (pl < 40 ∧ W wr pl ≠ -1)) := by
  unfold X12_placesOf
  rw [OK_bindE]
  refine OK_mono (iter_up (fun p s => p ≤ 40 ∧ ∃ z : Int, s = (z, (p : Int)) ∧ w64 z = z ∧ ∀ pl, pl < 64 → tb z pl = decide (pl < p ∧ W wr pl ≠ -1)) (fun z => w64 z = z ∧ ∀ pl, pl < 64 → tb z pl = decide (pl < 40 ∧ W wr pl ≠ -1)) 40 (by omega) (fun p s hp hI => ?_) ⟨Nat.zero_le _, 0, rfl, rfl, fun pl _ => by rw [tb_0]; simp⟩) (fun z hz => hz)
  obtain ⟨-, z, rfl, hz, hb⟩ := hI
  unfold X12_placesOf_l4 X12_placesOf_j18
  dsimp only
  simp only [w32_id (z := (p : Int)) (by omega) (by omega), show w32 40 = 40 from rfl]
  refine OK_if (fun c => ?_) (fun c => ?_)
  · rw [OK_some, LQ_r]
    have : p = 40 := by omega
    subst this
    exact ⟨hz, hb⟩
  · rw [hasP_s L (hW p) hw (by omega), OK_bindE, OK_some]
    by_cases d : W wr p = -1
    · rw [if_pos d]
      refine OK_gd (by decide) ?_
      rw [OK_some, LQ_l]
      refine ⟨by omega, by omega, _, rfl, w64_or _ _, fun pl hpl => ?_⟩
      rw [tb_or, hb pl hpl, tb_0]
      by_cases e : pl = p
      · subst e
        simp [d]
      · have : (pl < p) ↔ (pl < p + 1) := by omega
        simp [this]
    · rw [if_neg d]
      refine OK_gn (by decide) ?_
      rw [OK_some, LQ_l]
      refine ⟨by omega, by omega, _, rfl, w64_or _ _, fun pl hpl => ?_⟩
      rw [tb_or, hb pl hpl, tb_shl (by omega) hpl]
      by_cases e : pl = p
      · subst e
        simp [d]
      · have : (pl < p) ↔ (pl < p + 1) := by omega
        simp [this, e]
theorem slipsOf_s {W : Nat → Nat → Int} {h : Hp} {wr k : Nat} (L : LYw W h) (hW : ∀ pl, -1 ≤ W wr pl ∧ W wr pl ≤ 63) (hw : wr < 8) (hk : k < 8) (h7 : ∀ j, 0 ≤ h 157 j ∧ h 157 j ≤ 63) (h6 : 0 ≤ h 156 k ∧ h 156 k ≤ 40) (hz : ∀ pl : Nat, h 156 k ≤ (pl : Int) → W wr pl = -1) : OK (X12_slipsOf (wr : Int) (k : Int) h) (fun z => w64 z = z ∧ ∀ pl, pl < 64 → tb z pl = decide (pl < 40 ∧ W wr pl ≠ -1 ∧ W wr pl ≠ h 157 (40 * k + pl))) := by
  obtain ⟨n, hn⟩ := Int.eq_ofNat_of_zero_le h6.1
  unfold X12_slipsOf
  rw [OK_bindE]
  refine OK_mono (iter_up (fun p s => p ≤ n ∧ ∃ z : Int, s = (z, (p : Int)) ∧ w64 z = z ∧ ∀ pl, pl < 64 → tb z pl = decide (pl < p ∧ W wr pl ≠ -1 ∧ W wr pl ≠ h 157 (40 * k + pl))) (fun z => w64 z = z ∧ ∀ pl, pl < 64 → tb z pl = decide (pl < 40 ∧ W wr pl ≠ -1 ∧ W wr pl ≠ h 157 (40 * k + pl))) n (by omega) (fun p s hp hI => ?_) ⟨Nat.zero_le _, 0, rfl, rfl, fun pl _ => by rw [tb_0]; simp⟩) (fun z hz => hz)
  obtain ⟨-, z, rfl, hz2, hb⟩ := hI
  unfold X12_slipsOf_l4 X12_slipsOf_j22
  dsimp only
  refine OK_gi (by omega) (by omega) (by omega) ?_
  simp only [wtn k rfl (by omega), hn, w32_id (z := (p : Int)) (by omega) (by omega), w32_id (z := (n : Int)) (by omega) (by omega)]
  refine OK_if (fun c => ?_) (fun c => ?_)
  · rw [OK_some, LQ_r]
    have : p = n := by omega
    subst this
    refine ⟨hz2, fun pl hpl => ?_⟩
    rw [hb pl hpl, decide_eq_decide]
    constructor
    · intro q
      exact ⟨by omega, q.2⟩
    · intro q
      refine ⟨?_, q.2⟩
      by_cases r : pl < p
      · exact r
      · exact absurd (hz pl (by omega)) q.2.1
  · rw [slipsAt_s L (hW p) hw (by omega) hk (h7 _), OK_bindE, OK_some]
    by_cases d : W wr p ≠ -1 ∧ W wr p ≠ h 157 (40 * k + p)
    · rw [if_pos d]
      refine OK_gn (by decide) ?_
      rw [OK_some, LQ_l]
      refine ⟨by omega, by omega, _, rfl, w64_or _ _, fun pl hpl => ?_⟩
      rw [tb_or, hb pl hpl, tb_shl (by omega) hpl]
      by_cases e : pl = p
      · subst e
        simp [d.1, d.2]
      · have : (pl < p) ↔ (pl < p + 1) := by omega
        simp [this, e]
    · rw [if_neg d]
      refine OK_gd (by decide) ?_
      rw [OK_some, LQ_l]
      refine ⟨by omega, by omega, _, rfl, w64_or _ _, fun pl hpl => ?_⟩
      rw [tb_or, hb pl hpl, tb_0, Bool.or_false, decide_eq_decide]
      constructor
      · intro q
        exact ⟨by omega, q.2⟩
      · intro q
        refine ⟨?_, q.2⟩
        by_cases e : pl = p
        · subst e
          exact absurd q.2 d
        · omega
