/-! LEFT, BIT -/
theorem byteAt_in {h : Hp} (j : Nat) {v : Int} (e : v = (j : Int)) (hj : (j : Int) < h 1 1) (h2 : h 1 1 ≤ 200) : X9_byteAt v h = some (h 2 j) := by
  subst e
  unfold X9_byteAt
  simp (disch := omega) only [↓if_inb, w32_id, tn]
  rw [if_neg (by omega), if_neg (by omega), if_neg (by omega)]
theorem holds_eq {v c : Int} {h : Hp} (hc : 0 ≤ c ∧ c ≤ 8) : X9_holds v c h = some (if 0 ≤ w32 v ∧ w32 v * c ≤ w32 (h 1 1) then 1 else 0) := by
  have a := w32_ge v
  have b := w32_lt' v
  have d := w32_ge (h 1 1)
  have e := w32_lt' (h 1 1)
  have f : -17179869184 ≤ w32 v * c ∧ w32 v * c ≤ 17179869184 := by
    obtain ⟨n, rfl⟩ := Int.eq_ofNat_of_zero_le hc.1
    have : n = 0 ∨ n = 1 ∨ n = 2 ∨ n = 3 ∨ n = 4 ∨ n = 5 ∨ n = 6 ∨ n = 7 ∨ n = 8 := by omega
    rcases this with g | g | g | g | g | g | g | g | g <;> subst g <;> omega
  unfold X9_holds
  rw [cmp64_eq, w32_id (z := c) (by omega) (by omega), w64_w32, w64_id (z := w32 v * c) (by omega) (by omega)]
  by_cases h1 : w32 v < 0
  · rw [if_pos h1, if_neg (by omega)]
  · rw [if_neg h1]
    by_cases h2 : w32 (h 1 1) < w32 v * c
    · rw [if_pos h2, if_pos (by decide), if_neg (by omega)]
    · rw [if_neg h2]
      by_cases h3 : w32 v * c = w32 (h 1 1)
      · rw [if_pos h3, if_neg (by decide), if_pos (by omega)]
      · rw [if_neg h3, if_neg (by decide), if_pos (by omega)]
/-- WORDS and BOOKS written beside one another -/
def TW (x m : Hp) (k : Nat) (hx hm : Hp) : Prop := (hx 9 = hm 157 ∧ hx 10 = hm 158) ∧ ((∀ i, 0 ≤ hm 157 i ∧ hm 157 i ≤ 63) ∧ (∀ i, 0 ≤ hm 158 i ∧ hm 158 i ≤ 40)) ∧ (∀ c j, c ≠ 9 → c ≠ 10 → hx c j = x c j) ∧ (∀ c j, ¬ (c = 150 ∧ j = 1) → c ≠ 157 → c ≠ 158 → hm c j = m c j) ∧ hm 150 1 = 0 ∧ (∀ j, (j < 40 * k ∨ 40 * k + 40 ≤ j) → hm 157 j = m 157 j)
theorem tell_b {x m : Hp} (R : RS x m) (T : RT x m) {k n : Nat} (hk : (k : Int) < m 150 3) (hn : 1 ≤ n ∧ n ≤ 40) (hs : 2 * (n : Int) ≤ m 150 1) : OK (X7_tellWords (k : Int) (n : Int) x) (fun z => OK (iter (X12_left_l30 (k : Int) (n : Int)) FU (1, 0, setH m 150 1 0)) (fun w => (∃ y, w = .inl y ∧ z.1 = 0 ∧ TW x m k z.2 y) ∨ (∃ y hx, w = .inr y ∧ z.1 = 1 ∧ z.2 = setH hx 8 k n ∧ TW x m k hx y))) := by
  obtain ⟨⟨⟨e30, e33, e39, e311⟩, ⟨e4, e5, e6, e7, e8, e9, e10, e11⟩, eB, e17, b17⟩, S⟩ := id R
  obtain ⟨bN, ⟨c52, c53, c54, c55⟩, ⟨c56, c57, c58, c59⟩, cB, cW, ⟨d1, d2, d3⟩⟩ := id S
  obtain ⟨b2, b3, b4, b5⟩ := id bN
  obtain ⟨⟨t1, t2, t3⟩, t4, t5⟩ := id T
  unfold X7_tellWords
  have L : OK (iter (X7_tellWords_l4 (k : Int) (n : Int)) FU (1, 0, x)) (fun z => OK (iter (X12_left_l30 (k : Int) (n : Int)) FU (1, 0, setH m 150 1 0)) (fun w => (∃ y u, w = Sum.inl y ∧ z = Sum.inl u ∧ TW x m k u y) ∨ (∃ y u, w = Sum.inr y ∧ z = Sum.inr u ∧ TW x m k u y))) := by
    refine iter_2 (fun p s t => p ≤ n ∧ ∃ (lb : Int) (hx hm : Hp), s = (lb, (p : Int), hx) ∧ t = (lb, (p : Int), hm) ∧ (1 ≤ lb ∧ lb ≤ 40) ∧ TW x m k hx hm) _ n (by omega) (fun p s t hp hI => ?_) ⟨by omega, 1, x, _, rfl, rfl, by omega, ?_⟩
    · obtain ⟨hpn, lb, hx, hm, rfl, rfl, hlb, W⟩ := hI
      obtain ⟨⟨w9, w10⟩, ⟨wb, wc⟩, fx, fm, w1, wf⟩ := id W
      unfold X7_tellWords_l4 X12_left_l30
      (try dsimp only)
      rw [w32_id (z := (n : Int)) (by omega) (by omega), w32_id (z := (p : Int)) (by omega) (by omega)]
      refine OK_if (fun c => ?_) (fun c => ?_)
      · rw [OK_some, if_pos c, OK_some, LQ2_r]
        exact Or.inr ⟨hm, hx, rfl, rfl, W⟩
      · have x1 : hx 1 1 = m 150 1 := by rw [fx 1 1 (by decide) (by decide)]; exact t1
        have x2 : hx 2 = x 2 := funext fun j => fx 2 j (by decide) (by decide)
        have x7 : hx 7 = m 155 := (funext fun j => fx 7 j (by decide) (by decide)).trans e7
        have m151 : hm 151 = m 151 := funext fun j => fm 151 j (by omega) (by decide) (by decide)
        have m155 : hm 155 = m 155 := funext fun j => fm 155 j (by omega) (by decide) (by decide)
        have g1 := t5 (2 * p)
        have g2 := t5 (2 * p + 1)
        have g3 := c55 k
        refine OK_gn (by rw [show w32 40 = 40 from rfl]; omega) ?_
        rw [if_neg c, byteAt_in (2 * p) (by omega) (by omega) (by omega), OK_bindE, OK_some, byteAt_in (2 * p + 1) (by omega) (by omega) (by omega), OK_bindE, OK_some, at_e k rfl (by omega) (by omega), x2, x7]
        simp (disch := omega) only [↓if_inb, tm2, tm21, t40, tn, m151, m155, w32_id, within_in, lies_in, OK_bindE, OK_some, Option.bind_some]
        by_cases cw : 0 ≤ m 151 (2 * p) ∧ m 151 (2 * p) ≤ 63
        · have cx : 0 ≤ x 2 (2 * p) ∧ x 2 (2 * p) ≤ 63 := by omega
          have ew : x 2 (2 * p) = m 151 (2 * p) := by omega
          by_cases cv : lb ≤ m 151 (2 * p + 1) ∧ m 151 (2 * p + 1) ≤ m 155 k
          · have cy : lb ≤ x 2 (2 * p + 1) ∧ x 2 (2 * p + 1) ≤ m 155 k := by omega
            have ev : x 2 (2 * p + 1) = m 151 (2 * p + 1) := by omega
            simp only [if_pos cw, if_pos cx, if_pos cv, if_pos cy, q0, q1, qn0, qn1, i10, i00, in10, in00, if_true, if_false, OK_bindE, OK_some, Option.bind_some, ew, ev]
            rw [put_e (40 * k + p) (by omega) (by omega) (by omega), OK_some, put_e (40 * k + p) (by omega) (by omega) (by omega), OK_some, LQ2_l]
            refine ⟨by omega, by omega, _, _, _, rfl, rfl, by omega, ⟨?_, ?_⟩, ⟨?_, ?_⟩, ?_, ?_, ?_, ?_⟩
            · simp (disch := decide) only [setH_o]
              exact set_eq w9
            · exact set_eq (by rw [setH_o (by decide), setH_o (by decide)]; exact w10)
            · rw [setH_o (by decide)]
              exact set_bd wb cw.1 cw.2
            · exact set_bd (by rw [setH_o (by decide)]; exact wc) (by omega) (by omega)
            · intro c j h1 h2
              rw [setH_o h2, setH_o h1]
              exact fx c j h1 h2
            · intro c j h1 h2 h3
              rw [setH_o h3, setH_o h2]
              exact fm c j h1 h2 h3
            · rw [setH_o (by decide), setH_o (by decide)]
              exact w1
            · intro j hj
              rw [setH_o (by decide), setH_n (by omega)]
              exact wf j hj
          · have cy : ¬ (lb ≤ x 2 (2 * p + 1) ∧ x 2 (2 * p + 1) ≤ m 155 k) := by omega
            simp only [if_pos cw, if_pos cx, if_neg cv, if_neg cy, q0, q1, qn0, qn1, i10, i00, in10, in00, if_true, if_false, OK_bindE, OK_some, Option.bind_some, LQ2_r]
            exact Or.inl ⟨hm, hx, rfl, rfl, W⟩
        · have cx : ¬ (0 ≤ x 2 (2 * p) ∧ x 2 (2 * p) ≤ 63) := by omega
          simp only [if_neg cw, if_neg cx, q0, q1, qn0, qn1, i10, i00, in10, in00, if_true, if_false, OK_bindE, OK_some, Option.bind_some, LQ2_r]
          exact Or.inl ⟨hm, hx, rfl, rfl, W⟩
    · refine ⟨⟨?_, ?_⟩, ⟨?_, ?_⟩, fun _ _ _ _ => rfl, fun c j h1 h2 h3 => setH_f (by omega), setH_s, fun j _ => setH_f (by omega)⟩
      · rw [setH_o (by decide)]
        exact e9
      · rw [setH_o (by decide)]
        exact e10
      · rw [setH_o (by decide)]
        exact c57
      · rw [setH_o (by decide)]
        exact c58
  rw [OK_bindE]
  refine OK_mono L (fun z hz => ?_)
  cases z with
  | inl u =>
    refine OK_some ▸ (OK_mono hz (fun w hw => ?_))
    rcases hw with ⟨y, u', rfl, e, W⟩ | ⟨y, u', rfl, e, W⟩
    · cases e
      exact Or.inl ⟨y, rfl, rfl, W⟩
    · cases e
  | inr u =>
    dsimp only
    rw [put_e k rfl (by omega) (by omega), OK_bindE, OK_some, OK_some]
    refine OK_mono hz (fun w hw => ?_)
    rcases hw with ⟨y, u', rfl, e, W⟩ | ⟨y, u', rfl, e, W⟩
    · cases e
    · cases e
      exact Or.inr ⟨y, u, rfl, rfl, rfl, W⟩
theorem TW_RS {x m hx hm : Hp} {k : Nat} (R : RS x m) (W : TW x m k hx hm) : RS hx hm := by
  obtain ⟨⟨⟨e30, e33, e39, e311⟩, ⟨e4, e5, e6, e7, e8, e9, e10, e11⟩, ⟨e12, e13, e14, e15, e16⟩, e17, b17⟩, S⟩ := id R
  obtain ⟨bN, cA, ⟨c56, c57, c58, c59⟩, cB, cW, cD⟩ := id S
  obtain ⟨⟨w9, w10⟩, ⟨wb, wc⟩, fx, fm, w1, wf⟩ := W
  have ex : ∀ c, c ≠ 9 → c ≠ 10 → hx c = x c := fun c h1 h2 => funext fun j => fx c j h1 h2
  have em : ∀ c, c ≠ 150 → c ≠ 157 → c ≠ 158 → hm c = m c := fun c h1 h2 h3 => funext fun j => fm c j (by omega) h2 h3
  unfold RS SB
  rw [ex 3 (by decide) (by decide), ex 4 (by decide) (by decide), ex 5 (by decide) (by decide), ex 6 (by decide) (by decide), ex 7 (by decide) (by decide), ex 8 (by decide) (by decide), ex 11 (by decide) (by decide), ex 12 (by decide) (by decide), ex 13 (by decide) (by decide), ex 14 (by decide) (by decide), ex 15 (by decide) (by decide), ex 16 (by decide) (by decide), ex 17 (by decide) (by decide)]
  rw [fm 150 2 (by omega) (by decide) (by decide), fm 150 3 (by omega) (by decide) (by decide), fm 150 4 (by omega) (by decide) (by decide), fm 150 5 (by omega) (by decide) (by decide), em 152 (by decide) (by decide) (by decide), em 153 (by decide) (by decide) (by decide), em 154 (by decide) (by decide) (by decide), em 155 (by decide) (by decide) (by decide), em 156 (by decide) (by decide) (by decide), em 159 (by decide) (by decide) (by decide), em 160 (by decide) (by decide) (by decide), em 161 (by decide) (by decide) (by decide), em 162 (by decide) (by decide) (by decide), em 163 (by decide) (by decide) (by decide), em 164 (by decide) (by decide) (by decide), em 165 (by decide) (by decide) (by decide)]
  exact ⟨⟨⟨e30, e33, e39, e311⟩, ⟨e4, e5, e6, e7, e8, w9, w10, e11⟩, ⟨e12, e13, e14, e15, e16⟩, e17, b17⟩, bN, cA, ⟨c56, wb, wc, c59⟩, cB, cW, cD⟩
/-- a WORK is told to be LEFT -/
theorem RS_left {x m : Hp} {k n : Nat} (R : RS x m) (hk : (k : Int) < m 150 3) (hn : n ≤ 40) : RS (setH x 8 k n) (setH m 156 k n) := by
  obtain ⟨⟨⟨e30, e33, e39, e311⟩, ⟨e4, e5, e6, e7, e8, e9, e10, e11⟩, ⟨e12, e13, e14, e15, e16⟩, e17, b17⟩, S⟩ := id R
  obtain ⟨bN, cA, ⟨c56, c57, c58, c59⟩, cB, cW, ⟨d1, d2, d3⟩⟩ := id S
  unfold RS SB
  simp (disch := decide) only [setH_o]
  exact ⟨⟨⟨e30, e33, e39, e311⟩, ⟨e4, e5, e6, e7, set_eq e8, e9, e10, e11⟩, ⟨e12, e13, e14, e15, e16⟩, e17, b17⟩, bN, cA, ⟨set_bd c56 (by omega) (by omega), c57, c58, c59⟩, cB, cW, d1, d2, fun j hj => by rw [setH_n (by omega)]; exact d3 j hj⟩
theorem TW_RT {x m hx hm : Hp} {k : Nat} (T : RT x m) (W : TW x m k hx hm) : RT (setH hx 1 1 0) hm := by
  obtain ⟨-, t4, t5⟩ := id T
  obtain ⟨-, -, fx, fm, w1, -⟩ := W
  refine ⟨⟨by rw [setH_s, w1], by omega, by omega⟩, ⟨?_, ?_, ?_⟩, fun i => ?_⟩
  · rw [setH_o (by decide), fx 0 15 (by decide) (by decide), fm 150 6 (by decide) (by decide) (by decide)]
    exact t4.1
  · rw [fm 150 6 (by decide) (by decide) (by decide)]
    exact t4.2.1
  · rw [fm 150 6 (by decide) (by decide) (by decide)]
    exact t4.2.2
  · rw [setH_o (by decide), fx 2 i (by decide) (by decide), fm 151 i (by omega) (by decide) (by decide)]
    exact t5 i
theorem TW_RC {x m hx hm : Hp} {k : Nat} (S : SB m) (C : RC x m) (h0 : ¬ 0 < m 156 k) (W : TW x m k hx hm) : RC hx hm := by
  obtain ⟨-, -, ⟨c56, -⟩, -⟩ := id S
  obtain ⟨-, -, fx, fm, w1, wf⟩ := W
  refine RC_cg (fun c j h => fx c j (by unfold cXC at h; omega) (by unfold cXC at h; omega)) (by rw [fm 150 5 (by decide) (by decide) (by decide)]; exact Int.le_refl _) (fun i q hi hl hq => ⟨fm 156 q (by omega) (by decide) (by decide), neM_cg (fm 164 i (by omega) (by decide) (by decide)) (fun p _ => fm 165 _ (by omega) (by decide) (by decide)) (fm 156 q (by omega) (by decide) (by decide)) (fun p hp => wf _ ?_)⟩) C
  have := c56 q
  have : q ≠ k := fun e => by subst e; omega
  omega
theorem RC_left {x m : Hp} {k n : Nat} (C : RC x m) (h0 : ¬ 0 < m 156 k) : RC (setH x 8 k n) (setH m 156 k n) :=
  RC_cg (fun c j h => setH_f (by unfold cXC at h; omega)) (by rw [setH_o (by decide)]; exact Int.le_refl _) (fun i q hi hl hq => by
    have e : q ≠ k := fun e => by subst e; omega
    exact ⟨setH_n e, neM_cg (by rw [setH_o (by decide)]) (fun p _ => by rw [setH_o (by decide)]) (setH_n e) (fun p _ => by rw [setH_o (by decide)])⟩) C
theorem left_b {x m : Hp} (R : RS x m) (T : RT x m) (C : RC x m) {a b : Int} (ha : I32 a) (hb : I32 b) : OK (X11_left a b x) (fun z => OK (X12_left a b m) (fun w => z.1 = w.1 ∧ RS z.2 w.2 ∧ RT z.2 w.2 ∧ RC z.2 w.2 ∧ (∀ c j, ¬ (c = 1 ∧ j = 1) → c ≠ 8 → c ≠ 9 → c ≠ 10 → z.2 c j = x c j) ∧ (∀ c j, ¬ (c = 150 ∧ j = 1) → c ≠ 156 → c ≠ 157 → c ≠ 158 → w.2 c j = m c j))) := by
  obtain ⟨⟨⟨e30, e33, e39, e311⟩, ⟨e4, e5, e6, e7, e8, e9, e10, e11⟩, eB, e17, b17⟩, S⟩ := id R
  obtain ⟨bN, cA, ⟨c56, c57, c58, c59⟩, cB, cW, ⟨d1, d2, d3⟩⟩ := id S
  obtain ⟨b2, b3, b4, b5⟩ := id bN
  obtain ⟨⟨t1, t2, t3⟩, t4, t5⟩ := id T
  unfold X11_left X12_left X9_clear
  simp only [x_isK (h := x) (by omega) (by omega), m_isK (h := m) (by omega) (by omega), x_left R ha, e33, I32_w ha, within_in (a := b) (b := 1) (c := 40) (by omega) (by omega) hb.1 hb.2 (by omega) (by omega), I32_w hb, lies_in (a := b) (b := 1) (c := 40) (by have := hb.1; omega) (by have := hb.2; omega) (by omega) (by omega) (by omega) (by omega), holds_eq (v := b) (c := 2) (h := x) (by omega), t1, w32_id (z := m 150 1) (by omega) (by omega), Option.bind_some]
  have triv : ∀ v : Int, (v, x).1 = (v, m).1 ∧ RS x m ∧ RT x m ∧ RC x m ∧ (∀ c j, ¬ (c = 1 ∧ j = 1) → c ≠ 8 → c ≠ 9 → c ≠ 10 → x c j = x c j) ∧ (∀ c j, ¬ (c = 150 ∧ j = 1) → c ≠ 156 → c ≠ 157 → c ≠ 158 → m c j = m c j) := fun _ => ⟨rfl, R, T, C, fun _ _ _ _ _ _ => rfl, fun _ _ _ _ _ _ => rfl⟩
  by_cases ca : 0 ≤ a ∧ a < m 150 3
  · obtain ⟨k, rfl⟩ := Int.eq_ofNat_of_zero_le ca.1
    have ck := c56 k
    simp only [if_inb (v := (k : Int)) (n := 8) (by omega) (by omega) (by omega), tn, w32_id (z := m 156 k) (by omega) (by omega)]
    by_cases cl : 0 < m 156 k
    · have cl2 : 0 ≤ (k : Int) ∧ (k : Int) < m 150 3 ∧ 0 < m 156 k := ⟨ca.1, ca.2, cl⟩
      simp only [if_pos ca, if_pos cl2, q1, qn1, if_true, if_false, if_pos cl]
      exact triv 0
    · have cl2 : ¬ (0 ≤ (k : Int) ∧ (k : Int) < m 150 3 ∧ 0 < m 156 k) := fun q => cl q.2.2
      simp only [if_pos ca, if_neg cl2, if_neg cl, q1, qn0, if_false]
      by_cases cb : 1 ≤ b ∧ b ≤ 40
      · obtain ⟨n, rfl⟩ := Int.eq_ofNat_of_zero_le (show 0 ≤ b by omega)
        by_cases cs : 2 * (n : Int) ≤ m 150 1
        · have cs2 : 0 ≤ (n : Int) ∧ (n : Int) * 2 ≤ m 150 1 := by omega
          simp only [if_pos cb, if_pos cs2, q1, qn1, if_true, if_false, w32_id (z := 2 * (n : Int)) (by omega) (by omega), if_pos cs]
          refine OK2_bind (OK2_mono (tell_b R T ca.2 (by omega) cs) (fun z w h => ?_))
          rcases h with ⟨y, rfl, hz, W⟩ | ⟨y, hx, rfl, hz, hz2, W⟩
          · obtain ⟨-, -, fx, fm, w1, wf⟩ := id W
            dsimp only
            rw [if_pos (Or.inl hz)]
            exact ⟨hz, RS_cg (fun c j h => setH_f (by unfold cXS at h; omega)) (fun _ _ _ => rfl) (TW_RS R W), TW_RT T W, RC_cg (fun c j h => setH_f (by unfold cXC at h; omega)) (Int.le_refl _) (fun _ _ _ _ _ => ⟨rfl, rfl⟩) (TW_RC S C cl W), fun c j h1 h2 h3 h4 => (setH_f h1).trans (fx c j h3 h4), fun c j h1 h2 h3 h4 => fm c j h1 h3 h4⟩
          · obtain ⟨-, -, fx, fm, w1, wf⟩ := id W
            dsimp only
            rw [if_pos (Or.inr hz), hz2]
            have R' := TW_RS R W
            have k3 : (k : Int) < y 150 3 := by rw [fm 150 3 (by decide) (by decide) (by decide)]; exact ca.2
            have k0 : ¬ 0 < y 156 k := by rw [fm 156 k (by omega) (by decide) (by decide)]; exact cl
            refine ⟨hz, RS_cg (fun c j h => setH_f (by unfold cXS at h; omega)) (fun _ _ _ => rfl) (RS_left R' k3 (by omega)), ?_, RC_cg (fun c j h => setH_f (by unfold cXC at h; omega)) (Int.le_refl _) (fun _ _ _ _ _ => ⟨rfl, rfl⟩) (RC_left (TW_RC S C cl W) k0), fun c j h1 h2 h3 h4 => (setH_f h1).trans ((setH_f (fun q => h2 q.1)).trans (fx c j h3 h4)), fun c j h1 h2 h3 h4 => (setH_f (fun q => h2 q.1)).trans (fm c j h1 h3 h4)⟩
            refine RT_cg ?_ ?_ ?_ ?_ ?_ ?_ (TW_RT T W) <;> (dsimp only; simp (disch := decide) only [setH_s, setH_o])
        · have cs2 : ¬ (0 ≤ (n : Int) ∧ (n : Int) * 2 ≤ m 150 1) := by omega
          simp only [if_pos cb, if_neg cs2, q1, qn0, if_true, if_false, w32_id (z := 2 * (n : Int)) (by omega) (by omega), if_neg cs]
          exact triv 0
      · simp only [if_neg cb, q0, if_true]
        exact triv 0
  · simp only [if_neg ca, q0, if_true]
    exact triv 0
