/-- what quoting leaves -/
def QF (x m x' m' : Hp) : Prop := (∀ c j : Nat, ¬ (c = 0 ∧ (j = 14 ∨ j = 15)) → c ≠ 3 → ¬ (12 ≤ c ∧ c ≤ 17) → ¬ (c = 66 ∧ j = 16) → ¬ (85 ≤ c ∧ c ≤ 149) → x' c j = x c j) ∧ (∀ c j : Nat, ¬ (c = 150 ∧ (j = 5 ∨ j = 6 ∨ (44 ≤ j ∧ j ≤ 57))) → ¬ (160 ≤ c ∧ c ≤ 164 ∧ m 150 5 ≤ (j : Int)) → ¬ (c = 165 ∧ 8 * m 150 5 ≤ (j : Int)) → c ≠ 180 → c ≠ 181 → m' c j = m c j) ∧ ((x' 66 16 = -1 ∧ m' 150 5 = m 150 5 + 1) ∨ (x' 66 16 = x 66 16 ∧ m' 150 5 = m 150 5 ∧ ∀ c j : Nat, 160 ≤ c → c ≤ 164 → m' c j = m c j))
def RLa (x : Hp) : Prop := ∀ U, U < 8 → RLw x (86 + 8 * U)
theorem RC_q {x m x' m' : Hp} (S : SB m) (C : RC x m) (hx : ∀ a j, cXC a → x' a j = x a j) (h0 : m 150 5 ≤ m' 150 5) (hm : ∀ c j : Nat, 152 ≤ c → c ≤ 165 → ¬ (160 ≤ c ∧ c ≤ 164 ∧ m 150 5 ≤ (j : Int)) → ¬ (c = 165 ∧ 8 * m 150 5 ≤ (j : Int)) → m' c j = m c j) : RC x' m' := by
  obtain ⟨-, -, -, -, ⟨c64, -⟩, -⟩ := id S
  refine RC_cg hx h0 (fun i k hi hl hk => ⟨hm 156 k (by omega) (by omega) (by omega) (by omega), neM_cg (hm 164 i (by omega) (by omega) (by omega) (by omega)) (fun p hp => hm 165 _ (by omega) (by omega) (by omega) (by have := c64 i; omega)) (hm 156 k (by omega) (by omega) (by omega) (by omega)) (fun p _ => hm 157 _ (by omega) (by omega) (by omega) (by omega))⟩) C
theorem quote_b {x m : Hp} (R : RS x m) (RTt : RT x m) (C : RC x m) (P : RP x m) (W : RLa x) {a b c d e : Int} (ha : I32 a) (hb : I32 b) (hc : I32 c) (hd : I32 d) (he : I32 e) : OK (X11_quote a b c d e x) (fun z => OK (X12_quote a b c d e m) (fun w => z.1 = w.1 ∧ I32 w.1 ∧ RS z.2 w.2 ∧ RT z.2 w.2 ∧ RC z.2 w.2 ∧ RP z.2 w.2 ∧ RLa z.2 ∧ QF x m z.2 w.2)) := by
  obtain ⟨⟨⟨e30, e33, e39, e311⟩, ⟨e4, e5, e6, e7, e8, e9, e10, e11⟩, -, -⟩, S⟩ := id R
  obtain ⟨⟨b2, b3, b4, b5⟩, cA, ⟨c56, c57, c58, c59⟩, cB, ⟨c64, c65⟩, -⟩ := id S
  obtain ⟨⟨t1, t2, t3⟩, t4, t5⟩ := id RTt
  obtain ⟨n, en⟩ := Int.eq_ofNat_of_zero_le b5.1
  have qrf : QF x m x m := ⟨fun _ _ _ _ _ _ _ => rfl, fun _ _ _ _ _ _ _ => rfl, Or.inr ⟨rfl, rfl, fun _ _ _ _ => rfl⟩⟩
  have triv : OK (some ((-1 : Int), x)) (fun z => OK (some ((-1 : Int), m)) (fun w => z.1 = w.1 ∧ I32 w.1 ∧ RS z.2 w.2 ∧ RT z.2 w.2 ∧ RC z.2 w.2 ∧ RP z.2 w.2 ∧ RLa z.2 ∧ QF x m z.2 w.2)) := by
    rw [OK_some, OK_some]
    dsimp only
    exact ⟨rfl, ⟨by decide, by decide⟩, R, RTt, C, P, W, qrf⟩
  have w40 : w32 40 = 40 := rfl
  have w11 : w32 11 = 11 := rfl
  have w12 : w32 12 = 12 := rfl
  by_cases p1 : 0 ≤ a ∧ a < m 150 4
  case neg =>
    have eX : X11_quote a b c d e x = some (-1, x) := by
      have ew : X11_wayOf a x = some none := by
        unfold X11_wayOf X11_wayOf_j15
        rw [x_isM (by omega) (by omega), e39]
        simp only [I32_w ha]
        rw [if_neg p1, Option.bind_some, if_pos (by decide)]
      unfold X11_quote
      rw [ew, Option.bind_some, if_pos (by rfl)]
    have eM : X12_quote a b c d e m = some (-1, m) := by
      unfold X12_quote
      by_cases k : w32 (m 150 5) = w32 40
      · rw [if_pos k]
      · rw [if_neg k, m_isM (by omega) (by omega), I32_w ha, if_neg p1, Option.bind_some, if_pos (by decide)]
    rw [eX, eM]
    exact triv
  obtain ⟨T, rfl⟩ := Int.eq_ofNat_of_zero_le p1.1
  have hT : T < 8 := by omega
  have hok : okO (some (86 + 8 * T)) = true := okO_some (by
    have : T = 0 ∨ T = 1 ∨ T = 2 ∨ T = 3 ∨ T = 4 ∨ T = 5 ∨ T = 6 ∨ T = 7 := by omega
    rcases this with q | q | q | q | q | q | q | q <;> subst q <;> decide)
  have wT := w32_id (z := (T : Int)) (by omega) (by omega)
  have wayE : X11_wayOf (T : Int) x = some (some (86 + 8 * T)) := by
    unfold X11_wayOf X11_wayOf_j15
    rw [x_isM (by omega) (by omega), e39]
    simp only [wT]
    rw [if_pos p1, Option.bind_some, if_neg (by decide), if_neg (by rw [show w32 8 = 8 from rfl]; omega), if_inb (by omega) (by omega) (by omega)]
    rfl
  by_cases p2 : 0 ≤ b ∧ b < m 150 3 ∧ 0 < m 156 b.toNat
  case neg =>
    have eX : X11_quote (T : Int) b c d e x = some (-1, x) := by
      unfold X11_quote
      rw [wayE, Option.bind_some, if_pos hok]
      dsimp only
      rw [x_left R hb, if_neg p2, Option.bind_some, if_pos (by decide)]
    have eM : X12_quote (T : Int) b c d e m = some (-1, m) := by
      unfold X12_quote
      by_cases k : w32 (m 150 5) = w32 40
      · rw [if_pos k]
      · rw [if_neg k, m_isM (by omega) (by omega), wT, if_pos p1, Option.bind_some, if_neg (by decide), m_left S hb, if_neg p2, Option.bind_some, if_pos (by decide)]
    rw [eX, eM]
    exact triv
  obtain ⟨wk, rfl⟩ := Int.eq_ofNat_of_zero_le p2.1
  have hwk : wk < 8 := by omega
  have b156 := c56 wk
  have p23 : 0 < m 156 wk := p2.2.2
  generalize hlf : m 156 wk = lf at b156 p23
  have x8 : ∀ g : Hp, g 8 = x 8 → X7_wordsLeft (wk : Int) g = some lf := fun g hg => by
    unfold X7_wordsLeft
    rw [at_e wk rfl hwk (by omega), Option.bind_some, hg, e8, hlf]
  have xin := fun (v l h : Int) (hv : I32 v) (hl : -2147483648 ≤ l ∧ l < 2147483648) (hh : -2147483648 ≤ h ∧ h < 2147483648) => within_in (a := v) (b := l) (c := h) hl.1 hh.2 hv.1 hv.2 hl.2 hh.1
  have wd := I32_w hd
  have wc := I32_w hc
  have we := I32_w he
  have wlf : w32 (lf - 1) = lf - 1 := w32_id (by omega) (by omega)
  have minl := fun (v l h : Int) (hv : I32 v) (hl : -2147483648 ≤ l ∧ l < 2147483648) (hh : -2147483648 ≤ h ∧ h < 2147483648) => lies_in (a := v) (b := l) (c := h) (by have := hv.1; omega) (by have := hv.2; omega) (by omega) (by omega) (by omega) (by omega)
  have XE : X11_quote (T : Int) (wk : Int) c d e x = (if 0 ≤ e ∧ e ≤ 9 then (if 0 ≤ c ∧ c ≤ lf - 1 then (if c ≤ d ∧ d ≤ lf - 1 then (if 12 ≤ d - c then some (-1, x) else if m 150 5 < 40 then (X10_let (86 + 8 * T) 108 ((d - c) + 1) x).bind fun r10 => (X7_writerYear (T : Int) r10).bind fun r11 => (X10_let (86 + 8 * T) 121 r11 r10).bind fun r12 => (X10_let (86 + 8 * T) 107 (wk : Int) r12).bind fun r13 => (X10_let (86 + 8 * T) 109 (T : Int) r13).bind fun r14 => (X11_quoteWords (86 + 8 * T) (wk : Int) c d r14).bind fun r15 => if w32 (r15.2 0 14) ≠ 0 then (X11_keepBit (T : Int) (wk : Int) r15.1 e r15.2).bind fun r16 => some (r16.1, r16.2) else some ((-2), r15.2) else some (-1, x)) else some (-1, x)) else some (-1, x)) else some (-1, x)) := by
    unfold X11_quote
    rw [wayE, Option.bind_some, if_pos hok]
    dsimp only
    rw [x_left R hb, if_pos p2, Option.bind_some, if_neg (by decide), xin e 0 9 he (by decide) (by decide), Option.bind_some]
    by_cases k3 : 0 ≤ e ∧ e ≤ 9
    · rw [if_pos k3, if_pos k3, if_neg (by decide), x8 x rfl, Option.bind_some, xin c 0 (lf - 1) hc (by decide) (by omega), Option.bind_some]
      by_cases k4 : 0 ≤ c ∧ c ≤ lf - 1
      · rw [if_pos k4, if_pos k4, if_neg (by decide), Option.bind_some, xin d c (lf - 1) hd hc (by omega), Option.bind_some]
        by_cases k5 : c ≤ d ∧ d ≤ lf - 1
        · rw [if_pos k5, if_pos k5, if_neg (by decide)]
          unfold X7_bits
          have wdc : w32 (d - c) = d - c := w32_id (by omega) (by omega)
          have wbt : w32 (m 150 5) = m 150 5 := w32_id (by omega) (by omega)
          simp only [wdc, w12, w40, e311, wbt, Option.bind_some]
        · rw [if_neg k5, if_neg k5, if_pos (by decide)]
      · rw [if_neg k4, if_neg k4, if_pos (by decide)]
    · rw [if_neg k3, if_neg k3, if_pos (by decide)]
  have ME : ∀ (y : Option (Int × Hp)), (0 ≤ e ∧ e ≤ 9 → 0 ≤ c ∧ c ≤ lf - 1 → c ≤ d ∧ d ≤ lf - 1 → ¬ 12 ≤ d - c → m 150 5 < 40 → False) → X12_quote (T : Int) (wk : Int) c d e m = some (-1, m) := by
    intro _ hno
    unfold X12_quote
    rw [w32_id (z := m 150 5) (by omega) (by omega), w40]
    by_cases k7 : m 150 5 = 40
    · rw [if_pos k7]
    · rw [if_neg k7, m_isM (by omega) (by omega), wT, if_pos p1, Option.bind_some, if_neg (by decide), m_left S hb, if_pos p2, Option.bind_some, if_neg (by decide), if_inb (by omega) (by omega) (by omega), wtn wk rfl (by omega), hlf, wc, wd, we, wlf, minl c 0 (lf - 1) hc (by decide) (by omega), Option.bind_some]
      by_cases k4 : 0 ≤ c ∧ c ≤ lf - 1
      · rw [if_pos k4, if_neg (by decide), if_inb (by omega) (by omega) (by omega), minl d c (lf - 1) hd hc (by omega), Option.bind_some]
        by_cases k5 : c ≤ d ∧ d ≤ lf - 1
        · rw [if_pos k5, if_neg (by decide), w32_id (z := d - c) (by omega) (by omega), w11]
          by_cases k6 : 11 < d - c
          · rw [if_pos k6]
          · rw [if_neg k6, minl e 0 9 he (by decide) (by decide), Option.bind_some]
            by_cases k3 : 0 ≤ e ∧ e ≤ 9
            · exact (hno k3 k4 k5 (by omega) (by omega)).elim
            · rw [if_neg k3, if_neg (by decide)]
        · rw [if_neg k5, if_pos (by decide)]
      · rw [if_neg k4, if_pos (by decide)]
  rw [XE]
  by_cases k3 : 0 ≤ e ∧ e ≤ 9
  case neg => rw [if_neg k3, ME none (fun h => absurd h k3)]; exact triv
  by_cases k4 : 0 ≤ c ∧ c ≤ lf - 1
  case neg => rw [if_pos k3, if_neg k4, ME none (fun _ h => absurd h k4)]; exact triv
  by_cases k5 : c ≤ d ∧ d ≤ lf - 1
  case neg => rw [if_pos k3, if_pos k4, if_neg k5, ME none (fun _ _ h => absurd h k5)]; exact triv
  by_cases k6 : 12 ≤ d - c
  case pos => rw [if_pos k3, if_pos k4, if_pos k5, if_pos k6, ME none (fun _ _ _ h => absurd k6 h)]; exact triv
  by_cases k7 : m 150 5 < 40
  case neg => rw [if_pos k3, if_pos k4, if_pos k5, if_neg k6, if_neg k7, ME none (fun _ _ _ _ h => absurd h k7)]; exact triv
  rw [if_pos k3, if_pos k4, if_pos k5, if_neg k6, if_pos k7]
  obtain ⟨f, rfl⟩ := Int.eq_ofNat_of_zero_le k4.1
  obtain ⟨d', rfl⟩ := Int.eq_ofNat_of_zero_le (show 0 ≤ d by omega)
  obtain ⟨len, hl1, rfl⟩ : ∃ len, 1 ≤ len ∧ d' = f + len - 1 := ⟨d' + 1 - f, by omega, by omega⟩
  have hl12 : len ≤ 12 := by omega
  have hfl : f + len ≤ 40 := by omega
  have b159 := c59 T
  have yr : ∀ g : Hp, g 11 = x 11 → X7_writerYear (T : Int) g = some (m 159 T) := fun g hg => by
    unfold X7_writerYear
    rw [at_e T rfl hT (by omega), Option.bind_some, hg, e11]
  rw [let_s 11 (by decide) (by decide), OK_bindE, OK_some, yr _ (setH_o (by omega)), OK_bindE, OK_some, let_s 24 (by decide) (by decide), OK_bindE, OK_some, let_s 10 (by decide) (by decide), OK_bindE, OK_some, let_s 12 (by decide) (by decide), OK_bindE, OK_some]
  unfold X11_quoteWords
  generalize hg : setH (setH (setH (setH (setH x (86 + 8 * T + 6) 11 (((f + len - 1 : Nat) : Int) - (f : Int) + 1)) (86 + 8 * T + 6) 24 (m 159 T)) (86 + 8 * T + 6) 10 (wk : Int)) (86 + 8 * T + 6) 12 (T : Int)) 0 14 0 = g
  have gf : ∀ c j, ¬ (c = 0 ∧ j = 14) → c ≠ 86 + 8 * T + 6 → g c j = x c j := fun c j h1 h2 => by
    rw [← hg, setH_f h1, setH_o h2, setH_o h2, setH_o h2, setH_o h2]
  have g6 : ∀ j, g (86 + 8 * T + 6) j = if j = 12 then (T : Int) else if j = 10 then (wk : Int) else if j = 24 then m 159 T else if j = 11 then ((f + len - 1 : Nat) : Int) - (f : Int) + 1 else x (86 + 8 * T + 6) j := fun j => by
    rw [← hg, setH_f (by omega)]
    simp only [setH_at]
    simp only [true_and]
  have q0 : QS x m g m (86 + 8 * T) T n wk f len 0 := by
    obtain ⟨⟨r1, r2, r3, r4, r5, r6⟩, r7⟩ := W T hT
    refine ⟨by omega, by rw [← hg, setH_s]; rfl, fun q hq => by omega, c65, ⟨by rw [gf 0 15 (by omega) (by omega)]; exact t4.1, t4.2⟩, ⟨?_, ?_, ?_, ?_⟩, ⟨⟨?_, ?_, ?_, ?_, ?_, ?_⟩, fun j => ?_⟩, fun c j h1 _ _ h4 _ => gf c j (by omega) h4, fun _ _ _ _ _ _ => rfl⟩
    · rw [g6, if_neg (by decide), if_neg (by decide), if_neg (by decide), if_pos rfl]
      omega
    · rw [g6]; rfl
    · rw [g6]; rfl
    · rw [g6]; rfl
    · rw [g6]; exact r1
    · rw [g6]; exact r2
    · rw [g6]; exact r3
    · rw [g6]; exact r4
    · rw [g6]; exact r5
    · rw [g6]; exact r6
    · rw [g6]
      have := r7 j
      repeat' split
      all_goals omega
  have XT : TX x m (86 + 8 * T) T := by
    have := P.1 T (by omega)
    unfold tOf at this
    rw [if_pos hT] at this
    exact this
  obtain ⟨z, ez, hz⟩ := OK_ex (words_b (v5 := e) R hT rfl XT P.2 en (by omega) hwk ⟨hl1, hl12⟩ hfl q0)
  obtain ⟨w, ew, hx, hm, cnt, bk, v7, rfl, rfl, Q, hv7, hbk⟩ := OK_ex hz
  have MX : X12_quote (T : Int) (wk : Int) (f : Int) ((f + len - 1 : Nat) : Int) e m = (if w32 (cnt : Int) ≠ 0 then (X12_comes (T : Int) (wk : Int) bk e (cnt : Int) hm).bind (fun r21 => some ((r21 150 5) - 1, r21)) else some ((-2), hm)) := by
    unfold X12_quote
    rw [w32_id (z := m 150 5) (by omega) (by omega), w40, if_neg (by omega), m_isM (by omega) (by omega), wT, if_pos p1, Option.bind_some, if_neg (by decide), m_left S hb, if_pos p2, Option.bind_some, if_neg (by decide), if_inb (by omega) (by omega) (by omega), wtn wk rfl (by omega), hlf, wc, wd, we, wlf, minl _ 0 (lf - 1) hc (by decide) (by omega), Option.bind_some, if_pos k4, if_neg (by decide), if_inb (by omega) (by omega) (by omega), minl _ _ (lf - 1) hd hc (by omega), Option.bind_some, if_pos k5, if_neg (by decide), w32_id (z := ((f + len - 1 : Nat) : Int) - (f : Int)) (by omega) (by omega), w11, if_neg (by omega), minl e 0 9 he (by decide) (by decide), Option.bind_some, if_pos k3, if_pos (by decide), ew, Option.bind_some]
    dsimp only
    by_cases kc : w32 (cnt : Int) ≠ 0
    · rw [if_pos kc, if_pos kc]
      have b158 := c58 (40 * wk + f)
      have hm158 : hm 158 (40 * wk + f) = m 158 (40 * wk + f) := Q.2.2.2.2.2.2.2.2 158 _ (by omega) (by omega) (by decide) (by decide)
      have e320 : (40 * (wk : Int) + (f : Int)) = ((40 * wk + f : Nat) : Int) := by omega
      have wB := w32_id (z := m 158 (40 * wk + f) + v7) (by omega) (by omega)
      rw [e320, if_inb (by omega) (by omega) (by omega), wtn (40 * wk + f) rfl (by omega)]
      simp only [hm158, wB, w40, show w32 1 = 1 from rfl]
      unfold X12_quote_j186
      by_cases q1 : 1 ≤ m 158 (40 * wk + f) + v7
      · rw [if_pos q1]
        by_cases q2 : m 158 (40 * wk + f) + v7 ≤ 40
        · rw [if_pos q2, show m 158 (40 * wk + f) + v7 = bk by omega]
        · rw [if_neg q2, show (40 : Int) = bk by omega]
      · rw [if_neg q1, show (1 : Int) = bk by omega]
    · rw [if_neg kc, if_neg kc]
  obtain ⟨s1, s2, s3, s4, s5, s6, s7, s8, s9⟩ := id Q
  rw [ez, Option.bind_some, OK_bindE, OK_some, MX]
  dsimp only
  simp only [s2]
  have hm5 : hm 150 5 = (n : Int) := by
    rw [s9 150 5 (by omega) (by omega) (by decide) (by decide)]
    exact en
  have R' : RS hx hm := RS_b (fun c j h => s8 c j (by unfold cXS at h; omega) (by unfold cXS at h; omega) (by unfold cXS at h; omega) (by unfold cXS at h; omega) (by unfold cXS at h; omega)) (fun c j h h2 => s9 c j (by unfold cMS at h; omega) (by omega) (by unfold cMS at h; omega) (by unfold cMS at h; omega)) (fun j hj => s9 165 j (by omega) (by omega) (by decide) (by decide)) s4 R
  have post : ∀ (zx wm : Hp) (v : Int), I32 v → RS zx wm → (∀ c j, c ≠ 3 → ¬ (12 ≤ c ∧ c ≤ 17) → ¬ (c = 66 ∧ j = 16) → zx c j = hx c j) → (∀ c j, ¬ (c = 150 ∧ j = 5) → ¬ (160 ≤ c ∧ c ≤ 164 ∧ j = n) → wm c j = hm c j) → ((zx 66 16 = -1 ∧ wm 150 5 = m 150 5 + 1) ∨ (zx 66 16 = x 66 16 ∧ wm 150 5 = m 150 5 ∧ ∀ c j : Nat, 160 ≤ c → c ≤ 164 → wm c j = m c j)) → ((v, zx).1 = (v, wm).1 ∧ I32 (v, wm).1 ∧ RS (v, zx).2 (v, wm).2 ∧ RT (v, zx).2 (v, wm).2 ∧ RC (v, zx).2 (v, wm).2 ∧ RP (v, zx).2 (v, wm).2 ∧ RLa (v, zx).2 ∧ QF x m (v, zx).2 (v, wm).2) := by
    intro zx wm v hv RR fz fw h66
    have fX : ∀ c j, ¬ (c = 0 ∧ (j = 14 ∨ j = 15)) → c ≠ 3 → ¬ (12 ≤ c ∧ c ≤ 17) → ¬ (c = 66 ∧ j = 16) → c ≠ 85 → ¬ (c = 86 + 8 * T ∧ (j = 9 ∨ j = 10)) → c ≠ 86 + 8 * T + 6 → c ≠ 86 + 8 * T + 7 → zx c j = x c j := fun c j h1 h2 h3 h4 h5 h6 h7 h8 => (fz c j h2 h3 h4).trans (s8 c j h1 h5 h6 h7 h8)
    have fM : ∀ c j, ¬ (c = 150 ∧ (j = 5 ∨ j = 6 ∨ (44 ≤ j ∧ j ≤ 57))) → ¬ (160 ≤ c ∧ c ≤ 164 ∧ n ≤ j) → ¬ (c = 165 ∧ 8 * n ≤ j) → c ≠ 180 → c ≠ 181 → wm c j = m c j := fun c j h1 h2 h3 h4 h5 => (fw c j (by omega) (by omega)).trans (s9 c j (by omega) h3 h4 h5)
    refine ⟨rfl, hv, RR, ⟨⟨?_, ?_, ?_⟩, ⟨?_, ?_, ?_⟩, fun i => ?_⟩, RC_q S C (fun c j h => fX c j (by unfold cXC at h; omega) (by unfold cXC at h; omega) (by unfold cXC at h; omega) (by unfold cXC at h; omega) (by unfold cXC at h; omega) (by unfold cXC at h; omega) (by unfold cXC at h; omega) (by unfold cXC at h; omega)) ?_ (fun c j h1 h2 h3 h4 => fM c j (by omega) (by omega) (by omega) (by omega) (by omega)), RP_cg (fun U hU => ?_) (fun c h1 h2 => funext fun j => fM c j (by omega) (by omega) (by omega) (by omega) (by omega)) P, fun U hU => ?_, fun c j h1 h2 h3 h4 h5 => fX c j h1 h2 h3 h4 (by omega) (by omega) (by omega) (by omega), fun c j h1 h2 h3 h4 h5 => fM c j h1 (by omega) (by omega) h4 h5, h66⟩
    · show zx 1 1 = wm 150 1
      rw [fX 1 1 (by omega) (by omega) (by omega) (by omega) (by omega) (by omega) (by omega) (by omega), fM 150 1 (by omega) (by omega) (by omega) (by decide) (by decide)]
      exact t1
    · show 0 ≤ wm 150 1
      rw [fM 150 1 (by omega) (by omega) (by omega) (by decide) (by decide)]
      exact t2
    · show wm 150 1 ≤ 200
      rw [fM 150 1 (by omega) (by omega) (by omega) (by decide) (by decide)]
      exact t3
    · show zx 0 15 = wm 150 6
      rw [fz 0 15 (by omega) (by omega) (by omega), fw 150 6 (by omega) (by omega)]
      exact s5.1
    · show 0 ≤ wm 150 6
      rw [fw 150 6 (by omega) (by omega)]
      exact s5.2.1
    · show wm 150 6 ≤ 65535
      rw [fw 150 6 (by omega) (by omega)]
      exact s5.2.2
    · show zx 2 i = wm 151 i % 256 ∧ -128 ≤ wm 151 i ∧ wm 151 i ≤ 127
      rw [fX 2 i (by omega) (by omega) (by omega) (by omega) (by omega) (by omega) (by omega) (by omega), fM 151 i (by omega) (by omega) (by omega) (by decide) (by decide)]
      exact t5 i
    · show m 150 5 ≤ wm 150 5
      rcases h66 with h | h
      · rw [h.2]; omega
      · rw [h.2.1]; exact Int.le_refl _
    · show zx (tOf U) 0 = x (tOf U) 0 ∧ ∀ i, 1 ≤ i → i ≤ 5 → zx (tOf U + i) = x (tOf U + i)
      have key : ∀ i j, i ≤ 5 → (i = 0 → j = 0) → zx (tOf U + i) j = x (tOf U + i) j := fun i j hi hj => by
        unfold tOf
        split
        · exact fX _ _ (by omega) (by omega) (by omega) (by omega) (by omega) (by omega) (by omega) (by omega)
        · exact fX _ _ (by omega) (by omega) (by omega) (by omega) (by omega) (by omega) (by omega) (by omega)
      exact ⟨key 0 0 (by omega) (fun _ => rfl), fun i h1 h2 => funext fun j => key i j h2 (fun q => by omega)⟩
    · show RLw zx (86 + 8 * U)
      have e6 : ∀ j, zx (86 + 8 * U + 6) j = hx (86 + 8 * U + 6) j := fun j => fz _ _ (by omega) (by omega) (by omega)
      by_cases eU : U = T
      · subst eU
        unfold RLw
        simp only [e6]
        exact s7
      · have e7 : ∀ j, zx (86 + 8 * U + 6) j = x (86 + 8 * U + 6) j := fun j => fX _ _ (by omega) (by omega) (by omega) (by omega) (by omega) (by omega) (by omega) (by omega)
        have := W U hU
        unfold RLw at this ⊢
        simp only [e7]
        exact this
  by_cases kc : w32 (cnt : Int) ≠ 0
  · have hc1 : 1 ≤ cnt := by
      by_cases q : cnt = 0
      · rw [q] at kc
        exact absurd rfl kc
      · omega
    rw [if_pos kc, if_pos kc]
    refine OK2_bind (OK2_mono (keep_b R' (n := n) (s := cnt) hm5 (by omega) ⟨hc1, s1⟩ s2 (wr := (T : Int)) (wk := (wk : Int)) (bk := bk) (sj := e) (by rw [s9 150 4 (by omega) (by omega) (by decide) (by decide)]; omega) (by rw [s9 150 3 (by omega) (by omega) (by decide) (by decide)]; omega) (by omega) k3 s3) (fun u v q => ?_))
    obtain ⟨q1, q2, q3, q4, q5, q6⟩ := q
    rw [OK_some, OK_some, q1, show v 150 5 - 1 = (n : Int) by omega]
    exact post u.2 v (n : Int) ⟨by omega, by omega⟩ q3 q5 (fun c j h1 h2 => q6 c j h1 h2) (Or.inl ⟨q4, by omega⟩)
  · rw [if_neg kc, if_neg kc, OK_some, OK_some]
    exact post hx hm (-2) ⟨by decide, by decide⟩ R' (fun _ _ _ _ _ => rfl) (fun _ _ _ _ => rfl) (Or.inr ⟨s8 66 16 (by omega) (by omega) (by omega) (by omega) (by omega), by rw [hm5, en], fun c j h1 h2 => s9 c j (by omega) (by omega) (by omega) (by omega)⟩)
