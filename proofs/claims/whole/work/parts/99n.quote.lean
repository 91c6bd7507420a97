theorem lv_all (m : Hp) : lvM m (97 + ((1 : Nat) : Int)) = m 150 44 ∧ lvM m (97 + ((2 : Nat) : Int)) = m 150 45 ∧ lvM m (97 + ((8 : Nat) : Int)) = m 150 46 ∧ lvM m (97 + ((10 : Nat) : Int)) = m 150 47 ∧ lvM m (97 + ((11 : Nat) : Int)) = m 150 48 ∧ lvM m (97 + ((12 : Nat) : Int)) = m 150 49 ∧ lvM m (97 + ((13 : Nat) : Int)) = m 150 50 ∧ lvM m (97 + ((15 : Nat) : Int)) = m 150 51 ∧ lvM m (97 + ((18 : Nat) : Int)) = m 150 52 ∧ lvM m (97 + ((19 : Nat) : Int)) = m 150 53 ∧ lvM m (97 + ((22 : Nat) : Int)) = m 150 54 ∧ lvM m (97 + ((23 : Nat) : Int)) = m 150 55 ∧ lvM m (97 + ((24 : Nat) : Int)) = m 150 56 ∧ lvM m (97 + ((25 : Nat) : Int)) = m 150 57 := ⟨rfl, rfl, rfl, rfl, rfl, rfl, rfl, rfl, rfl, rfl, rfl, rfl, rfl, rfl⟩
theorem lv_b {m : Hp} (h : ∀ j, 44 ≤ j → j ≤ 57 → -2147483648 ≤ m 150 j ∧ m 150 j < 2147483648) (c : Int) : -2147483648 ≤ lvM m c ∧ lvM m c < 2147483648 := by
  unfold lvM
  by_cases k98 : c = 98
  · simp only [if_pos k98]
    exact h 44 (by decide) (by decide)
  simp only [if_neg k98]
  by_cases k99 : c = 99
  · simp only [if_pos k99]
    exact h 45 (by decide) (by decide)
  simp only [if_neg k99]
  by_cases k105 : c = 105
  · simp only [if_pos k105]
    exact h 46 (by decide) (by decide)
  simp only [if_neg k105]
  by_cases k107 : c = 107
  · simp only [if_pos k107]
    exact h 47 (by decide) (by decide)
  simp only [if_neg k107]
  by_cases k108 : c = 108
  · simp only [if_pos k108]
    exact h 48 (by decide) (by decide)
  simp only [if_neg k108]
  by_cases k109 : c = 109
  · simp only [if_pos k109]
    exact h 49 (by decide) (by decide)
  simp only [if_neg k109]
  by_cases k110 : c = 110
  · simp only [if_pos k110]
    exact h 50 (by decide) (by decide)
  simp only [if_neg k110]
  by_cases k112 : c = 112
  · simp only [if_pos k112]
    exact h 51 (by decide) (by decide)
  simp only [if_neg k112]
  by_cases k115 : c = 115
  · simp only [if_pos k115]
    exact h 52 (by decide) (by decide)
  simp only [if_neg k115]
  by_cases k116 : c = 116
  · simp only [if_pos k116]
    exact h 53 (by decide) (by decide)
  simp only [if_neg k116]
  by_cases k119 : c = 119
  · simp only [if_pos k119]
    exact h 54 (by decide) (by decide)
  simp only [if_neg k119]
  by_cases k120 : c = 120
  · simp only [if_pos k120]
    exact h 55 (by decide) (by decide)
  simp only [if_neg k120]
  by_cases k121 : c = 121
  · simp only [if_pos k121]
    exact h 56 (by decide) (by decide)
  simp only [if_neg k121]
  exact h 57 (by decide) (by decide)
/-- the letters that a way's text does not know -/
def RLw (x : Hp) (t : Nat) : Prop := (x (t + 6) 2 = 0 ∧ x (t + 6) 13 = 0 ∧ x (t + 6) 15 = 0 ∧ x (t + 6) 18 = 0 ∧ x (t + 6) 19 = 0 ∧ x (t + 6) 25 = 0) ∧ ∀ j, -2147483648 ≤ x (t + 6) j ∧ x (t + 6) j < 2147483648
theorem let_s {t : Nat} {h : Hp} {c v : Int} (j : Nat) (e : c - 97 = (j : Int)) (hj : j < 26) : X10_let t c v h = some (setH h (t + 6) j v) := by
  unfold X10_let
  rw [put_e j e hj (by omega)]
  rfl
theorem stands_s {m : Hp} {T wk i : Nat} {d l : Int} (hT : T < 8) (hwk : wk < 8) (hi : i < 40) : OK (X12_stands (T : Int) (wk : Int) (i : Int) d l m) (fun h => (∀ c j, ¬ (c = 150 ∧ 44 ≤ j ∧ j ≤ 57) → h c j = m c j) ∧ (h 150 44 = m 158 (40 * wk + i) ∧ h 150 45 = 0 ∧ h 150 46 = d ∧ h 150 47 = (wk : Int) ∧ h 150 48 = l ∧ h 150 49 = (T : Int) ∧ h 150 50 = 0) ∧ h 150 51 = 0 ∧ h 150 52 = 0 ∧ h 150 53 = 0 ∧ h 150 54 = m 157 (40 * wk + i) ∧ h 150 55 = rem32 (m 150 6) 1000 ∧ h 150 56 = m 159 T ∧ h 150 57 = 0) := by
  unfold X12_stands X12_clears
  rw [OK_bindE, OK_some]
  have e320 : (40 * (wk : Int) + (i : Int)) = ((40 * wk + i : Nat) : Int) := by omega
  rw [e320, wtn (40 * wk + i) rfl (by omega), wtn T rfl (by omega)]
  refine OK_gi (by omega) (by omega) (by omega) (OK_gi (by omega) (by omega) (by omega) (OK_gd (by decide) (OK_gi (by omega) (by omega) (by omega) ?_)))
  rw [OK_some]
  refine ⟨fun c j h => ?_, ⟨?_, ?_, ?_, ?_, ?_, ?_, ?_⟩, ?_, ?_, ?_, ?_, ?_, ?_, ?_⟩
  · by_cases e : c = 150
    · subst e
      rw [setH_n (by omega), setH_n (by omega), setH_n (by omega), setH_n (by omega), setH_n (by omega), setH_n (by omega), setH_n (by omega), setH_n (by omega), setH_n (by omega), setH_n (by omega), setH_n (by omega), setH_n (by omega), setH_n (by omega), setH_n (by omega), setH_n (by omega), setH_n (by omega), setH_n (by omega), setH_n (by omega), setH_n (by omega), setH_n (by omega), setH_n (by omega), setH_n (by omega)]
    · rw [setH_o e, setH_o e, setH_o e, setH_o e, setH_o e, setH_o e, setH_o e, setH_o e, setH_o e, setH_o e, setH_o e, setH_o e, setH_o e, setH_o e, setH_o e, setH_o e, setH_o e, setH_o e, setH_o e, setH_o e, setH_o e, setH_o e]
  all_goals simp (disch := decide) only [setH_o, setH_s, setH_n]
/-- how the two sides stand while the words go over -/
def QS (x m hx hm : Hp) (t T n wk f len cnt : Nat) : Prop := cnt ≤ 8 ∧ hx 0 14 = (cnt : Int) ∧ (∀ q, q < cnt → hx 85 q = hm 165 (8 * n + q)) ∧ (∀ j, 0 ≤ hm 165 j ∧ hm 165 j ≤ 63) ∧ (hx 0 15 = hm 150 6 ∧ 0 ≤ hm 150 6 ∧ hm 150 6 ≤ 65535) ∧ (hx (t + 6) 11 = (len : Int) ∧ hx (t + 6) 24 = m 159 T ∧ hx (t + 6) 10 = (wk : Int) ∧ hx (t + 6) 12 = (T : Int)) ∧ RLw hx t ∧ (∀ c j, ¬ (c = 0 ∧ (j = 14 ∨ j = 15)) → c ≠ 85 → ¬ (c = t ∧ (j = 9 ∨ j = 10)) → c ≠ t + 6 → c ≠ t + 7 → hx c j = x c j) ∧ ∀ c j, ¬ (c = 150 ∧ (j = 6 ∨ (44 ≤ j ∧ j ≤ 57))) → ¬ (c = 165 ∧ 8 * n ≤ j) → c ≠ 180 → c ≠ 181 → hm c j = m c j
theorem words_b {x m hx0 : Hp} {t T n wk f len : Nat} {v5 : Int} (R : RS x m) (hT : T < 8) (ht : t = 86 + 8 * T) (X : TX x m t T) (K : CKm m) (hn : m 150 5 = (n : Int)) (hn2 : n < 40) (hwk : wk < 8) (hl : 1 ≤ len ∧ len ≤ 12) (hfl : f + len ≤ 40) (q0 : QS x m hx0 m t T n wk f len 0) : OK (iter (X11_quoteWords_l7 t (wk : Int) (f : Int) ((f + len - 1 : Nat) : Int)) FU (0, (f : Int), hx0)) (fun z => OK (iter (X12_quote_l56 (T : Int) (wk : Int) (f : Int) ((f + len - 1 : Nat) : Int) v5) FU (0, 0, (f : Int), m)) (fun w => ∃ (hx hm : Hp) (cnt : Nat) (bk v7 : Int), z = (bk, hx) ∧ w = ((cnt : Int), v7, hm) ∧ QS x m hx hm t T n wk f len cnt ∧ (-9 ≤ v7 ∧ v7 ≤ 9) ∧ bk = min 40 (max 1 (m 158 (40 * wk + f) + v7)))) := by
  obtain ⟨⟨⟨e30, e33, e39, e311⟩, ⟨e4, e5, e6, e7, e8, e9, e10, e11⟩, -, -⟩, ⟨b2, b3, b4, b5⟩, cA, ⟨c56, c57, c58, c59⟩, ⟨c60, c61, c62, c63⟩, ⟨c64, c65⟩, ⟨d1, d2, d3⟩⟩ := id R
  have wl := w32_id (z := ((f + len - 1 : Nat) : Int)) (by omega) (by omega)
  refine iter_2 (fun p s q => p ≤ len ∧ ∃ (hx hm : Hp) (cnt : Nat) (bk v7 : Int), s = (bk, ((f + p : Nat) : Int), hx) ∧ q = ((cnt : Int), v7, ((f + p : Nat) : Int), hm) ∧ QS x m hx hm t T n wk f len cnt ∧ (-9 ≤ v7 ∧ v7 ≤ 9) ∧ (1 ≤ p → bk = min 40 (max 1 (m 158 (40 * wk + f) + v7)))) _ len (by omega) (fun p s q hp hI => ?_) ⟨by omega, hx0, m, 0, 0, 0, rfl, rfl, q0, by decide, fun h => by omega⟩
  obtain ⟨-, hx, hm, cnt, bk, v7, rfl, rfl, S, hv7, hbk⟩ := hI
  obtain ⟨s1, s2, s3, s4, s5, s6, s7, s8, s9⟩ := id S
  unfold X11_quoteWords_l7 X12_quote_l56
  (try dsimp only)
  have wp := w32_id (z := ((f + p : Nat) : Int)) (by omega) (by omega)
  have wf := w32_id (z := (f : Int)) (by omega) (by omega)
  by_cases c : p = len
  · have hlt : w32 ((f + len - 1 : Nat) : Int) < w32 ((f + p : Nat) : Int) := by
      rw [wl, wp]
      omega
    refine OK_gd hlt ?_
    rw [OK_some, if_pos hlt, OK_some]
    exact ⟨hx, hm, cnt, bk, v7, rfl, rfl, S, hv7, hbk (by omega)⟩
  · have hlt : ¬ w32 ((f + len - 1 : Nat) : Int) < w32 ((f + p : Nat) : Int) := by
      rw [wl, wp]
      omega
    refine OK_gn hlt ?_
    rw [if_neg hlt, if_pos (show w32 65536 ≠ 0 by decide)]
    have i40 : f + p < 40 := by omega
    have x9 : hx 9 (40 * wk + (f + p)) = m 157 (40 * wk + (f + p)) := by
      rw [s8 9 _ (by omega) (by omega) (by omega) (by omega) (by omega), e9]
    have x10 : ∀ j, hx 10 j = m 158 j := fun j => by
      rw [s8 10 _ (by omega) (by omega) (by omega) (by omega) (by omega), e10]
    have ew : X7_workWord (wk : Int) ((f + p : Nat) : Int) hx = some (m 157 (40 * wk + (f + p))) := by
      unfold X7_workWord
      rw [at_e (40 * wk + (f + p)) (by omega) (by omega) (by omega), Option.bind_some, x9]
    have eb : ∀ (g : Hp) (i : Nat), i < 40 → (∀ j, g 10 j = hx 10 j) → X7_workBook (wk : Int) (i : Int) g = some (m 158 (40 * wk + i)) := fun g i hi hg => by
      unfold X7_workBook
      rw [at_e (40 * wk + i) (by omega) (by omega) (by omega), Option.bind_some, hg, x10]
    have eL : rem32 (25173 * hm 150 6 + 13849) 65536 = (25173 * hm 150 6 + 13849) % 65536 := rem32_nn (by omega) (by omega) (by decide) (by decide)
    have eL2 : and32 (25173 * hx 0 15 + 13849) 65535 = (25173 * hm 150 6 + 13849) % 65536 := by rw [and65535, s5.1]
    generalize hL : (25173 * hm 150 6 + 13849) % 65536 = L at eL eL2
    have bL : 0 ≤ L ∧ L ≤ 65535 := by omega
    have er : rem32 L 1000 = L % 1000 := rem32_nn (by omega) (by omega) (by decide) (by decide)
    rw [ew, OK_bindE, OK_some, eL2, eL]
    refine OK_gd (by decide) ?_
    have b158 := c58 (40 * wk + (f + p))
    have b157 := c57 (40 * wk + (f + p))
    have b159 := c59 T
    rw [let_s 22 (by decide) (by decide), OK_bindE, OK_some, let_s 8 (by decide) (by decide), OK_bindE, OK_some, eb _ (f + p) i40 (fun j => by rw [setH_o (by omega), setH_o (by omega), setH_o (by decide)]), OK_bindE, OK_some, let_s 1 (by decide) (by decide), OK_bindE, OK_some, let_s 23 (by decide) (by decide), OK_bindE, OK_some, er]
    generalize hg : setH (setH (setH (setH (setH hx 0 15 L) (t + 6) 22 (m 157 (40 * wk + (f + p)))) (t + 6) 8 (((f + p : Nat) : Int) - (f : Int))) (t + 6) 1 (m 158 (40 * wk + (f + p)))) (t + 6) 23 (L % 1000) = g
    have gf : ∀ c j, ¬ (c = 0 ∧ j = 15) → ¬ (c = t + 6) → g c j = hx c j := fun c j h1 h2 => by
      rw [← hg, setH_o h2, setH_o h2, setH_o h2, setH_o h2, setH_f h1]
    have g6 : ∀ j, g (t + 6) j = if j = 23 then L % 1000 else if j = 1 then m 158 (40 * wk + (f + p)) else if j = 8 then ((f + p : Nat) : Int) - (f : Int) else if j = 22 then m 157 (40 * wk + (f + p)) else hx (t + 6) j := fun j => by
      rw [← hg]
      simp only [setH_at]
      simp only [true_and]
      split
      · rfl
      · split
        · rfl
        · split
          · rfl
          · split
            · rfl
            · rw [if_neg (by omega)]
    obtain ⟨u, eu, u1, ⟨u44, u45, u46, u47, u48, u49, u50⟩, u51, u52, u53, u54, u55, u56, u57⟩ := OK_ex (stands_s (m := setH hm 150 6 L) (T := T) (wk := wk) (i := f + p) (d := ((f + p : Nat) : Int) - (f : Int)) (l := ((f + len - 1 : Nat) : Int) - (f : Int) + 1) hT hwk i40)
    rw [eu]
    have um : ∀ c j, ¬ (c = 150 ∧ (j = 6 ∨ (44 ≤ j ∧ j ≤ 57))) → u c j = hm c j := fun c j h => by
      rw [u1 c j (by omega), setH_f (by omega)]
    have u6 : u 150 6 = L := by rw [u1 150 6 (by omega), setH_s]
    rw [setH_s, er] at u55
    rw [setH_o (by decide)] at u44 u54 u56
    have m157 : hm 157 (40 * wk + (f + p)) = m 157 (40 * wk + (f + p)) := s9 157 _ (by omega) (by omega) (by decide) (by decide)
    have m158 : hm 158 (40 * wk + (f + p)) = m 158 (40 * wk + (f + p)) := s9 158 _ (by omega) (by omega) (by decide) (by decide)
    have m159 : hm 159 T = m 159 T := s9 159 _ (by omega) (by omega) (by decide) (by decide)
    rw [m158] at u44
    rw [m157] at u54
    rw [m159] at u56
    have gR : RLw g t := by
      obtain ⟨⟨r1, r2, r3, r4, r5, r6⟩, r7⟩ := s7
      refine ⟨⟨?_, ?_, ?_, ?_, ?_, ?_⟩, fun j => ?_⟩
      · rw [g6]; exact r1
      · rw [g6]; exact r2
      · rw [g6]; exact r3
      · rw [g6]; exact r4
      · rw [g6]; exact r5
      · rw [g6]; exact r6
      · rw [g6]
        have := r7 j
        repeat' split
        all_goals omega
    have gl : g (t + 6) 11 = (len : Int) ∧ g (t + 6) 24 = m 159 T ∧ g (t + 6) 10 = (wk : Int) ∧ g (t + 6) 12 = (T : Int) := by
      refine ⟨?_, ?_, ?_, ?_⟩
      · rw [g6]; exact s6.1
      · rw [g6]; exact s6.2.1
      · rw [g6]; exact s6.2.2.1
      · rw [g6]; exact s6.2.2.2
    have LL : LT g u t := by
      obtain ⟨l1, l2, l8, l10, l11, l12, l13, l15, l18, l19, l22, l23, l24, l25⟩ := lv_all u
      obtain ⟨⟨r1, r2, r3, r4, r5, r6⟩, r7⟩ := gR
      refine ⟨fun j hj => ?_, r7, fun c => lv_b (fun j h1 h2 => ?_) c⟩
      · unfold isLt at hj
        rcases hj with e | e | e | e | e | e | e | e | e | e | e | e | e | e <;> subst e
        · rw [l1, u44, g6]; rfl
        · rw [l2, u45]; exact r1
        · rw [l8, u46, g6]; rfl
        · rw [l10, u47]; exact gl.2.2.1
        · rw [l11, u48, gl.1]; omega
        · rw [l12, u49]; exact gl.2.2.2
        · rw [l13, u50]; exact r2
        · rw [l15, u51]; exact r3
        · rw [l18, u52]; exact r4
        · rw [l19, u53]; exact r5
        · rw [l22, u54, g6]; rfl
        · rw [l23, u55, g6]; rfl
        · rw [l24, u56]; exact gl.2.1
        · rw [l25, u57]; exact r6
      · have : j = 44 ∨ j = 45 ∨ j = 46 ∨ j = 47 ∨ j = 48 ∨ j = 49 ∨ j = 50 ∨ j = 51 ∨ j = 52 ∨ j = 53 ∨ j = 54 ∨ j = 55 ∨ j = 56 ∨ j = 57 := by omega
        rcases this with e | e | e | e | e | e | e | e | e | e | e | e | e | e <;> subst e <;> omega
    have Xg : TX g u t T := by
      refine TX_cg (x := x) (m := m) ?_ (fun i h1 h2 => funext fun j => ?_) (fun c h1 h2 => funext fun j => ?_) X
      · rw [gf t 0 (by omega) (by omega), s8 t 0 (by omega) (by omega) (by omega) (by omega) (by omega)]
      · rw [gf (t + i) j (by omega) (by omega), s8 (t + i) j (by omega) (by omega) (by omega) (by omega) (by omega)]
      · rw [um c j (by omega), s9 c j (by omega) (by omega) (by omega) (by omega)]
    have Kg : CKm u := by
      unfold CKm at K ⊢
      rw [show u 171 = m 171 from funext fun j => by rw [um 171 j (by omega), s9 171 j (by omega) (by omega) (by decide) (by decide)], show u 172 = m 172 from funext fun j => by rw [um 172 j (by omega), s9 172 j (by omega) (by omega) (by decide) (by decide)]]
      exact K
    -- the words, from heaps g' and u' that differ from g and u by scratch alone
    have fin : ∀ (g' u' : Hp) (bk' v7' : Int), XF g g' t → MF u u' → (-9 ≤ v7' ∧ v7' ≤ 9) → bk' = min 40 (max 1 (m 158 (40 * wk + f) + v7')) → OK (X11_quoteWords_j74 t (wk : Int) (f : Int) ((f + len - 1 : Nat) : Int) bk' ((f + p : Nat) : Int) (m 157 (40 * wk + (f + p))) (L % 1000) g') (fun a => OK (X12_quote_j92 (T : Int) (wk : Int) (f : Int) ((f + len - 1 : Nat) : Int) v5 (cnt : Int) v7' ((f + p : Nat) : Int) u') (fun b => LQ2 (fun s' t' => p < len ∧ p + 1 ≤ len ∧ ∃ (hx hm : Hp) (cnt : Nat) (bk v7 : Int), s' = (bk, ((f + (p + 1) : Nat) : Int), hx) ∧ t' = ((cnt : Int), v7, ((f + (p + 1) : Nat) : Int), hm) ∧ QS x m hx hm t T n wk f len cnt ∧ (-9 ≤ v7 ∧ v7 ≤ 9) ∧ (1 ≤ p + 1 → bk = min 40 (max 1 (m 158 (40 * wk + f) + v7)))) (fun z w => ∃ (hx hm : Hp) (cnt : Nat) (bk v7 : Int), z = (bk, hx) ∧ w = ((cnt : Int), v7, hm) ∧ QS x m hx hm t T n wk f len cnt ∧ (-9 ≤ v7 ∧ v7 ≤ 9) ∧ bk = min 40 (max 1 (m 158 (40 * wk + f) + v7))) a b)) := by
      intro g' u' bk' v7' fg fu hv' hb'
      unfold X11_quoteWords_j74
      have u'150 : u' 150 = u 150 := fu 150 (by decide) (by decide)
      have u'165 : u' 165 = hm 165 := (fu 165 (by decide) (by decide)).trans (funext fun j => um 165 j (by omega))
      have u'157 : u' 157 (40 * wk + (f + p)) = m 157 (40 * wk + (f + p)) := by
        rw [show u' 157 = u 157 from fu 157 (by decide) (by decide), um 157 _ (by omega)]
        exact m157
      have u5 : u' 150 5 = (n : Int) := by
        rw [u'150, um 150 5 (by omega), s9 150 5 (by omega) (by omega) (by decide) (by decide)]
        exact hn
      have key := word_b (x := g') (m := u') (T := T) (t := t) (n := n) (cnt := cnt) (i := f + p) (wd := m 157 (40 * wk + (f + p))) (L := L) (v1 := (T : Int)) (v3 := (f : Int)) (v4 := ((f + len - 1 : Nat) : Int)) (v5 := v5) (v7 := v7') (wk := wk) (by omega) (by omega) (TX_f fg fu Xg) (CK_f fu Kg) (LT_f fg fu LL) ⟨by rw [u'150]; exact u6, bL⟩ u5 hn2 s1 (by rw [fg 0 14 (by omega) (by omega), gf 0 14 (by omega) (by omega)]; exact s2) (fun q hq => by rw [fg 85 q (by omega) (by omega), gf 85 q (by omega) (by omega), u'165]; exact s3 q hq) (fun j => by rw [u'165]; exact s4 j) hwk i40 u'157.symm b157 rfl
      rw [OK_bindE]
      refine OK_mono key (fun y hy => ?_)
      rw [OK_some]
      refine OK_mono hy (fun r hr => ?_)
      obtain ⟨cn, hm', rfl, k1, k2, k3, k4, k5, k6⟩ := hr
      refine ⟨by omega, by omega, y, hm', cn, bk', v7', ?_, ?_, ⟨k1, k2, k3, k4, ?_, ?_, ?_, fun c j h1 h2 h3 h4 h5 => ?_, fun c j h1 h2 h3 h4 => ?_⟩, hv', fun _ => hb'⟩
      · rw [show ((f + (p + 1) : Nat) : Int) = ((f + p : Nat) : Int) + 1 by omega]
      · rw [show ((f + (p + 1) : Nat) : Int) = ((f + p : Nat) : Int) + 1 by omega]
      · rw [k5 0 15 (by omega) (by omega) (by omega) (by omega), fg 0 15 (by omega) (by omega), k6 150 6 (by omega) (by decide) (by decide), u'150, u6]
        refine ⟨?_, bL⟩
        rw [← hg, setH_o (by omega), setH_o (by omega), setH_o (by omega), setH_o (by omega), setH_s]
      · have e6 : ∀ j, y (t + 6) j = g (t + 6) j := fun j => (k5 (t + 6) j (by omega) (by omega) (by omega) (by omega)).trans (fg (t + 6) j (by omega) (by omega))
        rw [e6, e6, e6, e6]
        exact gl
      · have e6 : ∀ j, y (t + 6) j = g (t + 6) j := fun j => (k5 (t + 6) j (by omega) (by omega) (by omega) (by omega)).trans (fg (t + 6) j (by omega) (by omega))
        unfold RLw
        simp only [e6]
        exact gR
      · rw [k5 c j (by omega) h2 h3 h5, fg c j h3 h5, gf c j (by omega) h4]
        exact s8 c j h1 h2 h3 h4 h5
      · rw [k6 c j h2 h3 h4, fu c h3 h4, um c j h1]
        exact s9 c j h1 h2 h3 h4
    by_cases c0 : p = 0
    · subst c0
      have hne : ¬ w32 ((f + 0 : Nat) : Int) ≠ w32 (f : Int) := fun q => q rfl
      refine OK_gn hne ?_
      obtain ⟨z, ez, hz⟩ := OK_ex (value_b (hd := 110) (lo := -9) (hi := 9) (by omega) Xg Kg LL (by decide) (by decide) (by decide) (by decide))
      obtain ⟨w, ew2, w1, w2, fx, fm⟩ := OK_ex hz
      have b158f := c58 (40 * wk + f)
      have ebf : X7_workBook (wk : Int) ((f + 0 : Nat) : Int) g = some (m 158 (40 * wk + f)) := eb g f (by omega) (fun j => gf 10 j (by omega) (by omega))
      rw [ebf, OK_bindE, OK_some, ez, OK_bindE, OK_some, Option.bind_some, if_neg hne, ew2, Option.bind_some, w1]
      refine fin z.2 w.2 _ w.1 fx fm (by omega) ?_
      rw [maxI_id (by omega) (by omega) (by omega) (by omega), minI_id (by omega) (by omega) (by omega) (by omega)]
    · have hne : w32 ((f + p : Nat) : Int) ≠ w32 (f : Int) := by
        rw [wp, wf]
        omega
      refine OK_gd hne ?_
      rw [Option.bind_some, if_pos hne]
      exact fin g u bk v7 (fun _ _ _ _ => rfl) (fun _ _ _ => rfl) hv7 (hbk (by omega))
