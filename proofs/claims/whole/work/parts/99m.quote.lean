/-! QUOTING -/
theorem LT_cg {x m x' m' : Hp} {t : Nat} (hx : x' (t + 6) = x (t + 6)) (hm : m' 150 = m 150) (L : LT x m t) : LT x' m' t := by
  have e : lvM m' = lvM m := funext fun c => lvM_cg hm c
  unfold LT
  rw [hx, e]
  exact L
theorem TX_f {x m x' m' : Hp} {t T : Nat} (fx : XF x x' t) (fm : MF m m') (X : TX x m t T) : TX x' m' t T := TX_cg (fx t 0 (by omega) (by omega)) (fun i h1 h2 => funext fun j => fx (t + i) j (by omega) (by omega)) (fun c h1 h2 => fm c (by omega) (by omega)) X
theorem CK_f {m m' : Hp} (fm : MF m m') (K : CKm m) : CKm m' := by
  unfold CKm at K ⊢
  rw [fm 171 (by decide) (by decide), fm 172 (by decide) (by decide)]
  exact K
theorem LT_f {x m x' m' : Hp} {t : Nat} (fx : XF x x' t) (fm : MF m m') (L : LT x m t) : LT x' m' t := LT_cg (funext fun j => fx (t + 6) j (by omega) (by omega)) (fm 150 (by decide) (by decide)) L
/-- one word goes over -/
theorem word_b {x m : Hp} {T t n cnt i : Nat} {wd L : Int} {v1 v3 v4 v5 v7 : Int} {wk : Nat} (hT : T ≤ 10) (ht : 86 ≤ t ∧ t ≤ 142) (X : TX x m t T) (K : CKm m) (LL : LT x m t) (hL : m 150 6 = L ∧ 0 ≤ L ∧ L ≤ 65535) (hn : m 150 5 = (n : Int)) (hn2 : n < 40) (hc : cnt ≤ 8) (h014 : x 0 14 = (cnt : Int)) (h85 : ∀ q, q < cnt → x 85 q = m 165 (8 * n + q)) (c65 : ∀ j, 0 ≤ m 165 j ∧ m 165 j ≤ 63) (hwk : wk < 8) (hi : i < 40) (hwd : wd = m 157 (40 * wk + i)) (hwb : 0 ≤ wd ∧ wd ≤ 63) (hv1 : v1 = (T : Int)) : OK (X11_quoteWord t wd (L % 1000) x) (fun hx => OK (X12_quote_j92 v1 (wk : Int) v3 v4 v5 (cnt : Int) v7 (i : Int) m) (fun r => ∃ (cn : Nat) (hm : Hp), r = Sum.inl ((cn : Int), v7, (i : Int) + 1, hm) ∧ cn ≤ 8 ∧ hx 0 14 = (cn : Int) ∧ (∀ q, q < cn → hx 85 q = hm 165 (8 * n + q)) ∧ (∀ j, 0 ≤ hm 165 j ∧ hm 165 j ≤ 63) ∧ (∀ c j, ¬ (c = 0 ∧ j = 14) → c ≠ 85 → ¬ (c = t ∧ (j = 9 ∨ j = 10)) → c ≠ t + 7 → hx c j = x c j) ∧ (∀ c j, ¬ (c = 165 ∧ 8 * n ≤ j) → c ≠ 180 → c ≠ 181 → hm c j = m c j))) := by
  subst hv1
  obtain ⟨z, ez, hz⟩ := OK_ex (value_b (hd := 100) (lo := 0) (hi := 1000) hT X K LL (by decide) (by decide) (by decide) (by decide))
  obtain ⟨w, ew, w1, w2, fx, fm⟩ := OK_ex hz
  have X2 := TX_f fx fm X
  obtain ⟨z', ez', hz'⟩ := OK_ex (value_b (hd := 99) (lo := 0) (hi := 1000) hT X2 (CK_f fm K) (LT_f fx fm LL) (by decide) (by decide) (by decide) (by decide))
  obtain ⟨w', ew', w1', w2', fx', fm'⟩ := OK_ex hz'
  have m150 : w'.2 150 = m 150 := (fm' 150 (by decide) (by decide)).trans (fm 150 (by decide) (by decide))
  have m157 : w'.2 157 = m 157 := (fm' 157 (by decide) (by decide)).trans (fm 157 (by decide) (by decide))
  have m165 : w'.2 165 = m 165 := (fm' 165 (by decide) (by decide)).trans (fm 165 (by decide) (by decide))
  have z014 : z.2 0 14 = (cnt : Int) := (fx 0 14 (by omega) (by omega)).trans h014
  have z014' : z'.2 0 14 = (cnt : Int) := (fx' 0 14 (by omega) (by omega)).trans z014
  have z85 : z.2 85 = x 85 := funext fun j => fx 85 j (by omega) (by omega)
  have z85' : z'.2 85 = x 85 := (funext fun j => fx' 85 j (by omega) (by omega) : z'.2 85 = z.2 85).trans z85
  have fM : ∀ c j, c ≠ 180 → c ≠ 181 → w'.2 c j = m c j := fun c j h1 h2 => (congrFun (fm' c h1 h2) j).trans (congrFun (fm c h1 h2) j)
  have eL : rem32 (w'.2 150 6) 1000 = L % 1000 := by
    rw [m150, hL.1]
    exact rem32_nn hL.2.1 (by omega) (by decide) (by decide)
  have wL := w32_id (z := L % 1000) (by omega) (by omega)
  have ww := w32_id (z := w.1) (by omega) (by omega)
  have wc := w32_id (z := (cnt : Int)) (by omega) (by omega)
  unfold X11_quoteWord X12_quote_j92
  rw [ez, ew, Option.bind_some, Option.bind_some, w1, ew', Option.bind_some]
  simp only [eL]
  have nop : ∀ u : Hp, u = z.2 → OK (some (Sum.inl ((cnt : Int), v7, (i : Int) + 1, w'.2)) : Option ((Int × Int × Int × Hp) ⊕ (Int × Int × Hp))) (fun r => ∃ (cn : Nat) (hm : Hp), r = Sum.inl ((cn : Int), v7, (i : Int) + 1, hm) ∧ cn ≤ 8 ∧ u 0 14 = (cn : Int) ∧ (∀ q, q < cn → u 85 q = hm 165 (8 * n + q)) ∧ (∀ j, 0 ≤ hm 165 j ∧ hm 165 j ≤ 63) ∧ (∀ c j, ¬ (c = 0 ∧ j = 14) → c ≠ 85 → ¬ (c = t ∧ (j = 9 ∨ j = 10)) → c ≠ t + 7 → u c j = x c j) ∧ (∀ c j, ¬ (c = 165 ∧ 8 * n ≤ j) → c ≠ 180 → c ≠ 181 → hm c j = m c j)) := by
    intro u hu
    subst hu
    rw [OK_some]
    exact ⟨cnt, w'.2, rfl, hc, z014, by rw [z85, m165]; exact h85, by rw [m165]; exact c65, fun c j _ _ h3 h4 => fx c j h3 h4, fun c j _ h2 h3 => fM c j h2 h3⟩
  by_cases c1 : L % 1000 < w.1
  · refine OK_gd (by rw [wL, ww]; exact c1) ?_
    rw [OK_some, if_pos (by decide), if_pos (by rw [wL, ww]; exact c1)]
    exact nop z.2 rfl
  · refine OK_gn (by rw [wL, ww]; exact c1) (OK_gn (by rw [z014, wc]; omega) ?_)
    by_cases c2 : cnt < 8
    · refine OK_gd (by rw [z014, wc, show w32 8 = 8 from rfl]; omega) ?_
      rw [ez', OK_bindE, OK_some, w1']
      have k1000 : w32 1000 ≠ 0 := by decide
      have kc1 : ¬ w32 (L % 1000) < w32 w.1 := by
        rw [wL, ww]
        exact c1
      have kc8 : w32 (cnt : Int) ≠ w32 8 := by
        rw [wc, show w32 8 = 8 from rfl]
        omega
      rw [if_pos k1000, if_neg kc1, if_pos kc8, if_pos k1000]
      have ws := w32_id (z := w.1 + w'.1) (by omega) (by omega)
      have e320 : (40 * (wk : Int) + (i : Int)) = ((40 * wk + i : Nat) : Int) := by omega
      have en : 8 * w'.2 150 5 + (cnt : Int) = ((8 * n + cnt : Nat) : Int) := by
        rw [m150, hn]
        omega
      have tail : ∀ s : Int, (0 ≤ s ∧ s ≤ 63) → OK (X11_quoteWord_j43 t (z'.2 0 14) s z'.2) (fun hx => OK (X12_quote_j153 (T : Int) (wk : Int) v3 v4 v5 (cnt : Int) v7 (i : Int) (8 * w'.2 150 5 + (cnt : Int)) s w'.2) (fun r => ∃ (cn : Nat) (hm : Hp), r = Sum.inl ((cn : Int), v7, (i : Int) + 1, hm) ∧ cn ≤ 8 ∧ hx 0 14 = (cn : Int) ∧ (∀ q, q < cn → hx 85 q = hm 165 (8 * n + q)) ∧ (∀ j, 0 ≤ hm 165 j ∧ hm 165 j ≤ 63) ∧ (∀ c j, ¬ (c = 0 ∧ j = 14) → c ≠ 85 → ¬ (c = t ∧ (j = 9 ∨ j = 10)) → c ≠ t + 7 → hx c j = x c j) ∧ (∀ c j, ¬ (c = 165 ∧ 8 * n ≤ j) → c ≠ 180 → c ≠ 181 → hm c j = m c j))) := by
        intro s hs
        unfold X11_quoteWord_j43 X12_quote_j153 X12_quote_j155
        rw [z014', en, wtn cnt rfl (by omega), wtn (8 * n + cnt) rfl (by omega)]
        refine OK_gi (by omega) (by omega) (by omega) ?_
        rw [OK_some]
        refine OK_gi (by omega) (by omega) (by omega) ?_
        rw [OK_some]
        refine ⟨cnt + 1, _, rfl, by omega, ?_, fun q hq => ?_, fun j => ?_, fun c j h1 h2 h3 h4 => ?_, fun c j h1 h2 h3 => ?_⟩
        · rw [setH_s]
          omega
        · rw [setH_o (by decide)]
          by_cases e : q = cnt
          · subst e
            rw [setH_s, setH_s]
          · rw [setH_n e, setH_n (by omega), z85', m165]
            exact h85 q (by omega)
        · rw [setH_at]
          split
          · exact hs
          · rw [m165]
            exact c65 j
        · rw [setH_f h1, setH_o h2]
          exact (fx' c j h3 h4).trans (fx c j h3 h4)
        · rw [setH_f (by omega)]
          exact fM c j h2 h3
      have hw157 : w'.2 157 (40 * wk + i) = wd := by
        rw [m157]
        exact hwd.symm
      by_cases c3 : w.1 + w'.1 ≤ L % 1000
      · refine OK_gd (by rw [ws, wL]; exact c3) ?_
        rw [if_pos (by rw [ws, wL]; exact c3), e320, if_inb (by omega) (by omega) (by omega), wtn (40 * wk + i) rfl (by omega), hw157]
        unfold X11_quoteWord_j29
        exact OK_gd (by decide) (tail wd hwb)
      · refine OK_gn (by rw [ws, wL]; exact c3) ?_
        rw [if_neg (by rw [ws, wL]; exact c3), e320, if_inb (by omega) (by omega) (by omega), wtn (40 * wk + i) rfl (by omega), hw157, if_pos (by decide)]
        unfold X11_quoteWord_j29
        have er : rem32 (wd + 1) 64 = (wd + 1) % 64 := rem32_nn (by omega) (by omega) (by decide) (by decide)
        exact OK_gn (by decide) (OK_gd (by decide) (tail _ (by rw [er]; omega)))
    · have ec : cnt = 8 := by omega
      refine OK_gn (by rw [z014, wc, show w32 8 = 8 from rfl]; omega) ?_
      rw [OK_some, if_pos (by decide), if_neg (by rw [wL, ww]; exact c1), if_neg (by rw [ec]; decide)]
      exact nop z.2 rfl
