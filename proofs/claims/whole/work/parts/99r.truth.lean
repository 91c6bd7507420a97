/-! what a table says of a set of bits -/
/-- the letters that the table's text does not know -/
def RLt (x : Hp) : Prop := (∀ j, isLt j → j ≠ 1 → j ≠ 2 → j ≠ 13 → x 50 j = 0) ∧ ∀ j, -2147483648 ≤ x 50 j ∧ x 50 j < 2147483648
def XFp (x h : Hp) : Prop := ∀ c j, ¬ (c = 44 ∧ (j = 9 ∨ j = 10)) → ¬ (c = 50 ∧ (j = 1 ∨ j = 2 ∨ j = 13)) → c ≠ 51 → h c j = x c j
def MFp (m h : Hp) : Prop := ∀ c j, ¬ (c = 150 ∧ 44 ≤ j ∧ j ≤ 57) → c ≠ 180 → c ≠ 181 → h c j = m c j
theorem clears_s {m : Hp} {b c n : Int} : ∃ u, X12_clears m = some u ∧ (setH (setH (setH u 150 44 b) 150 45 c) 150 50 n) = (setH (setH (setH u 150 44 b) 150 45 c) 150 50 n) ∧ (∀ e j, ¬ (e = 150 ∧ 44 ≤ j ∧ j ≤ 57) → u e j = m e j) ∧ ∀ j, 44 ≤ j → j ≤ 57 → u 150 j = 0 := by
  unfold X12_clears
  refine ⟨_, rfl, rfl, fun e j h => ?_, fun j h1 h2 => ?_⟩
  · by_cases q : e = 150
    · subst q
      rw [setH_n (by omega), setH_n (by omega), setH_n (by omega), setH_n (by omega), setH_n (by omega), setH_n (by omega), setH_n (by omega), setH_n (by omega), setH_n (by omega), setH_n (by omega), setH_n (by omega), setH_n (by omega), setH_n (by omega), setH_n (by omega)]
    · rw [setH_o q, setH_o q, setH_o q, setH_o q, setH_o q, setH_o q, setH_o q, setH_o q, setH_o q, setH_o q, setH_o q, setH_o q, setH_o q, setH_o q]
  · have : j = 44 ∨ j = 45 ∨ j = 46 ∨ j = 47 ∨ j = 48 ∨ j = 49 ∨ j = 50 ∨ j = 51 ∨ j = 52 ∨ j = 53 ∨ j = 54 ∨ j = 55 ∨ j = 56 ∨ j = 57 := by omega
    rcases this with e | e | e | e | e | e | e | e | e | e | e | e | e | e <;> subst e <;> simp (disch := decide) only [setH_s, setH_n]
theorem speak_b {x m : Hp} {b c n : Int} (X : TX x m 44 10) (K : CKm m) (W : RLt x) (hb : I32 b) (hx1 : x 50 1 = b) (hx2 : x 50 2 = c) (hx3 : x 50 13 = n) : OK (X10_value 44 103 0 100 x) (fun z => OK (X12_speaks b c n m) (fun w => z.1 = w.1 ∧ (0 ≤ w.1 ∧ w.1 ≤ 100) ∧ XF x z.2 44 ∧ MFp m w.2)) := by
  obtain ⟨u, eu, -, u1, u2⟩ := clears_s (m := m) (b := b) (c := c) (n := n)
  obtain ⟨W1, W2⟩ := W
  generalize hg : setH (setH (setH u 150 44 b) 150 45 c) 150 50 n = g
  have gf : ∀ e j, ¬ (e = 150 ∧ 44 ≤ j ∧ j ≤ 57) → g e j = m e j := fun e j h => by
    rw [← hg, setH_f (by omega), setH_f (by omega), setH_f (by omega)]
    exact u1 e j h
  have gc : ∀ e, e ≠ 150 → g e = m e := fun e he => funext fun j => gf e j (by omega)
  have g44 : g 150 44 = b := by rw [← hg, setH_n (by decide), setH_n (by decide), setH_s]
  have g45 : g 150 45 = c := by rw [← hg, setH_n (by decide), setH_s]
  have g50 : g 150 50 = n := by rw [← hg, setH_s]
  have go : ∀ j, 44 ≤ j → j ≤ 57 → j ≠ 44 → j ≠ 45 → j ≠ 50 → g 150 j = 0 := fun j h1 h2 h3 h4 h5 => by
    rw [← hg, setH_n h5, setH_n h4, setH_n h3]
    exact u2 j h1 h2
  have LL : LT x g 44 := by
    obtain ⟨l1, l2, l8, l10, l11, l12, l13, l15, l18, l19, l22, l23, l24, l25⟩ := lv_all g
    refine ⟨fun j hj => ?_, W2, fun e => lv_b (fun j h1 h2 => ?_) e⟩
    · have hj' := hj
      unfold isLt at hj
      show x 50 j = _
      rcases hj with e | e | e | e | e | e | e | e | e | e | e | e | e | e <;> subst e
      · rw [l1, g44, hx1]
      · rw [l2, g45, hx2]
      · rw [l8, go 46 (by decide) (by decide) (by decide) (by decide) (by decide)]; exact W1 8 hj' (by decide) (by decide) (by decide)
      · rw [l10, go 47 (by decide) (by decide) (by decide) (by decide) (by decide)]; exact W1 10 hj' (by decide) (by decide) (by decide)
      · rw [l11, go 48 (by decide) (by decide) (by decide) (by decide) (by decide)]; exact W1 11 hj' (by decide) (by decide) (by decide)
      · rw [l12, go 49 (by decide) (by decide) (by decide) (by decide) (by decide)]; exact W1 12 hj' (by decide) (by decide) (by decide)
      · rw [l13, g50, hx3]
      · rw [l15, go 51 (by decide) (by decide) (by decide) (by decide) (by decide)]; exact W1 15 hj' (by decide) (by decide) (by decide)
      · rw [l18, go 52 (by decide) (by decide) (by decide) (by decide) (by decide)]; exact W1 18 hj' (by decide) (by decide) (by decide)
      · rw [l19, go 53 (by decide) (by decide) (by decide) (by decide) (by decide)]; exact W1 19 hj' (by decide) (by decide) (by decide)
      · rw [l22, go 54 (by decide) (by decide) (by decide) (by decide) (by decide)]; exact W1 22 hj' (by decide) (by decide) (by decide)
      · rw [l23, go 55 (by decide) (by decide) (by decide) (by decide) (by decide)]; exact W1 23 hj' (by decide) (by decide) (by decide)
      · rw [l24, go 56 (by decide) (by decide) (by decide) (by decide) (by decide)]; exact W1 24 hj' (by decide) (by decide) (by decide)
      · rw [l25, go 57 (by decide) (by decide) (by decide) (by decide) (by decide)]; exact W1 25 hj' (by decide) (by decide) (by decide)
    · by_cases e1 : j = 44
      · subst e1; rw [g44]; exact hb
      · by_cases e2 : j = 45
        · subst e2; rw [g45, ← hx2]; exact W2 2
        · by_cases e3 : j = 50
          · subst e3; rw [g50, ← hx3]; exact W2 13
          · rw [go j h1 h2 e1 e2 e3]; decide
  have Xg : TX x g 44 10 := TX_cg rfl (fun _ _ _ => rfl) (fun e h1 h2 => gc e (by omega)) X
  have Kg : CKm g := by
    unfold CKm at K ⊢
    rw [gc 171 (by decide), gc 172 (by decide)]
    exact K
  refine OK_mono (value_b (T := 10) (hd := 103) (lo := 0) (hi := 100) (by decide) Xg Kg LL (by decide) (by decide) (by decide) (by decide)) (fun z hz => ?_)
  unfold X12_speaks
  rw [eu, OK_bindE, OK_some, hg, OK_bindE]
  refine OK_mono hz (fun w hw => ?_)
  obtain ⟨w1, w2, w3, w4⟩ := hw
  rw [OK_some]
  exact ⟨w1, by dsimp only; omega, w3, fun e j h1 h2 h3 => (congrFun (w4 e h2 h3) j).trans (gf e j h1)⟩
/-- the loop over the bits: the one side goes on to 40, with nothing to find there -/
theorem prod_l {x m : Hp} {v n c : Int} {bt : Nat} (R : RS x m) (X : TX x m 44 10) (K : CKm m) (hbt : m 150 5 = (bt : Int)) (hv : ∀ p, bt ≤ p → p < 40 → tb v p = false) : ∀ (d p k k' : Nat) (y : Int) (hx hm : Hp), p + d = bt → 42 ≤ k + p → bt + 2 ≤ k' + p → XFp x hx → RLt hx → hx 50 2 = c → hx 50 13 = n → MFp m hm → OK (iter0 (X11_tableProduct_l14 v) k (y, (p : Int), hx)) (fun z => OK (iter0 (X12_truthOf_l4 v n c) k' (y, (p : Int), hm)) (fun w => z.1 = w.1 ∧ XFp x z.2 ∧ RLt z.2 ∧ z.2 50 2 = c ∧ z.2 50 13 = n ∧ MFp m w.2)) := by
  obtain ⟨⟨⟨e30, e33, e39, e311⟩, -, ⟨e12, e13, e14, e15, e16⟩, -⟩, ⟨b2, b3, b4, b5⟩, -, -, ⟨c60, c61, c62, c63⟩, -⟩ := id R
  intro d
  induction d with
  | zero =>
    intro p k k' y hx hm hp hk hk' fx W w2 w3 fm
    have hpb : p = bt := by omega
    subst hpb
    have XE : ∀ (e q k : Nat), q + e = 40 → e < k → p ≤ q → iter0 (X11_tableProduct_l14 v) k (y, (q : Int), hx) = some (y, hx) := by
      intro e
      induction e with
      | zero =>
        intro q k hq hk hpq
        obtain ⟨k, rfl⟩ : ∃ a, k = a + 1 := ⟨k - 1, by omega⟩
        rw [iter0_s]
        unfold X11_tableProduct_l14
        dsimp only
        rw [if_pos (by rw [w32_id (z := (q : Int)) (by omega) (by omega), show w32 40 = 40 from rfl]; omega)]
        rfl
      | succ e ih =>
        intro q k hq hk hpq
        obtain ⟨k, rfl⟩ : ∃ a, k = a + 1 := ⟨k - 1, by omega⟩
        rw [iter0_s]
        unfold X11_tableProduct_l14 X11_tableProduct_j43
        dsimp only
        rw [if_neg (by rw [w32_id (z := (q : Int)) (by omega) (by omega), show w32 40 = 40 from rfl]; omega), if_pos ((bit_x (by omega)).mpr (hv q (by omega) (by omega)))]
        exact ih (q + 1) k (by omega) (by omega) (by omega)
    rw [XE (40 - p) p k (by omega) (by omega) (Nat.le_refl _), OK_some]
    obtain ⟨k', rfl⟩ : ∃ a, k' = a + 1 := ⟨k' - 1, by omega⟩
    rw [iter0_s]
    unfold X12_truthOf_l4
    dsimp only
    have h5 : hm 150 5 = (p : Int) := (fm 150 5 (by omega) (by decide) (by decide)).trans hbt
    rw [if_pos (by rw [h5]; exact Int.le_refl _)]
    show OK (some (y, hm)) _
    rw [OK_some]
    exact ⟨rfl, fx, W, w2, w3, fm⟩
  | succ d ih =>
    intro p k k' y hx hm hp hk hk' fx W w2 w3 fm
    obtain ⟨k, rfl⟩ : ∃ a, k = a + 1 := ⟨k - 1, by omega⟩
    obtain ⟨k', rfl⟩ : ∃ a, k' = a + 1 := ⟨k' - 1, by omega⟩
    have wp := w32_id (z := (p : Int)) (by omega) (by omega)
    have h5 : hm 150 5 = (bt : Int) := (fm 150 5 (by omega) (by decide) (by decide)).trans hbt
    have c1 : ¬ w32 40 ≤ w32 (p : Int) := by
      rw [wp, show w32 40 = 40 from rfl]
      omega
    have c2 : ¬ w32 (hm 150 5) ≤ w32 (p : Int) := by
      rw [h5, wp, w32_id (by omega) (by omega)]
      omega
    rw [iter0_s, iter0_s]
    unfold X11_tableProduct_l14 X12_truthOf_l4 X11_tableProduct_j43 X12_truthOf_j24
    dsimp only
    rw [if_neg c1, if_neg c2, has_m (by omega), Option.bind_some]
    by_cases ct : tb v p = true
    · rw [if_neg (fun q => by rw [(bit_x (by omega)).mp q] at ct; cases ct), if_pos ct, if_neg (by decide), if_inb (by omega) (by omega) (by omega), wtn p rfl (by omega)]
      have h311 : hx 3 11 = (bt : Int) := (fx 3 11 (by omega) (by omega) (by decide)).trans (e311.trans hbt)
      have h14 : hx 14 p = m 162 p := (fx 14 p (by omega) (by omega) (by decide)).trans (congrFun e14 p)
      have m162 : hm 162 p = m 162 p := fm 162 p (by omega) (by decide) (by decide)
      have b162 := c62 p
      rw [bitBook_in p (by omega) (by omega), Option.bind_some, let_s 1 (by decide) (by decide), Option.bind_some, h14, m162]
      have X2 : TX (setH hx (44 + 6) 1 (m 162 p)) hm 44 10 := by
        refine TX_cg ?_ (fun i h1 h2 => funext fun j => ?_) (fun e h1 h2 => funext fun j => fm e j (by omega) (by omega) (by omega)) X
        · rw [setH_o (by decide), fx 44 0 (by omega) (by omega) (by decide)]
        · rw [setH_o (by omega), fx (44 + i) j (by omega) (by omega) (by omega)]
      have K2 : CKm hm := by
        unfold CKm at K ⊢
        rw [show hm 171 = m 171 from funext fun j => fm 171 j (by omega) (by decide) (by decide), show hm 172 = m 172 from funext fun j => fm 172 j (by omega) (by decide) (by decide)]
        exact K
      have W2 : RLt (setH hx (44 + 6) 1 (m 162 p)) := by
        refine ⟨fun j h1 h2 h3 h4 => ?_, fun j => ?_⟩
        · rw [setH_n h2]
          exact W.1 j h1 h2 h3 h4
        · rw [setH_at]
          split
          · omega
          · exact W.2 j
      obtain ⟨z, ez, hz⟩ := OK_ex (speak_b (c := c) (n := n) X2 K2 W2 (b := m 162 p) ⟨by omega, by omega⟩ setH_s (by rw [setH_n (by decide)]; exact w2) (by rw [setH_n (by decide)]; exact w3))
      obtain ⟨w, ew, w1, wb, wx, wm⟩ := OK_ex hz
      rw [ez, ew, Option.bind_some, Option.bind_some, Option.bind_some, Option.bind_some, w1]
      have z50 : z.2 50 = setH hx (44 + 6) 1 (m 162 p) 50 := funext fun j => wx 50 j (by omega) (by omega)
      refine ih (p + 1) k k' _ z.2 w.2 (by omega) (by omega) (by omega) (fun e j h1 h2 h3 => ?_) ?_ ?_ ?_ (fun e j h1 h2 h3 => ?_)
      · rw [wx e j h1 h3, setH_f (by omega)]
        exact fx e j h1 h2 h3
      · unfold RLt at W2 ⊢
        rw [z50]
        exact W2
      · rw [z50, setH_n (by decide)]
        exact w2
      · rw [z50, setH_n (by decide)]
        exact w3
      · rw [wm e j h1 h2 h3]
        exact fm e j h1 h2 h3
    · have cf : tb v p = false := by
        cases h : tb v p
        · rfl
        · exact absurd h ct
      rw [if_pos ((bit_x (by omega)).mpr cf), if_neg ct, if_pos (by decide)]
      exact ih (p + 1) k k' y hx hm (by omega) (by omega) (by omega) fx W w2 w3 fm
