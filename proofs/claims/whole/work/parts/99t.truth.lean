/-- the product over a set of bits, on both sides -/
theorem product_b {x m hx0 hm0 : Hp} {v n c : Int} {bt : Nat} (R : RS x m) (X : TX x m 44 10) (K : CKm m) (hbt : m 150 5 = (bt : Int)) (hv : ∀ p, bt ≤ p → p < 40 → tb v p = false) (hn : I32 n) (hc : I32 c) (fx : XFp x hx0) (W : RLt hx0) (fm : MFp m hm0) : OK (X11_tableProduct v n c hx0) (fun z => OK (X12_truthOf v n c hm0) (fun w => z.1 = w.1 ∧ XFp x z.2 ∧ RLt z.2 ∧ MFp m w.2)) := by
  unfold X11_tableProduct X12_truthOf
  rw [let_s 2 (by decide) (by decide), OK_bindE, OK_some, let_s 13 (by decide) (by decide), OK_bindE, OK_some]
  generalize hg : setH (setH hx0 (44 + 6) 2 c) (44 + 6) 13 n = g
  have gf : XFp x g := fun e j h1 h2 h3 => by
    rw [← hg, setH_f (by omega), setH_f (by omega)]
    exact fx e j h1 h2 h3
  have gW : RLt g := by
    refine ⟨fun j h1 h2 h3 h4 => ?_, fun j => ?_⟩
    · rw [← hg, setH_n h4, setH_n h3]
      exact W.1 j h1 h2 h3 h4
    · rw [← hg, setH_at]
      split
      · exact hn
      · rw [setH_at]
        split
        · exact hc
        · exact W.2 j
  have g2 : g 50 2 = c := by rw [← hg, setH_n (by decide), setH_s]
  have g13 : g 50 13 = n := by rw [← hg, setH_s]
  have fu : 1000 < FU := lt_FU (by omega)
  have b40 := R.2.1.2.2.2
  rw [OK_bindE, iter_eq]
  have key := prod_l (v := v) (n := n) (c := c) R X K hbt hv bt 0 FU FU 1 g hm0 (by omega) (by omega) (by omega) gf gW g2 g13 fm
  refine OK_mono key (fun z hz => ?_)
  rw [OK_some, OK_bindE, iter_eq]
  refine OK_mono hz (fun w hw => ?_)
  rw [OK_some]
  exact ⟨hw.1, hw.2.1, hw.2.2.1, hw.2.2.2.2.2⟩
/-- the sum of the products, on both sides -/
theorem sum_b {x m : Hp} {v : Int} {n bt : Nat} (R : RS x m) (X : TX x m 44 10) (K : CKm m) (W : RLt x) (hbt : m 150 5 = (bt : Int)) (hv : ∀ p, bt ≤ p → p < 40 → tb v p = false) (hn : 1 ≤ n ∧ n ≤ 40) : OK (iter (X11_truth_l55 v (n : Int)) FU (0, 1, x)) (fun z => OK (iter (X12_truth_l65 v (n : Int)) FU (0, 1, m)) (fun w => z.1 = w.1 ∧ XFp x z.2 ∧ RLt z.2 ∧ MFp m w.2)) := by
  refine iter_2 (fun p s q => p ≤ n ∧ ∃ (y : Int) (hx hm : Hp), s = (y, ((p + 1 : Nat) : Int), hx) ∧ q = (y, ((p + 1 : Nat) : Int), hm) ∧ XFp x hx ∧ RLt hx ∧ MFp m hm) (fun (z : Int × Hp) (w : Int × Hp) => z.1 = w.1 ∧ XFp x z.2 ∧ RLt z.2 ∧ MFp m w.2) n (by omega) (fun p s q hp hI => ?_) ⟨by omega, 0, x, m, rfl, rfl, fun _ _ _ _ _ => rfl, W, fun _ _ _ _ _ => rfl⟩
  obtain ⟨-, y, hx, hm, rfl, rfl, fx, W', fm⟩ := hI
  have wn := w32_id (z := (n : Int)) (by omega) (by omega)
  have wp := w32_id (z := ((p + 1 : Nat) : Int)) (by omega) (by omega)
  unfold X11_truth_l55 X12_truth_l65
  (try dsimp only)
  by_cases c : n < p + 1
  · have hc : w32 (n : Int) < w32 ((p + 1 : Nat) : Int) := by
      rw [wn, wp]
      omega
    rw [if_pos hc, if_pos hc, OK_some, OK_some]
    exact ⟨rfl, fx, W', fm⟩
  · have hc : ¬ w32 (n : Int) < w32 ((p + 1 : Nat) : Int) := by
      rw [wn, wp]
      omega
    rw [if_neg hc, if_neg hc]
    refine OK2_bind (OK2_mono (product_b (n := (n : Int)) (c := ((p + 1 : Nat) : Int)) R X K hbt hv ⟨by omega, by omega⟩ ⟨by omega, by omega⟩ fx W' fm) (fun z w h => ?_))
    rw [OK_some, OK_some]
    obtain ⟨h1, h2, h3, h4⟩ := h
    exact ⟨by omega, by omega, y + w.1, z.2, w.2, by rw [h1]; rfl, rfl, h2, h3, h4⟩
