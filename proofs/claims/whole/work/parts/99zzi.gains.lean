/-! THE ORDER: all that the plan gives -/
theorem RLp_cg {z h : Hp} (H : ∀ j, ((j = 1 ∨ j = 2 ∨ j = 8 ∨ j = 11 ∨ j = 18 ∨ j = 19 ∨ j = 24 ∨ j = 25) ∧ I32 (z 34 j)) ∨ z 34 j = h 34 j) (W : RLp h) : RLp z := by
  obtain ⟨w1, w2⟩ := W
  refine ⟨fun j q0 q1 q2 q3 q4 q5 q6 q7 q8 => ?_, fun j => ?_⟩
  · rcases H j with ⟨r, -⟩ | r
    · omega
    · rw [r]
      exact w1 j q0 q1 q2 q3 q4 q5 q6 q7 q8
  · rcases H j with ⟨-, r⟩ | r
    · exact r
    · rw [r]
      exact w2 j
theorem gainsX_s {x m : Hp} (R : RS x m) (X : TX x m 28 8) (K : CKm m) (W : RLp x) {N : Nat} {mem : Nat → Nat} (hN : N ≤ 10) (h5 : x 66 5 = (N : Int)) (h9 : ∀ p, p < N → x 69 p = ((mem p : Nat) : Int)) (hm : ∀ p, p < N → ((mem p : Nat) : Int) < m 150 5) : OK (X5_fillGains x) (fun z => (∀ l a, l < N → a < N → z 71 (10 * l + a) = gaV m mem N l a) ∧ RLp z ∧ ∀ e j, e ≠ 34 → e ≠ 35 → e ≠ 71 → ¬ (e = 28 ∧ (j = 9 ∨ j = 10)) → z e j = x e j) := by
  obtain ⟨-, S⟩ := id R
  obtain ⟨⟨b2, b3, b4, b5⟩, -, ⟨-, -, -, b159⟩, ⟨b160, b161, b162, b163⟩, ⟨b164, -⟩, -⟩ := id S
  unfold X5_fillGains
  rw [OK_bindE]
  refine OK_mono (iter_up (fun p st => p ≤ N ∧ ∃ h : Hp, st = ((p : Int), h) ∧ (∀ l a, l < p → a < N → h 71 (10 * l + a) = gaV m mem N l a) ∧ RLp h ∧ ∀ e j, e ≠ 34 → e ≠ 35 → e ≠ 71 → ¬ (e = 28 ∧ (j = 9 ∨ j = 10)) → h e j = x e j) (fun h => (∀ l a, l < N → a < N → h 71 (10 * l + a) = gaV m mem N l a) ∧ RLp h ∧ ∀ e j, e ≠ 34 → e ≠ 35 → e ≠ 71 → ¬ (e = 28 ∧ (j = 9 ∨ j = 10)) → h e j = x e j) N (by omega) (fun p st hp hI => ?_) ⟨Nat.zero_le _, x, rfl, fun l a hl => by omega, W, fun _ _ _ _ _ _ => rfl⟩) (fun z hz => by rw [OK_some]; exact hz)
  obtain ⟨-, h, rfl, h71, hW, hf⟩ := hI
  have hx : ∀ e j, ¬ cXP e j → h e j = x e j := fun e j q => by
    unfold cXP at q
    exact hf e j (by omega) (by omega) (by omega) (by omega)
  have Rh : RS h m := RS_cP hx R
  have k5 : h 66 5 = (N : Int) := by rw [hf 66 5 (by decide) (by decide) (by decide) (by omega), h5]
  unfold X5_fillGains_l2
  dsimp only
  simp only [k5, w32_id (z := (N : Int)) (by omega) (by omega), w32_id (z := (p : Int)) (by omega) (by omega)]
  refine OK_if (fun c => ?_) (fun c => ?_)
  · rw [OK_some, LQ_r]
    have : p = N := by omega
    subst this
    exact ⟨h71, hW, hf⟩
  · have hpN : p < N := by omega
    have hmp := hm p hpN
    rw [at_e (a := 69) (n := 10) p rfl (by omega) (by omega), OK_bindE, OK_some, hf 69 p (by decide) (by decide) (by decide) (by omega), h9 p hpN]
    refine fourX (x := x) Rh (i := mem p) (c1 := 98) (c2 := 115) (c3 := 121) (c4 := 108) (j1 := 1) (j2 := 18) (j3 := 24) (j4 := 11) hmp (by decide) (by decide) rfl rfl rfl rfl (fun u u1 u18 u24 u11 un uf => ?_)
    have hux : ∀ e j, e ≠ 34 → e ≠ 35 → e ≠ 71 → ¬ (e = 28 ∧ (j = 9 ∨ j = 10)) → u e j = x e j := fun e j q1 q2 q3 q4 => by rw [uf e j q1, hf e j q1 q2 q3 q4]
    have c1 := b162 (mem p)
    have c2 := b163 (mem p)
    have c3 := b159 (m 160 (mem p)).toNat
    have c4 := b164 (mem p)
    have uW : RLp u := RLp_cg (fun j => by
      by_cases q : j = 1 ∨ j = 18 ∨ j = 24 ∨ j = 11
      · left
        refine ⟨by omega, ?_⟩
        rcases q with q | q | q | q <;> subst q
        · rw [u1]; exact ⟨by omega, by omega⟩
        · rw [u18]; exact ⟨by omega, by omega⟩
        · rw [u24]; exact ⟨by omega, by omega⟩
        · rw [u11]; exact ⟨by omega, by omega⟩
      · right
        exact un j (by omega) (by omega) (by omega) (by omega)) hW
    rw [OK_bindE]
    refine OK_mono (iter_up (fun a st => a ≤ N ∧ ∃ g : Hp, st = ((a : Int), g) ∧ (∀ l b, l < p → b < N → g 71 (10 * l + b) = gaV m mem N l b) ∧ (∀ b, b < a → g 71 (10 * p + b) = gaV m mem N p b) ∧ (g 34 1 = m 162 (mem p) ∧ g 34 18 = m 163 (mem p) ∧ g 34 24 = m 159 (m 160 (mem p)).toNat ∧ g 34 11 = m 164 (mem p)) ∧ RLp g ∧ ∀ e j, e ≠ 34 → e ≠ 35 → e ≠ 71 → ¬ (e = 28 ∧ (j = 9 ∨ j = 10)) → g e j = x e j) (fun g => (∀ l b, l < p → b < N → g 71 (10 * l + b) = gaV m mem N l b) ∧ (∀ b, b < N → g 71 (10 * p + b) = gaV m mem N p b) ∧ RLp g ∧ ∀ e j, e ≠ 34 → e ≠ 35 → e ≠ 71 → ¬ (e = 28 ∧ (j = 9 ∨ j = 10)) → g e j = x e j) N (by omega) (fun a st ha hI => ?_) ⟨Nat.zero_le _, u, rfl, fun l b q1 q2 => by rw [uf 71 _ (by decide)]; exact h71 l b q1 q2, fun b hb => by omega, ⟨u1, u18, u24, u11⟩, uW, hux⟩) (fun g hg => ?_)
    · obtain ⟨-, g, rfl, g71, gp, ⟨k1, k18, k24, k11⟩, gW, gf⟩ := hI
      have gx : ∀ e j, ¬ cXP e j → g e j = x e j := fun e j q => by
        unfold cXP at q
        exact gf e j (by omega) (by omega) (by omega) (by omega)
      have Rg : RS g m := RS_cP gx R
      have Xg : TX g m 28 8 := TX_cP gx X
      have g5 : g 66 5 = (N : Int) := by rw [gf 66 5 (by decide) (by decide) (by decide) (by omega), h5]
      unfold X5_fillGains_l48
      dsimp only
      simp only [g5, w32_id (z := (N : Int)) (by omega) (by omega), w32_id (z := (a : Int)) (by omega) (by omega)]
      refine OK_if (fun d => ?_) (fun d => ?_)
      · rw [OK_some, LQ_r]
        have : a = N := by omega
        subst this
        exact ⟨g71, gp, gW, gf⟩
      · have haN : a < N := by omega
        have hma := hm a haN
        rw [at_e (a := 69) (n := 10) a rfl (by omega) (by omega), OK_bindE, OK_some, gf 69 a (by decide) (by decide) (by decide) (by omega), h9 a haN]
        refine fourX (x := x) Rg (i := mem a) (c1 := 99) (c2 := 116) (c3 := 122) (c4 := 105) (j1 := 2) (j2 := 19) (j3 := 25) (j4 := 8) hma (by decide) (by decide) rfl rfl rfl rfl (fun v v2 v19 v25 v8 vn vf => ?_)
        have d1 := b162 (mem a)
        have d2 := b163 (mem a)
        have d3 := b159 (m 160 (mem a)).toNat
        have d4 := b164 (mem a)
        have vW : RLp v := RLp_cg (fun j => by
          by_cases q : j = 2 ∨ j = 19 ∨ j = 25 ∨ j = 8
          · left
            refine ⟨by omega, ?_⟩
            rcases q with q | q | q | q <;> subst q
            · rw [v2]; exact ⟨by omega, by omega⟩
            · rw [v19]; exact ⟨by omega, by omega⟩
            · rw [v25]; exact ⟨by omega, by omega⟩
            · rw [v8]; exact ⟨by omega, by omega⟩
          · right
            exact vn j (by omega) (by omega) (by omega) (by omega)) gW
        have w1 : v 34 1 = m 162 (mem p) := by rw [vn 1 (by decide) (by decide) (by decide) (by decide), k1]
        have w18 : v 34 18 = m 163 (mem p) := by rw [vn 18 (by decide) (by decide) (by decide) (by decide), k18]
        have w24 : v 34 24 = m 159 (m 160 (mem p)).toNat := by rw [vn 24 (by decide) (by decide) (by decide) (by decide), k24]
        have w11 : v 34 11 = m 164 (mem p) := by rw [vn 11 (by decide) (by decide) (by decide) (by decide), k11]
        have Xv : TX v m 28 8 := TX_cg (vf 28 0 (by decide)) (fun i h1 h2 => funext fun j => vf _ j (by omega)) (fun _ _ _ => rfl) Xg
        have z := fun j (q0 : isLt j) (q1 : j ≠ 1) (q2 : j ≠ 2) (q3 : j ≠ 8) (q4 : j ≠ 11) (q5 : j ≠ 18) (q6 : j ≠ 19) (q7 : j ≠ 24) (q8 : j ≠ 25) => vW.1 j q0 q1 q2 q3 q4 q5 q6 q7 q8
        have LL : LT v (mLt m (plL m (mem p) (mem a))) 28 := by
          refine LT_of (t := 28) ?_ ?_ ?_ ?_ ?_ ?_ ?_ ?_ ?_ ?_ ?_ ?_ ?_ ?_ vW.2 (plL_bd S _ _)
          · exact w1
          · exact v2
          · exact v8
          · exact z 10 (by unfold isLt; omega) (by decide) (by decide) (by decide) (by decide) (by decide) (by decide) (by decide) (by decide)
          · exact w11
          · exact z 12 (by unfold isLt; omega) (by decide) (by decide) (by decide) (by decide) (by decide) (by decide) (by decide) (by decide)
          · exact z 13 (by unfold isLt; omega) (by decide) (by decide) (by decide) (by decide) (by decide) (by decide) (by decide) (by decide)
          · exact z 15 (by unfold isLt; omega) (by decide) (by decide) (by decide) (by decide) (by decide) (by decide) (by decide) (by decide)
          · exact w18
          · exact v19
          · exact z 22 (by unfold isLt; omega) (by decide) (by decide) (by decide) (by decide) (by decide) (by decide) (by decide) (by decide)
          · exact z 23 (by unfold isLt; omega) (by decide) (by decide) (by decide) (by decide) (by decide) (by decide) (by decide) (by decide)
          · exact w24
          · exact v25
        rw [OK_bindE]
        refine OK_mono (value_v (T := 8) (hd := 112) (lo := -1000) (hi := 1000) (by decide) Xv K LL (by decide) (by decide) (by decide) (by decide)) (fun y hy => ?_)
        obtain ⟨y1, -, y3⟩ := hy
        have y34 : y.2 34 = v 34 := funext fun j => y3 34 j (by omega) (by omega)
        have yf : ∀ e j, e ≠ 34 → e ≠ 35 → ¬ (e = 28 ∧ (j = 9 ∨ j = 10)) → y.2 e j = g e j := fun e j q1 q2 q3 => by rw [y3 e j q3 (by omega), vf e j q1]
        have ev : y.1 = gaV m mem N p a := by
          unfold gaV plV
          rw [if_pos ⟨hpN, haN⟩, y1]
        rw [put_e (a := 71) (n := 100) (10 * p + a) (by omega) (by omega) (by omega), OK_bindE, OK_some, OK_some, LQ_l, ev]
        refine ⟨haN, by omega, _, rfl, fun l b q1 q2 => ?_, fun b q => ?_, ⟨?_, ?_, ?_, ?_⟩, ?_, fun e j q1 q2 q3 q4 => by rw [setH_o q3, yf e j q1 q2 q4, gf e j q1 q2 q3 q4]⟩
        · rw [setH_n (by omega), yf 71 _ (by decide) (by decide) (by omega)]
          exact g71 l b q1 q2
        · by_cases e : b = a
          · subst e
            rw [setH_s]
          · rw [setH_n (by omega), yf 71 _ (by decide) (by decide) (by omega)]
            exact gp b (by omega)
        · rw [setH_o (by decide), y34, w1]
        · rw [setH_o (by decide), y34, w18]
        · rw [setH_o (by decide), y34, w24]
        · rw [setH_o (by decide), y34, w11]
        · exact RLp_cg (fun j => Or.inr (by rw [setH_o (by decide), y34])) vW
    · obtain ⟨g71, gp, gW, gf⟩ := hg
      rw [OK_some, LQ_l]
      refine ⟨hpN, by omega, g, rfl, fun l b q1 q2 => ?_, gW, gf⟩
      by_cases e : l = p
      · subst e
        exact gp b q2
      · exact g71 l b (by omega) q2
