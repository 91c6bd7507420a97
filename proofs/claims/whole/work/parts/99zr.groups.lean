/-! GROUPS: the other side -/
theorem hwF_cg {m h : Hp} (e7 : h 157 = m 157) (e0 : h 160 = m 160) (e1 : h 161 = m 161) (e4 : h 164 = m 164) (e5 : h 165 = m 165) (hne : ∀ i k, neM h i k = neM m i k) (k wr : Nat) : ∀ n, hwF h k wr n = hwF m k wr n := by
  intro n
  induction n with
  | zero => rfl
  | succ n ih =>
    have eo : otW h n k = otW m n k := by
      unfold otW
      rw [e7, e4, e5, hne]
    have eq : qlB h n k = qlB m n k := by
      unfold qlB
      rw [eo, hne, e4]
    rw [hwF_s, hwF_s, ih, eq, hne, e0, e1, e4, e5]
def tiF (m : Hp) (n t nw k x i : Nat) : Bool := decide (i = x) || (decide (i < nw) && tyF m n t x i k)
def cMG (e j : Nat) : Prop := cMY e j ∨ cMH e j ∨ e = 186
theorem RS_cMG {x m h : Hp} (hw : ∀ a j, ¬ cMG a j → h a j = m a j) (R : RS x m) : RS x h := RS_cg (fun _ _ _ => rfl) (fun a j q => hw a j (by unfold cMS at q; unfold cMG cMY cMH; omega)) R
theorem tied0_s {m : Hp} {a t : Int} {nw : Nat} (hnw : m 150 4 = (nw : Int)) (h8 : nw ≤ 8) : OK (iter (X12_groups_l14 a t) FU (0, m)) (fun h => (∀ x, x < nw → BSt (h 186 x) (fun i => decide (i = x))) ∧ ∀ e j, e ≠ 186 → h e j = m e j) := by
  refine iter_up (fun p s => p ≤ nw ∧ ∃ h : Hp, s = ((p : Int), h) ∧ (∀ x, x < p → BSt (h 186 x) (fun i => decide (i = x))) ∧ ∀ e j, e ≠ 186 → h e j = m e j) _ nw (by omega) (fun p s hp hI => ?_) ⟨Nat.zero_le _, m, rfl, fun x hx => by omega, fun _ _ _ => rfl⟩
  obtain ⟨-, h, rfl, h1, h2⟩ := hI
  unfold X12_groups_l14
  dsimp only
  simp only [h2 150 4 (by decide), hnw, w32_id (z := (nw : Int)) (by omega) (by omega), w32_id (z := (p : Int)) (by omega) (by omega)]
  refine OK_if (fun c => ?_) (fun c => ?_)
  · rw [OK_some, LQ_r]
    exact ⟨fun x hx => h1 x (by omega), h2⟩
  · refine OK_gi (by omega) (by omega) (by omega) ?_
    rw [OK_some, LQ_l, tn]
    refine ⟨by omega, by omega, _, rfl, fun x hx => ?_, fun e j q => by rw [setH_o q, h2 e j q]⟩
    by_cases q : x = p
    · subst q
      rw [setH_s]
      exact BSt_sh (by omega)
    · rw [setH_n q]
      exact h1 x (by omega)
theorem tiedk_s {m h : Hp} {a : Int} {n t nw k N : Nat} (hn40 : True) (L : LYw (fun wr => hwF m k wr n) h) (f1 : ∀ wr pl, -1 ≤ hwF m k wr n pl ∧ hwF m k wr n pl ≤ 63) (h7 : ∀ j, 0 ≤ h 157 j ∧ h 157 j ≤ 63) (h6 : h 156 k = (N : Int)) (hN : N ≤ 40) (hz : ∀ wr (p : Nat), N ≤ p → hwF m k wr n p = -1) (e7 : ∀ p, h 157 p = m 157 p) (hk : k < 8) (hl : 1 ≤ m 156 k) (ht : t ≤ 1000) (hnw : h 150 4 = (nw : Int)) (h8 : nw ≤ 8) (H : ∀ x, x < nw → BSt (h 186 x) (tiF m n t nw k x)) : OK (iter (X12_groups_l43 a (t : Int) (k : Int)) FU (0, h)) (fun g => (∀ x, x < nw → BSt (g 186 x) (tiF m n t nw (k + 1) x)) ∧ ∀ e j, ¬ cMH e j → e ≠ 186 → g e j = h e j) := by
  refine iter_up (fun x s => x ≤ nw ∧ ∃ g : Hp, s = ((x : Int), g) ∧ (∀ y, y < x → BSt (g 186 y) (tiF m n t nw (k + 1) y)) ∧ (∀ y, x ≤ y → y < nw → BSt (g 186 y) (tiF m n t nw k y)) ∧ ∀ e j, ¬ cMH e j → e ≠ 186 → g e j = h e j) _ nw (by omega) (fun x s hx hI => ?_) ⟨Nat.zero_le _, h, rfl, fun y hy => by omega, fun y _ hy => H y hy, fun _ _ _ _ => rfl⟩
  obtain ⟨-, g, rfl, g1, g2, gf⟩ := hI
  unfold X12_groups_l43
  dsimp only
  simp only [gf 150 4 (by unfold cMH; omega) (by decide), hnw, w32_id (z := (nw : Int)) (by omega) (by omega), w32_id (z := (x : Int)) (by omega) (by omega)]
  refine OK_if (fun c => ?_) (fun c => ?_)
  · rw [OK_some, LQ_r]
    exact ⟨fun y hy => g1 y (by omega), gf⟩
  · have hxn : x < nw := by omega
    rw [OK_bindE]
    refine OK_mono (iter_up (fun y s => y ≤ nw ∧ ∃ u : Hp, s = ((y : Int), u) ∧ BSt (u 186 x) (fun i => tiF m n t nw k x i || (decide (i < y) && decide (i ≠ x) && tkB (fun p => m 157 (40 * k + p)) (hwF m k x n) (hwF m k i n) t)) ∧ (∀ q, q ≠ x → u 186 q = g 186 q) ∧ ∀ e j, ¬ cMH e j → e ≠ 186 → u e j = h e j) (fun u => BSt (u 186 x) (fun i => tiF m n t nw k x i || (decide (i < nw) && decide (i ≠ x) && tkB (fun p => m 157 (40 * k + p)) (hwF m k x n) (hwF m k i n) t)) ∧ (∀ q, q ≠ x → u 186 q = g 186 q) ∧ ∀ e j, ¬ cMH e j → e ≠ 186 → u e j = h e j) nw (by omega) (fun y s hy hI => ?_) ⟨Nat.zero_le _, g, rfl, BSt_cg (fun i => by simp) (g2 x (Nat.le_refl _) hxn), fun _ _ => rfl, gf⟩) (fun u hu => ?_)
    · obtain ⟨-, u, rfl, u1, u2, uf⟩ := hI
      unfold X12_groups_l49 X12_groups_j86
      dsimp only
      simp only [uf 150 4 (by unfold cMH; omega) (by decide), hnw, w32_id (z := (nw : Int)) (by omega) (by omega), w32_id (z := (y : Int)) (by omega) (by omega), w32_id (z := (x : Int)) (by omega) (by omega)]
      refine OK_if (fun d => ?_) (fun d => ?_)
      · rw [OK_some, LQ_r]
        have : y = nw := by omega
        subst this
        exact ⟨u1, u2, uf⟩
      · have hyn : y < nw := by omega
        have skip : ∀ v : Hp, (decide (y ≠ x) && tkB (fun p => m 157 (40 * k + p)) (hwF m k x n) (hwF m k y n) t) = false → (∀ q, v 186 q = u 186 q) → (∀ e j, ¬ cMH e j → e ≠ 186 → v e j = h e j) → LQ (fun (s' : Int × Hp) => y < nw ∧ (y + 1 ≤ nw ∧ ∃ u : Hp, s' = (((y + 1 : Nat) : Int), u) ∧ BSt (u 186 x) (fun i => tiF m n t nw k x i || (decide (i < y + 1) && decide (i ≠ x) && tkB (fun p => m 157 (40 * k + p)) (hwF m k x n) (hwF m k i n) t)) ∧ (∀ q, q ≠ x → u 186 q = g 186 q) ∧ ∀ e j, ¬ cMH e j → e ≠ 186 → u e j = h e j)) (fun (u : Hp) => BSt (u 186 x) (fun i => tiF m n t nw k x i || (decide (i < nw) && decide (i ≠ x) && tkB (fun p => m 157 (40 * k + p)) (hwF m k x n) (hwF m k i n) t)) ∧ (∀ q, q ≠ x → u 186 q = g 186 q) ∧ ∀ e j, ¬ cMH e j → e ≠ 186 → u e j = h e j) (Sum.inl ((y : Int) + 1, v)) := by
          intro v hq v1 vf
          rw [LQ_l]
          refine ⟨by omega, by omega, v, rfl, ?_, fun q hq2 => by rw [v1, u2 q hq2], vf⟩
          rw [v1]
          refine BSt_cg (fun i => ?_) u1
          by_cases e : i = y
          · subst e
            rw [Bool.and_assoc, hq, Bool.and_false, Bool.and_assoc, hq, Bool.and_false]
          · have : (i < y) ↔ (i < y + 1) := by omega
            simp only [this]
        refine OK_if (fun e => ?_) (fun e => ?_)
        · have exy : y ≠ x := fun q => e (by rw [q])
          have eww : (fun p => u 157 (40 * k + p)) = (fun p => m 157 (40 * k + p)) := funext fun p => by rw [uf 157 _ (by unfold cMH; omega) (by decide), e7]
          rw [OK_bindE]
          refine OK_mono (shares_s (W := fun wr => hwF m k wr n) (h := u) (a := x) (b := y) (k := k) (n := N) (LYw_cg (fun j => uf 185 j (by unfold cMH; omega) (by decide)) L) f1 (by omega) (by omega) hk (fun j => by rw [uf 157 j (by unfold cMH; omega) (by decide)]; exact h7 j) (by rw [uf 156 k (by unfold cMH; omega) (by decide), h6]) hN hz) (fun v hv => ?_)
          rw [eww] at hv
          obtain ⟨⟨v4, v5, v6, v7⟩, ⟨va, vb⟩, vf⟩ := hv
          have v1 : ∀ q, v 186 q = u 186 q := fun q => vf 186 q (by unfold cMH; omega)
          have vh : ∀ e j, ¬ cMH e j → e ≠ 186 → v e j = h e j := fun e j q1 q2 => by rw [vf e j q1, uf e j q1 q2]
          have sl := sh_le (fun p => m 157 (40 * k + p)) (hwF m k x n) (hwF m k y n) 40
          have l40 := cnBt_le (shN (hwF m k x n) (hwF m k y n)) 40
          have tkE : tkB (fun p => m 157 (40 * k + p)) (hwF m k x n) (hwF m k y n) t = decide (0 < cnBt (shC (fun p => m 157 (40 * k + p)) (hwF m k x n) (hwF m k y n)) 40 ∧ hyS (cnBt (shN (hwF m k x n) (hwF m k y n)) 40) (cnBt (shA (fun p => m 157 (40 * k + p)) (hwF m k x n) (hwF m k y n)) 40) (cnBt (shB (fun p => m 157 (40 * k + p)) (hwF m k x n) (hwF m k y n)) 40) (cnBt (shC (fun p => m 157 (40 * k + p)) (hwF m k x n) (hwF m k y n)) 40) (cnBt (shB (fun p => m 157 (40 * k + p)) (hwF m k x n) (hwF m k y n)) 40 + 1 - cnBt (shC (fun p => m 157 (40 * k + p)) (hwF m k x n) (hwF m k y n)) 40) * 1000 ≤ t * chN (cnBt (shN (hwF m k x n) (hwF m k y n)) 40) (cnBt (shB (fun p => m 157 (40 * k + p)) (hwF m k x n) (hwF m k y n)) 40)) := rfl
          generalize hT : tkB (fun p => m 157 (40 * k + p)) (hwF m k x n) (hwF m k y n) t = tk at tkE skip
          generalize cnBt (shN (hwF m k x n) (hwF m k y n)) 40 = cn at v4 va vb sl l40 tkE
          generalize cnBt (shA (fun p => m 157 (40 * k + p)) (hwF m k x n) (hwF m k y n)) 40 = ca at v5 va vb sl tkE
          generalize cnBt (shB (fun p => m 157 (40 * k + p)) (hwF m k x n) (hwF m k y n)) 40 = cb at v6 va vb sl tkE
          generalize cnBt (shC (fun p => m 157 (40 * k + p)) (hwF m k x n) (hwF m k y n)) 40 = cc at v7 va vb sl tkE
          have hs := hyS_b (n := cn) (a := ca) (b := cb) (c := cc) l40 sl.1 (cb + 1 - cc)
          have hm : (cb + 1 - cc) * 1099511627776 ≤ 41 * 1099511627776 := Nat.mul_le_mul (by omega) (Nat.le_refl _)
          have hb1 := (chN_b (n := cn) (k := cb) l40).2
          generalize hyS cn ca cb cc (cb + 1 - cc) = A at hs va tkE
          generalize chN cn cb = B at hb1 vb tkE
          have l : t * B ≤ 1000 * 137846528820 := Nat.mul_le_mul ht hb1
          have cg := cmp_gt ((A : Int) * 1000) ((t * B : Nat) : Int)
          rw [w64_id (z := (A : Int) * 1000) (by omega) (by omega), w64_id (z := ((t * B : Nat) : Int)) (by omega) (by omega)] at cg
          simp only [v7, va, vb, w32_id (z := (cc : Int)) (by omega) (by omega), w32_id (z := (t : Int)) (by omega) (by omega)]
          rw [← Int.natCast_mul]
          refine OK_if (fun f => ?_) (fun f => OK_if (fun f2 => ?_) (fun f2 => ?_))
          · rw [OK_some]
            exact skip v (by rw [tkE, decide_eq_false (show ¬ (0 < cc ∧ A * 1000 ≤ t * B) from fun q => by have := q.1; omega), Bool.and_false]) v1 vh
          · rw [OK_some]
            have := cg.mp f2
            exact skip v (by rw [tkE, decide_eq_false (show ¬ (0 < cc ∧ A * 1000 ≤ t * B) from fun q => by have := q.2; omega), Bool.and_false]) v1 vh
          · have hA : A * 1000 ≤ t * B := by
              by_cases z : A * 1000 ≤ t * B
              · exact z
              · exact absurd (cg.mpr (by omega)) f2
            have tkT : tk = true := by
              rw [tkE]
              exact decide_eq_true ⟨by omega, hA⟩
            refine OK_gi (by omega) (by omega) (by omega) (OK_gi (by omega) (by omega) (by omega) ?_)
            rw [tn, OK_some, LQ_l]
            refine ⟨by omega, by omega, _, rfl, ?_, fun q hq2 => by rw [setH_n hq2, v1, u2 q hq2], fun e j q1 q2 => by rw [setH_o q2, vh e j q1 q2]⟩
            rw [setH_s, v1]
            refine BSt_cg (fun i => ?_) (BSt_or u1 (BSt_sh (y := y) (by omega)))
            by_cases q : i = y
            · subst q
              rw [hT, tkT, decide_eq_true (show i = i from rfl), decide_eq_true exy, decide_eq_true (show i < i + 1 by omega)]
              simp
            · have : (i < y) ↔ (i < y + 1) := by omega
              rw [decide_eq_false q, Bool.or_false]
              simp only [this]
        · rw [OK_some]
          have exy : y = x := by omega
          exact skip u (by rw [decide_eq_false (fun q => q exy), Bool.false_and]) (fun _ => rfl) uf
    · obtain ⟨u1, u2, uf⟩ := hu
      rw [OK_some, LQ_l]
      refine ⟨by omega, by omega, u, rfl, fun y hy => ?_, fun y h1 h2 => by rw [u2 y (by omega)]; exact g2 y (by omega) h2, uf⟩
      by_cases q : y = x
      · subst q
        refine BSt_cg (fun i => ?_) u1
        unfold tiF
        rw [tyF_s, decide_eq_true hl, Bool.true_and]
        by_cases e : i = y
        · simp [e]
        · by_cases e2 : i < nw <;> simp [e, e2]
      · rw [u2 y q]
        exact g1 y (by omega)
theorem tied_s {x m : Hp} (R : RS x m) {a : Int} {n t nw nk : Nat} (hn : m 150 5 = (n : Int)) (ht : t ≤ 1000) (hnw : m 150 4 = (nw : Int)) (hnk : m 150 3 = (nk : Int)) {h0 : Hp} (H0 : ∀ x, x < nw → BSt (h0 186 x) (fun i => decide (i = x))) (F0 : ∀ e j, e ≠ 186 → h0 e j = m e j) : OK (iter (X12_groups_l29 a (t : Int)) FU (0, h0)) (fun h => (∀ x, x < nw → BSt (h 186 x) (tiF m n t nw nk x)) ∧ ∀ e j, ¬ cMG e j → h e j = m e j) := by
  obtain ⟨-, S⟩ := id R
  obtain ⟨⟨-, b3, b4, b5⟩, -, ⟨b156, b157, -⟩, -⟩ := id S
  refine iter_up (fun k s => k ≤ nk ∧ ∃ h : Hp, s = ((k : Int), h) ∧ (∀ x, x < nw → BSt (h 186 x) (tiF m n t nw k x)) ∧ ∀ e j, ¬ cMG e j → h e j = m e j) _ nk (by omega) (fun k s hk hI => ?_) ⟨Nat.zero_le _, h0, rfl, fun x hx => BSt_cg (fun i => by unfold tiF; rw [show tyF m n t x i 0 = false from rfl, Bool.and_false, Bool.or_false]) (H0 x hx), fun e j q => F0 e j (fun r => q (Or.inr (Or.inr r)))⟩
  obtain ⟨-, h, rfl, h1, hf⟩ := hI
  have Rh : RS x h := RS_cMG hf R
  unfold X12_groups_l29 X12_groups_j90
  dsimp only
  simp only [hf 150 3 (by unfold cMG cMY cMH; omega), hnk, w32_id (z := (nk : Int)) (by omega) (by omega), w32_id (z := (k : Int)) (by omega) (by omega)]
  refine OK_if (fun c => ?_) (fun c => ?_)
  · rw [OK_some, LQ_r]
    have : k = nk := by omega
    subst this
    exact ⟨h1, hf⟩
  · have hk8 : k < 8 := by omega
    have e156 : h 156 k = m 156 k := hf 156 k (by unfold cMG cMY cMH; omega)
    have bk := b156 k
    rw [m_left Rh.2 ⟨by omega, by omega⟩, OK_bindE, OK_some, tn, e156, hf 150 3 (by unfold cMG cMY cMH; omega)]
    by_cases d : 1 ≤ m 156 k
    · rw [if_pos (show 0 ≤ (k : Int) ∧ (k : Int) < m 150 3 ∧ 0 < m 156 k from ⟨by omega, by omega, by omega⟩)]
      refine OK_gd (by decide) ?_
      have eh : ∀ wr, hwF h k wr n = hwF m k wr n := fun wr => hwF_cg (funext fun j => hf 157 j (by unfold cMG cMY cMH; omega)) (funext fun j => hf 160 j (by unfold cMG cMY cMH; omega)) (funext fun j => hf 161 j (by unfold cMG cMY cMH; omega)) (funext fun j => hf 164 j (by unfold cMG cMY cMH; omega)) (funext fun j => hf 165 j (by unfold cMG cMY cMH; omega)) (fun i k => neM_cg (hf 164 i (by unfold cMG cMY cMH; omega)) (fun p _ => hf 165 _ (by unfold cMG cMY cMH; omega)) (hf 156 k (by unfold cMG cMY cMH; omega)) (fun p _ => hf 157 _ (by unfold cMG cMY cMH; omega))) k wr n
      obtain ⟨w, ew, L, wf⟩ := OK_ex (lays_s Rh (n := n) (k := k) (by rw [hf 150 5 (by unfold cMG cMY cMH; omega), hn]) hk8 (by rw [e156]; exact d))
      have L2 : LYw (fun wr => hwF m k wr n) w := fun wr pl q1 q2 => by rw [L wr pl q1 q2]; dsimp only; rw [eh]
      have f1 : ∀ wr pl, -1 ≤ hwF m k wr n pl ∧ hwF m k wr n pl ≤ 63 := fun wr pl => by
        have := (hwF_bd S (wr := wr) d n (by omega) pl).1
        omega
      obtain ⟨N, hN⟩ := Int.eq_ofNat_of_zero_le bk.1
      have w7 : ∀ p, w 157 p = m 157 p := fun p => by rw [wf 157 p (by unfold cMY; omega), hf 157 p (by unfold cMG cMY cMH; omega)]
      rw [ew, OK_bindE, OK_some, OK_bindE]
      refine OK_mono (tiedk_s (m := m) (h := w) (n := n) (t := t) (nw := nw) (k := k) (N := N) trivial L2 f1 (fun j => by rw [w7]; exact b157 j) (by rw [wf 156 k (by unfold cMY; omega), e156, hN]) (by omega) (fun wr p hp => (hwF_bd S (wr := wr) d n (by omega) p).2 (by omega)) w7 hk8 d ht (by rw [wf 150 4 (by unfold cMY; omega), hf 150 4 (by unfold cMG cMY cMH; omega), hnw]) (by omega) (fun x hx => by rw [wf 186 x (by unfold cMY; omega)]; exact h1 x hx)) (fun g hg => ?_)
      rw [OK_some, LQ_l]
      exact ⟨by omega, by omega, g, rfl, hg.1, fun e j q => by rw [hg.2 e j (fun r => q (Or.inr (Or.inl r))) (fun r => q (Or.inr (Or.inr r))), wf e j (fun r => q (Or.inl r)), hf e j q]⟩
    · rw [if_neg (show ¬ (0 ≤ (k : Int) ∧ (k : Int) < m 150 3 ∧ 0 < m 156 k) from fun q => d (by omega))]
      refine OK_gn (by decide) ?_
      rw [OK_some, LQ_l]
      refine ⟨by omega, by omega, h, rfl, fun x hx => BSt_cg (fun i => ?_) (h1 x hx), hf⟩
      unfold tiF
      rw [tyF_s, decide_eq_false d, Bool.false_and, Bool.or_false]
