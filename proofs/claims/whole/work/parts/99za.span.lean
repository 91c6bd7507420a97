/-! SPAN -/
def spF (P : Nat → Bool) (w : Int) : Nat → Int
  | 0 => -2
  | n + 1 => if P (n + 1) = true ∧ (spF P w n = -2 ∨ w = 1) then ((n + 1 : Nat) : Int) else spF P w n
theorem spF_s (P : Nat → Bool) (w : Int) (n : Nat) : spF P w (n + 1) = if P (n + 1) = true ∧ (spF P w n = -2 ∨ w = 1) then ((n + 1 : Nat) : Int) else spF P w n := rfl
theorem spF_bd (P : Nat → Bool) (w : Int) : ∀ n, spF P w n = -2 ∨ (1 ≤ spF P w n ∧ spF P w n ≤ (n : Int)) := by
  intro n
  induction n with
  | zero => exact Or.inl rfl
  | succ n ih =>
    rw [spF_s]
    split
    · omega
    · omega
theorem spF_0 {P : Nat → Bool} {w : Int} : ∀ n, (∀ i, 1 ≤ i → i ≤ n → P i = false) → spF P w n = -2 := by
  intro n
  induction n with
  | zero => intro _; rfl
  | succ n ih =>
    intro h
    rw [spF_s, if_neg (fun q => by rw [h (n + 1) (by omega) (by omega)] at q; cases q.1)]
    exact ih (fun i h1 h2 => h i h1 (by omega))
theorem cmp_lt (x y : Int) : (w32 (cmp64 x y) < 0) ↔ w64 x < w64 y := by
  rw [cmp64_eq]
  by_cases h : w64 y < w64 x
  · rw [if_pos h]
    exact ⟨fun q => absurd q (by decide), fun q => by omega⟩
  · rw [if_neg h]
    by_cases g : w64 x = w64 y
    · rw [if_pos g]
      exact ⟨fun q => absurd q (by decide), fun q => by omega⟩
    · rw [if_neg g]
      exact ⟨fun _ => by omega, fun _ => by decide⟩
theorem frac_le {A B t : Nat} (hB : 1 ≤ B) : (t * (B / Nat.gcd A B) ≤ A / Nat.gcd A B * 1000) ↔ (t * B ≤ A * 1000) := by
  have gp : 0 < Nat.gcd A B := Nat.gcd_pos_of_pos_right A hB
  have eA : Nat.gcd A B * (A / Nat.gcd A B) = A := Nat.mul_div_cancel' (Nat.gcd_dvd_left A B)
  have eB : Nat.gcd A B * (B / Nat.gcd A B) = B := Nat.mul_div_cancel' (Nat.gcd_dvd_right A B)
  generalize A / Nat.gcd A B = a at eA ⊢
  generalize B / Nat.gcd A B = b at eB ⊢
  generalize Nat.gcd A B = g at gp eA eB
  subst eA eB
  rw [Nat.mul_left_comm, Nat.mul_assoc g a 1000]
  exact ⟨fun q => Nat.mul_le_mul_left g q, fun q => Nat.le_of_mul_le_mul_left q gp⟩
theorem notBelow_s {t a b : Nat} {h : Hp} (ht : t ≤ 1000) (ha : a ≤ 137846528820) (hb : b ≤ 137846528820) (e0 : h 52 0 = (a : Int)) (e1 : h 52 1 = (b : Int)) : X4_notBelow (t : Int) h = some (if t * b ≤ a * 1000 then 1 else 0) := by
  unfold X4_notBelow
  have l : t * b ≤ 1000 * 137846528820 := Nat.mul_le_mul ht hb
  rw [e0, e1, w32_id (z := (t : Int)) (by omega) (by omega), ← Int.natCast_mul]
  have c := cmp_lt ((a : Int) * 1000) ((t * b : Nat) : Int)
  rw [w64_id (z := (a : Int) * 1000) (by omega) (by omega), w64_id (z := ((t * b : Nat) : Int)) (by omega) (by omega)] at c
  by_cases d : t * b ≤ a * 1000
  · rw [if_neg (fun q => by have := c.mp q; omega), if_pos d]
  · rw [if_pos (c.mpr (by omega)), if_neg d]
def spP (v : Int) (K t : Nat) (n : Nat) : Bool := decide (K + 1 ≤ n ∧ t * dnG v n ≤ upG v K * 1000)
theorem span_b {x m : Hp} (R : RS x m) {a b c : Int} (ha : I32 a) (hb : I32 b) (hc : I32 c) : OK (X11_span a b c x) (fun z => OK (X12_span a b c m) (fun w => z.1 = w ∧ ∀ e j, e ≠ 52 → z.2 e j = x e j)) := by
  obtain ⟨⟨⟨-, e33, -, -⟩, -⟩, S⟩ := id R
  obtain ⟨⟨-, b3, -, -⟩, -⟩ := id S
  unfold X11_span X12_span
  simp only [x_isK (h := x) (by omega) (by omega), m_isK (h := m) (by omega) (by omega), e33, I32_w ha, I32_w hb, I32_w hc, within_in (a := b) (b := 1) (c := 1000) (by omega) (by omega) hb.1 hb.2 (by omega) (by omega), lies_in (a := b) (b := 1) (c := 1000) (by have := hb.1; omega) (by have := hb.2; omega) (by omega) (by omega) (by omega) (by omega), within_in (a := c) (b := 0) (c := 1) (by omega) (by omega) hc.1 hc.2 (by omega) (by omega), lies_in (a := c) (b := 0) (c := 1) (by have := hc.1; omega) (by have := hc.2; omega) (by omega) (by omega) (by omega) (by omega), Option.bind_some]
  by_cases d1 : 0 ≤ a ∧ a < m 150 3
  · by_cases d2 : 1 ≤ b ∧ b ≤ 1000
    · by_cases d3 : 0 ≤ c ∧ c ≤ 1
      · simp only [if_pos d1, if_pos d2, if_pos d3, q1, qn1, if_true, if_false]
        refine OK2_bind (OK2_mono (told_b R ha) (fun z w h => ?_))
        obtain ⟨rfl, hw, hz⟩ := h
        have fu1 : FU = FU - 1 + 1 := by have : 1 < FU := lt_FU (by omega)
                                         omega
        by_cases e0 : uNat z = 0
        · have := (cmp_z z).mpr e0
          rw [if_neg (fun q => q this), OK_bindE]
          refine OK_mono (iter_up (fun p s => s = (-2, 1, x)) (fun r => r = (-2, x)) 0 (by omega) (fun p s hp hI => ?_) rfl) (fun r hr => ?_)
          · subst hI
            unfold X11_span_l26
            dsimp only
            exact OK_gd this (by rw [OK_some, LQ_r])
          · subst hr
            rw [OK_some, OK_some]
            exact ⟨rfl, fun _ _ _ => rfl⟩
        · have hne : ¬ w32 (cmp64 z 0) = 0 := fun q => e0 ((cmp_z z).mp q)
          obtain ⟨K, hK, h1, h2, eg⟩ := great_s hz e0
          obtain ⟨t, rfl⟩ := Int.eq_ofNat_of_zero_le (show 0 ≤ b by omega)
          have cb := cn_bd h2 hK
          have c0 : cnBt (tb z) 64 ≠ 0 := fun q => e0 ((cn_z z).mp q)
          have b1 := (chN_b (n := K) (k := cnBt (tb z) 64 - 1) (by omega)).2
          rw [if_pos hne, eg, Option.bind_some]
          have kx : OK (iter (X11_span_l26 (t : Int) c z) FU (-2, 1, x)) (fun r => r.1 = spF (spP z K t) c 40 ∧ ∀ e j, e ≠ 52 → r.2 e j = x e j) := by
            refine iter_up (fun p s => p ≤ 40 ∧ ∃ h, s = (spF (spP z K t) c p, ((p + 1 : Nat) : Int), h) ∧ ∀ e j, e ≠ 52 → h e j = x e j) _ 40 (by omega) (fun p s hp hI => ?_) ⟨by omega, x, rfl, fun _ _ _ => rfl⟩
            obtain ⟨-, h, rfl, hh⟩ := hI
            unfold X11_span_l26 X11_span_j49 X11_span_j51
            dsimp only
            rw [w32_id (z := ((p + 1 : Nat) : Int)) (by omega) (by omega), show w32 40 = 40 from rfl]
            refine OK_gn hne (OK_if (fun f => ?_) (fun f => ?_))
            · rw [OK_some, LQ_r]
              have : p = 40 := by omega
              subst this
              exact ⟨rfl, hh⟩
            · have hp40 : p < 40 := by omega
              have sb := spF_bd (spP z K t) c p
              rw [ofG_s hK h1 h2 (by omega), OK_bindE, OK_some]
              by_cases g : p + 1 < K + 1
              · have e1 : (setH (setH h 52 0 0) 52 1 1) 52 0 = ((0 : Nat) : Int) := by
                  rw [setH_n (by decide), setH_s]
                  rfl
                have e2 : (setH (setH h 52 0 0) 52 1 1) 52 1 = ((1 : Nat) : Int) := by
                  rw [setH_s]
                  rfl
                rw [if_pos g, notBelow_s (t := t) (a := 0) (b := 1) (by omega) (by omega) (by omega) e1 e2, OK_bindE, OK_some, if_neg (show ¬ t * 1 ≤ 0 * 1000 by omega)]
                refine OK_gd (by decide) ?_
                rw [OK_some, LQ_l]
                exact ⟨hp40, hp40, _, by
                  rw [spF_s, if_neg (fun q => by
                    have := q.1
                    unfold spP at this
                    rw [decide_eq_true_iff] at this
                    omega)]
                  rfl, fun e j he => by rw [setH_o he, setH_o he, hh e j he]⟩
              · have b2 := (chN_b (n := p + 1) (k := cnBt (tb z) 64) (by omega)).2
                have p2 := chN_p (n := p + 1) (k := cnBt (tb z) 64) (by omega) (by omega)
                have e1 : (setH (setH h 52 0 ((upG z K / Nat.gcd (upG z K) (dnG z (p + 1)) : Nat) : Int)) 52 1 ((dnG z (p + 1) / Nat.gcd (upG z K) (dnG z (p + 1)) : Nat) : Int)) 52 0 = ((upG z K / Nat.gcd (upG z K) (dnG z (p + 1)) : Nat) : Int) := by
                  rw [setH_n (by decide), setH_s]
                have e2 : (setH (setH h 52 0 ((upG z K / Nat.gcd (upG z K) (dnG z (p + 1)) : Nat) : Int)) 52 1 ((dnG z (p + 1) / Nat.gcd (upG z K) (dnG z (p + 1)) : Nat) : Int)) 52 1 = ((dnG z (p + 1) / Nat.gcd (upG z K) (dnG z (p + 1)) : Nat) : Int) := by
                  rw [setH_s]
                have l1 : upG z K / Nat.gcd (upG z K) (dnG z (p + 1)) ≤ 137846528820 := Nat.le_trans (Nat.div_le_self _ _) b1
                have l2 : dnG z (p + 1) / Nat.gcd (upG z K) (dnG z (p + 1)) ≤ 137846528820 := Nat.le_trans (Nat.div_le_self _ _) b2
                have fl := frac_le (A := upG z K) (B := dnG z (p + 1)) (t := t) p2
                have eP : spP z K t (p + 1) = decide (t * dnG z (p + 1) ≤ upG z K * 1000) := by
                  unfold spP
                  rw [decide_eq_decide]
                  exact ⟨fun q => q.2, fun q => ⟨by omega, q⟩⟩
                rw [if_neg g, notBelow_s (t := t) (by omega) l1 l2 e1 e2, OK_bindE, OK_some]
                by_cases f2 : t * dnG z (p + 1) ≤ upG z K * 1000
                · rw [if_pos (fl.mpr f2)]
                  rw [decide_eq_true f2] at eP
                  refine OK_gn (by decide) ?_
                  rw [w32_id (z := spF (spP z K t) c p) (by omega) (by omega), show w32 (-2) = -2 from rfl, I32_w hc, show w32 1 = 1 from rfl]
                  refine OK_if (fun q1 => ?_) (fun q1 => OK_if (fun q2 => ?_) (fun q2 => ?_))
                  · rw [OK_some, LQ_l]
                    exact ⟨hp40, hp40, _, by
                      rw [spF_s, if_pos ⟨eP, Or.inl q1⟩]
                      rfl, fun e j he => by rw [setH_o he, setH_o he, hh e j he]⟩
                  · rw [OK_some, LQ_l]
                    exact ⟨hp40, hp40, _, by
                      rw [spF_s, if_neg (fun q => by rcases q.2 with r | r <;> omega)]
                      rfl, fun e j he => by rw [setH_o he, setH_o he, hh e j he]⟩
                  · rw [OK_some, LQ_l]
                    exact ⟨hp40, hp40, _, by
                      rw [spF_s, if_pos ⟨eP, Or.inr (by omega)⟩]
                      rfl, fun e j he => by rw [setH_o he, setH_o he, hh e j he]⟩
                · rw [if_neg (fun q => f2 (fl.mp q))]
                  rw [decide_eq_false f2] at eP
                  refine OK_gd (by decide) ?_
                  rw [OK_some, LQ_l]
                  exact ⟨hp40, hp40, _, by
                    rw [spF_s, if_neg (fun q => by rw [eP] at q; cases q.1)]
                    rfl, fun e j he => by rw [setH_o he, setH_o he, hh e j he]⟩
          have km : OK (iter (X12_span_l35 (t : Int) c z ((K + 1 : Nat) : Int) m) FU (-2, ((K + 1 : Nat) : Int))) (fun r => r = spF (spP z K t) c 40) := by
            refine iter_up (fun p s => K + p ≤ 40 ∧ s = (spF (spP z K t) c (K + p), ((K + p + 1 : Nat) : Int))) _ (40 - K) (by omega) (fun p s hp hI => ?_) ⟨by omega, by
              have e := spF_0 (P := spP z K t) (w := c) K (fun i h3 h4 => by
                unfold spP
                rw [decide_eq_false_iff_not]
                omega)
              exact Prod.ext e.symm rfl⟩
            obtain ⟨-, rfl⟩ := hI
            unfold X12_span_l35 X12_span_j62 X12_span_j64
            dsimp only
            rw [w32_id (z := ((K + p + 1 : Nat) : Int)) (by omega) (by omega), show w32 40 = 40 from rfl]
            refine OK_if (fun f => ?_) (fun f => ?_)
            · rw [OK_some, LQ_r]
              have : K + p = 40 := by omega
              rw [this]
            · have hp40 : K + p < 40 := by omega
              have sb := spF_bd (spP z K t) c (K + p)
              have e1 : ((K + 1 : Nat) : Int) - 1 = (K : Int) := by omega
              have e2 : ((cnBt (tb z) 64 : Nat) : Int) - 1 = ((cnBt (tb z) 64 - 1 : Nat) : Int) := by omega
              have b2 := (chN_b (n := K + p + 1) (k := cnBt (tb z) 64) (by omega)).2
              have eP : spP z K t (K + p + 1) = decide (t * dnG z (K + p + 1) ≤ upG z K * 1000) := by
                unfold spP
                rw [decide_eq_decide]
                exact ⟨fun q => q.2, fun q => ⟨by omega, q⟩⟩
              have l : t * chN (K + p + 1) (cnBt (tb z) 64) ≤ 1000 * 137846528820 := Nat.mul_le_mul (by omega) b2
              have cl := cmp_lt (((chN K (cnBt (tb z) 64 - 1) : Nat) : Int) * 1000) (((t * chN (K + p + 1) (cnBt (tb z) 64) : Nat)) : Int)
              rw [w64_id (z := ((chN K (cnBt (tb z) 64 - 1) : Nat) : Int) * 1000) (by omega) (by omega), w64_id (z := (((t * chN (K + p + 1) (cnBt (tb z) 64) : Nat)) : Int)) (by omega) (by omega)] at cl
              rw [sizeOf_s, OK_bindE, OK_some, e1, e2, choices_s (by omega) (by omega), OK_bindE, OK_some, OK_bindE, OK_some, choices_s (by omega) (by omega), OK_bindE, OK_some, w32_id (z := (t : Int)) (by omega) (by omega), ← Int.natCast_mul]
              refine OK_if (fun f2 => ?_) (fun f2 => ?_)
              · have f3 := cl.mp f2
                rw [OK_some, LQ_l]
                refine ⟨by omega, by omega, ?_⟩
                rw [show K + (p + 1) = K + p + 1 from by omega, spF_s, if_neg (fun q => by
                  rw [eP, decide_eq_true_iff] at q
                  have := q.1
                  unfold dnG upG at this
                  omega)]
                rfl
              · have f3 : t * dnG z (K + p + 1) ≤ upG z K * 1000 := by
                  by_cases g : t * dnG z (K + p + 1) ≤ upG z K * 1000
                  · exact g
                  · exact absurd (cl.mpr (by unfold dnG upG at g; omega)) f2
                rw [decide_eq_true f3] at eP
                rw [w32_id (z := spF (spP z K t) c (K + p)) (by omega) (by omega), I32_w hc, show w32 1 = 1 from rfl]
                refine OK_if (fun q1 => ?_) (fun q1 => OK_if (fun q2 => ?_) (fun q2 => ?_))
                · rw [OK_some, LQ_l]
                  refine ⟨by omega, by omega, ?_⟩
                  rw [show K + (p + 1) = K + p + 1 from by omega, spF_s, if_pos ⟨eP, Or.inr q1⟩]
                  rfl
                · rw [OK_some, LQ_l]
                  refine ⟨by omega, by omega, ?_⟩
                  rw [show K + (p + 1) = K + p + 1 from by omega, spF_s, if_neg (fun q => by rcases q.2 with r | r <;> omega)]
                  rfl
                · rw [OK_some, LQ_l]
                  refine ⟨by omega, by omega, ?_⟩
                  rw [show K + (p + 1) = K + p + 1 from by omega, spF_s, if_pos ⟨eP, Or.inl (by omega)⟩]
                  rfl
          refine OK2_bind (OK_mono kx (fun r hr => OK_mono km (fun s hs => ?_)))
          rw [OK_some, OK_some]
          exact ⟨by rw [hr.1, hs], hr.2⟩
      · simp only [if_pos d1, if_pos d2, if_neg d3, q1, q0, qn0, if_true, if_false]
        exact ⟨rfl, fun _ _ _ => rfl⟩
    · simp only [if_pos d1, if_neg d2, q1, q0, qn0, if_true, if_false]
      exact ⟨rfl, fun _ _ _ => rfl⟩
  · simp only [if_neg d1, q0, if_true]
    exact ⟨rfl, fun _ _ _ => rfl⟩
