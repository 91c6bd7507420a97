theorem shared_b {x m : Hp} (R : RS x m) (C : RC x m) {a b k c : Int} (ha : I32 a) (hb : I32 b) (hk : I32 k) (hc : I32 c) : OK (X11_shared a b k c x) (fun z => OK (X12_shared a b k c m) (fun w => z.1 = w.1 ∧ RC z.2 m ∧ (∀ e j, ¬ cXK e → z.2 e j = x e j) ∧ ∀ e j, ¬ cMY e j → ¬ cMH e j → w.2 e j = m e j)) := by
  obtain ⟨⟨⟨-, e33, e39, e311⟩, -⟩, S⟩ := id R
  obtain ⟨⟨-, b3, b4, b5⟩, -⟩ := id S
  unfold X11_shared X12_shared
  simp only [x_isM (h := x) (by omega) (by omega), m_isM (h := m) (by omega) (by omega), e39, I32_w ha, I32_w hb, I32_w hc, x_left R hk, m_left S hk, lies_in (a := c) (b := 0) (c := 5) (by have := hc.1; omega) (by have := hc.2; omega) (by omega) (by omega) (by omega) (by omega), Option.bind_some]
  have triv : ∀ (c : Prop), (-1 : Int) = -1 ∧ RC x m ∧ (∀ e j, ¬ cXK e → x e j = x e j) ∧ ∀ e j, ¬ cMY e j → ¬ cMH e j → m e j = m e j := fun _ => ⟨rfl, C, fun _ _ _ => rfl, fun _ _ _ _ => rfl⟩
  by_cases d1 : 0 ≤ a ∧ a < m 150 4
  · by_cases d2 : 0 ≤ b ∧ b < m 150 4
    · simp only [if_pos d1, if_pos d2, q1, if_false]
      by_cases d3 : a = b
      · rw [if_pos d3, if_pos d3, OK_some, OK_some]
        exact triv True
      · rw [if_neg d3, if_neg d3]
        by_cases d4 : 0 ≤ k ∧ k < m 150 3 ∧ 0 < m 156 k.toNat
        · simp only [if_pos d4, q1, qn1, if_true, if_false]
          obtain ⟨i, rfl⟩ := Int.eq_ofNat_of_zero_le d1.1
          obtain ⟨j, rfl⟩ := Int.eq_ofNat_of_zero_le d2.1
          obtain ⟨k, rfl, hk, hk3, hl⟩ := left_k S d4
          obtain ⟨n, hn⟩ := Int.eq_ofNat_of_zero_le b5.1
          rw [OK_bindE]
          refine OK_mono (compare_s R C (a := i) (b := j) hn (by omega) (by omega) hk hl) (fun z hz => ?_)
          obtain ⟨⟨⟨p4, p5, p6, p7⟩, pa, pb⟩, zC, zf⟩ := hz
          unfold X2_bothHave X2_slipsOfOne X2_slipsOfOther X2_alike X4_above X4_below
          simp only [Option.bind_some]
          by_cases d5 : 0 ≤ c ∧ c ≤ 5
          · simp only [if_pos d5, qn1, if_true]
            obtain ⟨w, ew, L, wf⟩ := OK_ex (lays_s R hn hk hl)
            obtain ⟨f1, f2, f3, f4, f5⟩ := lyW_facts R hn hk hl wf
            obtain ⟨N, hN⟩ := Int.eq_ofNat_of_zero_le f3.1
            obtain ⟨v, ev, ⟨v4, v5, v6, v7⟩, ⟨va, vb⟩, vf⟩ := OK_ex (shares_s (a := i) (b := j) (k := k) (n := N) L f1 (by omega) (by omega) hk f2 hN (by omega) (fun wr p hp => f4 wr p (by omega)))
            have eww : (fun p => w 157 (40 * k + p)) = (fun p => m 157 (40 * k + p)) := funext fun p => f5 _
            rw [eww] at v5 v6 v7 va vb
            have sl := sh_le (fun p => m 157 (40 * k + p)) (hwF m k i n) (hwF m k j n) 40
            have l40 := cnBt_le (shN (hwF m k i n) (hwF m k j n)) 40
            generalize cnBt (shN (hwF m k i n) (hwF m k j n)) 40 = cn at *
            generalize cnBt (shA (fun p => m 157 (40 * k + p)) (hwF m k i n) (hwF m k j n)) 40 = ca at *
            generalize cnBt (shB (fun p => m 157 (40 * k + p)) (hwF m k i n) (hwF m k j n)) 40 = cb at *
            generalize cnBt (shC (fun p => m 157 (40 * k + p)) (hwF m k i n) (hwF m k j n)) 40 = cc at *
            have hs := hyS_b (n := cn) (a := ca) (b := cb) (c := cc) l40 sl.1 (cb + 1 - cc)
            have hm : (cb + 1 - cc) * 1099511627776 ≤ 41 * 1099511627776 := Nat.mul_le_mul (by omega) (Nat.le_refl _)
            have hb1 := (chN_b (n := cn) (k := cb) l40).2
            have hb2 := chN_p (n := cn) (k := cb) l40 sl.2.1
            generalize hyS cn ca cb cc (cb + 1 - cc) = A at *
            generalize chN cn cb = B at *
            have gp : 0 < Nat.gcd A B := Nat.gcd_pos_of_pos_right A hb2
            have gl : Nat.gcd A B ≤ B := Nat.le_of_dvd hb2 (Nat.gcd_dvd_right A B)
            have wn : w64 ((Nat.gcd A B : Nat) : Int) ≠ 0 := by
              rw [w64_id (by omega) (by omega)]
              omega
            have ff : ∀ e q, ¬ cMY e q → ¬ cMH e q → v e q = m e q := fun e q h1 h2 => by rw [vf e q h2, wf e q h1]
            rw [ew, Option.bind_some, ev, Option.bind_some, va, vb, divisor_s (by omega) (by omega), Option.bind_some, v4, v5, v6, v7, p4, p5, p6, p7, pa, pb]
            have c6 : c = 0 ∨ c = 1 ∨ c = 2 ∨ c = 3 ∨ c = 4 ∨ c = 5 := by omega
            rcases c6 with rfl | rfl | rfl | rfl | rfl | rfl
            · refine OK_gd rfl ?_
              rw [OK_some]
              refine OK_gn (fun q => q rfl) ?_
              rw [OK_some]
              exact ⟨rfl, zC, zf, ff⟩
            · refine OK_gn (by decide) (OK_gd rfl ?_)
              rw [OK_some]
              refine OK_gd (by decide) (OK_gn (fun q => q rfl) ?_)
              rw [OK_some]
              exact ⟨rfl, zC, zf, ff⟩
            · refine OK_gn (by decide) (OK_gn (by decide) (OK_gd rfl ?_))
              rw [OK_some]
              refine OK_gd (by decide) (OK_gd (by decide) (OK_gn (fun q => q rfl) ?_))
              rw [OK_some]
              exact ⟨rfl, zC, zf, ff⟩
            · refine OK_gn (by decide) (OK_gn (by decide) (OK_gn (by decide) (OK_gd rfl ?_)))
              rw [OK_some]
              refine OK_gd (by decide) (OK_gd (by decide) (OK_gd (by decide) (OK_gn (fun q => q rfl) ?_)))
              rw [OK_some]
              exact ⟨rfl, zC, zf, ff⟩
            · refine OK_gn (by decide) (OK_gn (by decide) (OK_gn (by decide) (OK_gn (by decide) (OK_gd rfl ?_))))
              rw [OK_some]
              refine OK_gd (by decide) (OK_gd (by decide) (OK_gd (by decide) (OK_gd (by decide) (OK_gn (fun q => q rfl) (OK_gd wn ?_)))))
              rw [OK_some, div64_nn (by omega) (by omega) (by omega) (by omega)]
              exact ⟨by dsimp only; rw [Int.natCast_ediv], zC, zf, ff⟩
            · refine OK_gn (by decide) (OK_gn (by decide) (OK_gn (by decide) (OK_gn (by decide) (OK_gn (by decide) (OK_gd rfl ?_)))))
              rw [OK_some]
              refine OK_gd (by decide) (OK_gd (by decide) (OK_gd (by decide) (OK_gd (by decide) (OK_gd (by decide) (OK_gd wn ?_)))))
              rw [OK_some, div64_nn (by omega) (by omega) (by omega) (by omega)]
              exact ⟨by dsimp only; rw [Int.natCast_ediv], zC, zf, ff⟩
          · simp only [if_neg d5, qn0, if_false]
            refine OK_gn (by omega) (OK_gn (by omega) (OK_gn (by omega) (OK_gn (by omega) (OK_gn (by omega) (OK_gn (by omega) ?_)))))
            rw [OK_some, OK_some]
            exact ⟨rfl, zC, zf, fun _ _ _ _ => rfl⟩
        · simp only [if_neg d4, q0, qn0, if_true, if_false]
          exact triv True
    · simp only [if_pos d1, if_neg d2, q0, q1, if_true, if_false]
      exact triv True
  · simp only [if_neg d1, q0, if_true]
    exact triv True
