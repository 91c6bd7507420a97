/-! ORDER and ORDERS on both sides -/
theorem solX_N {x m : Hp} {n P k : Nat} (s : solX x m n P k) (y : orY m n P k) : grX (orN m n k) (orA m n P k) (orG m n k) x ∧ tbX (orN m n k) (orA m n P k) (orG m n k) x 1 ∧ x 66 14 = (orV m n P k).1 ∧ x 66 15 = (((orV m n P k).2 : Nat) : Int) ∧ (∀ p, p < orN m n k → x 69 p = ((orM m n k p : Nat) : Int)) ∧ ∀ i, i < orN m n k → x 74 i = ((lyC (orN m n k) (orA m n P k) (orG m n k) (lyS (orN m n k) (orA m n P k) (orG m n k) i).1 (lyS (orN m n k) (orA m n P k) (orG m n k) i).2 : Nat) : Int) := by
  obtain ⟨s1, s2, s3⟩ := s
  obtain ⟨y1, y2⟩ := y
  rcases s3 with ⟨s4, -⟩ | ⟨s4, s5, s6, s7, s8, s9⟩
  · exact absurd y1 s4
  · refine ⟨s5, s6, ?_, s8, fun p hp => s2 p hp (by omega), s9 y2⟩
    rw [s7]
    unfold mpV
    rw [if_neg y2]
theorem order_b {x m : Hp} (R : RS x m) (X : TX x m 28 8) (K : CKm m) (W : RLp x) {n P : Nat} (O : RO x m n P) (hn : m 150 5 = (n : Int)) {k c : Int} (hk : I32 k) (hc : I32 c) : OK (X11_order k c x) (fun z => OK (X12_order k c m) (fun w => z.1 = w.1 ∧ RO z.2 m n P ∧ RLp z.2 ∧ (∀ e j, ¬ cXP e j → z.2 e j = x e j) ∧ ∀ e j, ¬ cMO e j → w.2 e j = m e j)) := by
  obtain ⟨⟨⟨-, e33, e39, e311⟩, -⟩, S⟩ := id R
  obtain ⟨⟨-, b3, b4, b5⟩, -⟩ := id S
  unfold X11_order X12_order
  simp only [x_isK (h := x) (by omega) (by omega), m_isK (h := m) (by omega) (by omega), e33, I32_w hk, I32_w hc, show w32 (-1) = -1 from rfl, Option.bind_some]
  have triv : (-1000000 : Int) = -1000000 ∧ RO x m n P ∧ RLp x ∧ (∀ e j, ¬ cXP e j → x e j = x e j) ∧ ∀ e j, ¬ cMO e j → m e j = m e j := ⟨rfl, O, W, fun _ _ _ => rfl, fun _ _ _ => rfl⟩
  by_cases d1 : 0 ≤ k ∧ k < m 150 3
  · rw [if_pos d1]
    refine OK_gn (by decide) ?_
    simp only [show w32 1 = 1 from rfl]
    by_cases d2 : c < -1
    · rw [if_pos d2, OK_some, if_neg (by decide), if_pos d2, OK_some]
      exact triv
    · rw [if_neg d2, if_neg (by decide), if_neg d2]
      obtain ⟨k, rfl⟩ := Int.eq_ofNat_of_zero_le d1.1
      have hk8 : k < 8 := by omega
      rw [OK_bindE]
      refine OK_mono (solveX_s R X K W O hn hk8) (fun z hz => ?_)
      obtain ⟨z1, zO, ⟨z16, zs, zc⟩, zW, zf⟩ := hz
      obtain ⟨w, ew, wv, wf⟩ := OK_ex (isOrd_s S X K O.1 hn hk8)
      rw [ew, Option.bind_some]
      rcases z1 with ⟨y, z1⟩ | ⟨y, z1⟩
      · rcases wv with ⟨-, w1, w2, w3, w4, w5, w6, w7⟩ | ⟨q, -⟩
        · have G : okG (orN m n k) (orA m n P k) (orG m n k) := gaV_ok (f := wkB m k) (n := n) S X K y.1.2
          obtain ⟨s1, s2, s3, s4, s5, s6⟩ := solX_N zs y
          have sz := y.1
          have s11 := s1.1
          obtain ⟨w78, -, -⟩ := id w3
          rw [z1, w1]
          refine OK_gd (by decide) ?_
          rw [if_neg (show ¬ w32 1 = 0 by decide)]
          simp only [w78, w32_id (z := ((orN m n k : Nat) : Int)) (by omega) (by omega)]
          by_cases d3 : c = -1
          · rw [if_neg (fun q => q d3)]
            unfold X5_points
            rw [OK_bindE, OK_some, OK_some, if_pos (by omega), if_neg (fun q => q d3), OK_some, s3, w6]
            exact ⟨rfl, zO, zW, zf, wf⟩
          · rw [if_pos d3]
            unfold X5_size
            rw [OK_bindE, OK_some, s11]
            simp only [w32_id (z := ((orN m n k : Nat) : Int)) (by omega) (by omega)]
            by_cases d4 : ((orN m n k : Nat) : Int) ≤ c
            · rw [if_pos d4, OK_some, if_neg (by omega), OK_some]
              exact ⟨rfl, zO, zW, zf, wf⟩
            · rw [if_neg d4, if_pos (by omega), if_pos d3]
              obtain ⟨pl, rfl⟩ := Int.eq_ofNat_of_zero_le (show 0 ≤ c by omega)
              have hpl : pl < orN m n k := by omega
              obtain ⟨k1, k2, k3, k4⟩ := lyS_g G y.2 pl (by omega)
              obtain ⟨c1, -, -, -⟩ := lyC_g G (by omega) k3
              unfold X5_bitAt
              rw [OK_bindE, at_e (a := 74) (n := 10) pl rfl (by omega) (by omega), OK_bindE, OK_some, s6 pl hpl, at_e (a := 69) (n := 10) _ rfl (by omega) (by omega), OK_bindE, OK_some, OK_some, s5 _ c1, OK_some, atPl_s G w3 w4 y.2 w5 w2 hpl, OK_bindE, OK_some, OK_some]
              exact ⟨rfl, zO, zW, zf, wf⟩
        · exact absurd y q
      · rcases wv with ⟨q, -⟩ | ⟨-, w1⟩
        · exact absurd q y
        · rw [z1, w1]
          refine OK_gn (fun q => q rfl) ?_
          rw [OK_some, if_pos (show w32 0 = 0 from rfl), OK_some]
          exact ⟨rfl, zO, zW, zf, wf⟩
  · rw [if_neg d1]
    refine OK_gd rfl ?_
    rw [OK_some, if_pos (show w32 0 = 0 from rfl), OK_some]
    exact triv
theorem orders_b {x m : Hp} (R : RS x m) (X : TX x m 28 8) (K : CKm m) (W : RLp x) {n P : Nat} (O : RO x m n P) (hn : m 150 5 = (n : Int)) {k : Int} (hk : I32 k) : OK (X11_orders k x) (fun z => OK (X12_orders k m) (fun w => z.1 = w.1 ∧ RO z.2 m n P ∧ RLp z.2 ∧ (∀ e j, ¬ cXP e j → z.2 e j = x e j) ∧ ∀ e j, ¬ cMO e j → w.2 e j = m e j)) := by
  obtain ⟨⟨⟨-, e33, e39, e311⟩, -⟩, S⟩ := id R
  obtain ⟨⟨-, b3, b4, b5⟩, -⟩ := id S
  unfold X11_orders X12_orders
  simp only [x_isK (h := x) (by omega) (by omega), m_isK (h := m) (by omega) (by omega), e33, I32_w hk, Option.bind_some]
  by_cases d1 : 0 ≤ k ∧ k < m 150 3
  · rw [if_pos d1]
    refine OK_gd (by decide) ?_
    rw [if_pos (show w32 1 ≠ 0 by decide)]
    obtain ⟨k, rfl⟩ := Int.eq_ofNat_of_zero_le d1.1
    have hk8 : k < 8 := by omega
    rw [OK_bindE]
    refine OK_mono (solveX_s R X K W O hn hk8) (fun z hz => ?_)
    obtain ⟨z1, zO, ⟨z16, zs, zc⟩, zW, zf⟩ := hz
    obtain ⟨w, ew, wv, wf⟩ := OK_ex (isOrd_s S X K O.1 hn hk8)
    rw [ew, Option.bind_some]
    rcases z1 with ⟨y, z1⟩ | ⟨y, z1⟩
    · rcases wv with ⟨-, w1, w2, w3, w4, w5, w6, w7⟩ | ⟨q, -⟩
      · have G : okG (orN m n k) (orA m n P k) (orG m n k) := gaV_ok (f := wkB m k) (n := n) S X K y.1.2
        obtain ⟨s1, s2, s3, s4, s5, s6⟩ := solX_N zs y
        have vb : (orV m n P k).2 ≤ 3628800 := (VV_bd G 0 10).2.2
        rw [z1, w1]
        refine OK_gn (by decide) ?_
        unfold X5_rows
        rw [OK_bindE, OK_some, OK_some, if_neg (show ¬ w32 1 = 0 by decide), OK_some, s4, w7, w32_id (z := (((orV m n P k).2 : Nat) : Int)) (by omega) (by omega)]
        exact ⟨rfl, zO, zW, zf, wf⟩
      · exact absurd y q
    · rcases wv with ⟨q, -⟩ | ⟨-, w1⟩
      · exact absurd q y
      · rw [z1, w1]
        refine OK_gd rfl ?_
        rw [OK_some, if_pos (show w32 0 = 0 from rfl), OK_some]
        exact ⟨rfl, zO, zW, zf, wf⟩
  · rw [if_neg d1]
    refine OK_gn (fun q => q rfl) ?_
    rw [OK_some, if_neg (show ¬ w32 0 ≠ 0 from fun q => q rfl), OK_some]
    exact ⟨rfl, O, W, fun _ _ _ => rfl, fun _ _ _ => rfl⟩
