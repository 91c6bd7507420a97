/-! CALLS THAT TELL: author, work, writer -/
theorem set_bd {h : Hp} {a j : Nat} {z lo hi : Int} (hb : ∀ i, lo ≤ h a i ∧ h a i ≤ hi) (h1 : lo ≤ z) (h2 : z ≤ hi) : ∀ i, lo ≤ setH h a j z a i ∧ setH h a j z a i ≤ hi := by
  intro i
  unfold setH
  split
  · exact ⟨h1, h2⟩
  · exact hb i
theorem set_eq {x m : Hp} {a b j : Nat} {z : Int} (h : x a = m b) : setH x a j z a = setH m b j z b := by
  funext i
  unfold setH
  by_cases e : i = j
  · rw [if_pos ⟨rfl, e⟩, if_pos ⟨rfl, e⟩]
  · rw [if_neg (fun q => e q.2), if_neg (fun q => e q.2), h]
theorem author_b {x m : Hp} (R : RS x m) {a b : Int} (ha : I32 a) (hb : I32 b) : OK (X11_author a b x) (fun z => OK (X12_author a b m) (fun w => z.1 = w.1 ∧ RS z.2 w.2 ∧ (∀ c, ¬ (3 ≤ c ∧ c ≤ 5) → z.2 c = x c) ∧ (∀ c j, ¬ (c = 150 ∧ j = 2) → c ≠ 152 → c ≠ 153 → w.2 c j = m c j))) := by
  obtain ⟨⟨⟨e30, e33, e39, e311⟩, ⟨e4, e5, e6, e7, e8, e9, e10, e11⟩, ⟨e12, e13, e14, e15, e16⟩, e17, b17⟩, ⟨⟨b2, b3, b4, b5⟩, ⟨c52, c53, c54, c55⟩, c2, c3, c4, ⟨d1, d2, d3⟩⟩⟩ := id R
  obtain ⟨n, en⟩ := Int.eq_ofNat_of_zero_le b2.1
  unfold X11_author X12_author
  rw [within_in (by omega) (by omega) ha.1 ha.2 (by omega) (by omega), within_in (by omega) (by omega) hb.1 hb.2 (by omega) (by omega), I32_w ha, I32_w hb, lies_in (by have := ha.1; omega) (by have := ha.2; omega) (by omega) (by omega) (by omega) (by omega), lies_in (by have := hb.1; omega) (by have := hb.2; omega) (by omega) (by omega) (by omega) (by omega)]
  unfold X7_addAuthor
  rw [e30, en]
  simp (disch := omega) only [w32_id, OK_bindE, OK_some]
  have triv : ∀ (c : Prop), (-1 : Int) = -1 ∧ RS x m ∧ (∀ c, ¬ (3 ≤ c ∧ c ≤ 5) → x c = x c) ∧ (∀ c j, ¬ (c = 150 ∧ j = 2) → c ≠ 152 → c ≠ 153 → m c j = m c j) := fun _ => ⟨rfl, R, fun _ _ => rfl, fun _ _ _ _ _ => rfl⟩
  by_cases ca : 0 ≤ a ∧ a ≤ 999
  · by_cases cb : 1 ≤ b ∧ b ≤ 100
    · simp only [if_pos ca, if_pos cb, q0, q1, qn0, qn1, i10, i00, in10, in00, if_true, if_false, OK_bindE, OK_some, Option.bind_some]
      by_cases cn : n = 8
      · refine OK_gn (by omega) ?_
        refine OK_gd (by omega) ?_
        exact triv True
      · refine OK_gd (by omega) ?_
        have p1 := put_e (a := 4) (n := 8) (v := (n : Int)) (z := a) (h := x) n rfl (by omega) (by omega)
        have p2 := put_e (a := 5) (n := 8) (v := (n : Int)) (z := b) (h := setH x 4 n a) n rfl (by omega) (by omega)
        simp (disch := decide) only [p1, p2, OK_bindE, OK_some, setH_o, e30, en]
        refine OK_gn (by omega) ?_
        refine OK_gi (by omega) (by omega) (by omega) (OK_gi (by omega) (by omega) (by omega) ?_)
        refine ⟨rfl, ?_, fun c hc => by (try dsimp only); rw [setH_o (by omega), setH_o (by omega), setH_o (by omega)], fun c j h1 h2 h3 => by (try dsimp only); rw [setH_f (by omega), setH_f (by omega), setH_f (by omega)]⟩
        unfold RS SB
        simp (disch := decide) only [setH_o, setH_s, setH_n, tn]
        exact ⟨⟨⟨by trivial, e33, e39, e311⟩, ⟨set_eq e4, set_eq e5, e6, e7, e8, e9, e10, e11⟩, ⟨e12, e13, e14, e15, e16⟩, e17, b17⟩, ⟨⟨by omega, b3, b4, b5⟩, ⟨set_bd c52 ca.1 ca.2, set_bd c53 (by omega) cb.2, c54, c55⟩, c2, c3, c4, ⟨d1, fun k hk => by have := d2 k hk; omega, d3⟩⟩⟩
    · simp only [if_pos ca, if_neg cb, q0, q1, qn0, qn1, i10, i00, in10, in00, if_true, if_false, OK_bindE, OK_some, Option.bind_some]
      refine OK_if (fun _ => ?_) (fun _ => ?_) <;> first | exact triv True | (refine ⟨rfl, R, ?_, ?_⟩ <;> intros <;> first | rfl | trivial)
  · simp only [if_neg ca, q0, q1, qn0, qn1, i10, i00, in10, in00, if_true, if_false, OK_bindE, OK_some, Option.bind_some]
    refine OK_if (fun _ => ?_) (fun _ => ?_) <;> first | exact triv True | (refine ⟨rfl, R, ?_, ?_⟩ <;> intros <;> first | rfl | trivial)
theorem writer_b {x m : Hp} (R : RS x m) {a : Int} (ha : I32 a) : OK (X11_writer a x) (fun z => OK (X12_writer a m) (fun w => z.1 = w.1 ∧ RS z.2 w.2 ∧ (∀ c, c ≠ 3 → c ≠ 11 → z.2 c = x c) ∧ (∀ c j, ¬ (c = 150 ∧ j = 4) → c ≠ 159 → w.2 c j = m c j))) := by
  obtain ⟨⟨⟨e30, e33, e39, e311⟩, ⟨e4, e5, e6, e7, e8, e9, e10, e11⟩, ⟨e12, e13, e14, e15, e16⟩, e17, b17⟩, ⟨⟨b2, b3, b4, b5⟩, c1, ⟨c56, c57, c58, c59⟩, c3, c4, ⟨d1, d2, d3⟩⟩⟩ := id R
  obtain ⟨n, en⟩ := Int.eq_ofNat_of_zero_le b4.1
  unfold X11_writer X12_writer
  rw [within_in (by omega) (by omega) ha.1 ha.2 (by omega) (by omega), I32_w ha, lies_in (by have := ha.1; omega) (by have := ha.2; omega) (by omega) (by omega) (by omega) (by omega)]
  unfold X7_addWriter
  rw [e39, en]
  simp (disch := omega) only [w32_id, OK_bindE, OK_some]
  have triv : ∀ (c : Prop), (-1 : Int) = -1 ∧ RS x m ∧ (∀ c, c ≠ 3 → c ≠ 11 → x c = x c) ∧ (∀ c j, ¬ (c = 150 ∧ j = 4) → c ≠ 159 → m c j = m c j) := fun _ => ⟨rfl, R, fun _ _ _ => rfl, fun _ _ _ _ => rfl⟩
  by_cases ca : 0 ≤ a ∧ a ≤ 999
  · simp only [if_pos ca, q0, q1, qn0, qn1, i10, i00, in10, in00, if_true, if_false, OK_bindE, OK_some, Option.bind_some]
    by_cases cn : n = 8
    · refine OK_gn (by omega) ?_
      refine OK_gd (by omega) ?_
      exact triv True
    · refine OK_gd (by omega) ?_
      have p1 := put_e (a := 11) (n := 8) (v := (n : Int)) (z := a) (h := x) n rfl (by omega) (by omega)
      simp (disch := decide) only [p1, OK_bindE, OK_some, setH_o, e39, en]
      refine OK_gn (by omega) ?_
      refine OK_gi (by omega) (by omega) (by omega) ?_
      refine ⟨rfl, ?_, fun c h1 h2 => by (try dsimp only); rw [setH_o (by omega), setH_o (by omega)], fun c j h1 h2 => by (try dsimp only); rw [setH_f (by omega), setH_f (by omega)]⟩
      unfold RS SB
      simp (disch := decide) only [setH_o, setH_s, setH_n, tn]
      exact ⟨⟨⟨e30, e33, by trivial, e311⟩, ⟨e4, e5, e6, e7, e8, e9, e10, set_eq e11⟩, ⟨e12, e13, e14, e15, e16⟩, e17, b17⟩, ⟨⟨b2, b3, by omega, b5⟩, c1, ⟨c56, c57, c58, set_bd c59 ca.1 ca.2⟩, c3, c4, ⟨fun i hi => by have := d1 i hi; omega, d2, d3⟩⟩⟩
  · simp only [if_neg ca, q0, q1, qn0, qn1, i10, i00, in10, in00, if_true, if_false, OK_bindE, OK_some, Option.bind_some]
    refine OK_if (fun _ => ?_) (fun _ => ?_) <;> first | exact triv True | (refine ⟨rfl, R, ?_, ?_⟩ <;> intros <;> first | rfl | trivial)
theorem work_b {x m : Hp} (R : RS x m) {a b : Int} (ha : I32 a) (hb : I32 b) : OK (X11_work a b x) (fun z => OK (X12_work a b m) (fun w => z.1 = w.1 ∧ RS z.2 w.2 ∧ (∀ c, c ≠ 3 → c ≠ 6 → c ≠ 7 → z.2 c = x c) ∧ (∀ c j, ¬ (c = 150 ∧ j = 3) → c ≠ 154 → c ≠ 155 → w.2 c j = m c j))) := by
  obtain ⟨⟨⟨e30, e33, e39, e311⟩, ⟨e4, e5, e6, e7, e8, e9, e10, e11⟩, ⟨e12, e13, e14, e15, e16⟩, e17, b17⟩, ⟨⟨b2, b3, b4, b5⟩, ⟨c52, c53, c54, c55⟩, ⟨c56, c57, c58, c59⟩, c3, c4, ⟨d1, d2, d3⟩⟩⟩ := id R
  obtain ⟨n, en⟩ := Int.eq_ofNat_of_zero_le b3.1
  unfold X11_work X12_work
  rw [x_isA (by omega) (by omega), m_isA (by omega) (by omega), within_in (by omega) (by omega) hb.1 hb.2 (by omega) (by omega), I32_w ha, I32_w hb, lies_in (by have := hb.1; omega) (by have := hb.2; omega) (by omega) (by omega) (by omega) (by omega)]
  unfold X7_addWork
  rw [e33, en, e30]
  simp (disch := omega) only [w32_id, OK_bindE, OK_some]
  have triv : ∀ (c : Prop), (-1 : Int) = -1 ∧ RS x m ∧ (∀ c, c ≠ 3 → c ≠ 6 → c ≠ 7 → x c = x c) ∧ (∀ c j, ¬ (c = 150 ∧ j = 3) → c ≠ 154 → c ≠ 155 → m c j = m c j) := fun _ => ⟨rfl, R, fun _ _ _ _ => rfl, fun _ _ _ _ _ => rfl⟩
  by_cases ca : 0 ≤ a ∧ a < m 150 2
  · by_cases cb : 1 ≤ b ∧ b ≤ 40
    · simp only [if_pos ca, if_pos cb, q0, q1, qn0, qn1, i10, i00, in10, in00, if_true, if_false, OK_bindE, OK_some, Option.bind_some]
      by_cases cn : n = 8
      · refine OK_gn (by omega) ?_
        refine OK_gd (by omega) ?_
        exact triv True
      · refine OK_gd (by omega) ?_
        have p1 := put_e (a := 6) (n := 8) (v := (n : Int)) (z := a) (h := x) n rfl (by omega) (by omega)
        have p2 := put_e (a := 7) (n := 8) (v := (n : Int)) (z := b) (h := setH x 6 n a) n rfl (by omega) (by omega)
        simp (disch := decide) only [p1, p2, OK_bindE, OK_some, setH_o, e33, en]
        refine OK_gn (by omega) ?_
        refine OK_gi (by omega) (by omega) (by omega) (OK_gi (by omega) (by omega) (by omega) ?_)
        refine ⟨rfl, ?_, fun c h1 h2 h3 => by (try dsimp only); rw [setH_o (by omega), setH_o (by omega), setH_o (by omega)], fun c j h1 h2 h3 => by (try dsimp only); rw [setH_f (by omega), setH_f (by omega), setH_f (by omega)]⟩
        unfold RS SB
        simp (disch := decide) only [setH_o, setH_s, setH_n, tn]
        refine ⟨⟨⟨e30, by trivial, e39, e311⟩, ⟨e4, e5, set_eq e6, set_eq e7, e8, e9, e10, e11⟩, ⟨e12, e13, e14, e15, e16⟩, e17, b17⟩, ⟨⟨b2, by omega, b4, b5⟩, ⟨c52, c53, set_bd c54 ca.1 (by omega), set_bd c55 (by omega) cb.2⟩, ⟨c56, c57, c58, c59⟩, c3, c4, ⟨fun i hi => by have := d1 i hi; omega, fun k hk => ?_, fun k hk => d3 k (by omega)⟩⟩⟩
        by_cases e : k = n
        · rw [e, setH_s]
          exact ca.2
        · rw [setH_n e]
          exact d2 k (by omega)
    · simp only [if_pos ca, if_neg cb, q0, q1, qn0, qn1, i10, i00, in10, in00, if_true, if_false, OK_bindE, OK_some, Option.bind_some]
      refine OK_if (fun _ => ?_) (fun _ => ?_) <;> first | exact triv True | (refine ⟨rfl, R, ?_, ?_⟩ <;> intros <;> first | rfl | trivial)
  · simp only [if_neg ca, q0, q1, qn0, qn1, i10, i00, in10, in00, if_true, if_false, OK_bindE, OK_some, Option.bind_some]
    refine OK_if (fun _ => ?_) (fun _ => ?_) <;> first | exact triv True | (refine ⟨rfl, R, ?_, ?_⟩ <;> intros <;> first | rfl | trivial)
