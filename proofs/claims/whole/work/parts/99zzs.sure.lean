/-! SURE on both sides -/
theorem placeOf_e {h : Hp} {N i a : Nat} {mem : Nat → Nat} (h5 : h 66 5 = (N : Int)) (hN : N ≤ 10) (h9 : ∀ p, p < N → h 69 p = ((mem p : Nat) : Int)) (hm : ∀ p, p < N → mem p < 1000) (hj : ∀ p q, p < N → q < N → mem p = mem q → p = q) (hi : i < N) (e : mem i = a) : X5_placeOf (a : Int) h = some (i : Int) := by
  have ha := hm i hi
  obtain ⟨r, er, hr⟩ := OK_ex (placeOf_s (h := h) (N := N) (i := a) (mem := mem) (v := (a : Int)) rfl (by omega) h5 (by omega) (fun p p1 _ => h9 p p1) hm)
  rw [er]
  rcases hr with ⟨-, r2⟩ | ⟨p, p1, p2, p3, p4⟩
  · exact absurd e (r2 i hi (by omega))
  · have : p = i := hj p i p1 hi (by rw [p4, e])
    rw [p3, this]
theorem ordOf_s {h : Hp} {N i a : Nat} {mem : Nat → Nat} (hN : N ≤ 10) (h9 : ∀ p, p < N → h 189 p = ((mem p : Nat) : Int)) (hm : ∀ p, p < N → mem p < 1000) (hj : ∀ p q, p < N → q < N → mem p = mem q → p = q) (hi : i < N) (e : mem i = a) : X12_orderOf (a : Int) h = some (i : Int) := by
  have ha := hm i hi
  have key : OK (iter (X12_orderOf_l2 (a : Int) h) FU 0) (fun z => z = (i : Int)) := by
    refine iter_up (fun p st => p ≤ i ∧ st = (p : Int)) _ i (by omega) (fun p st hp hI => ?_) ⟨Nat.zero_le _, rfl⟩
    obtain ⟨-, rfl⟩ := hI
    have hmp := hm p (by omega)
    unfold X12_orderOf_l2
    refine OK_gi (by omega) (by omega) (by omega) ?_
    simp only [wtn p rfl (by omega), h9 p (by omega), w32_id (z := ((mem p : Nat) : Int)) (by omega) (by omega), w32_id (z := (a : Int)) (by omega) (by omega)]
    refine OK_if (fun c => ?_) (fun c => ?_)
    · rw [OK_some, LQ_r]
      have : p = i := hj p i (by omega) hi (by omega)
      rw [this]
    · rw [OK_some, LQ_l]
      have : p ≠ i := fun q => c (by rw [q, e])
      exact ⟨by omega, by omega, rfl⟩
  obtain ⟨z, ez, hz⟩ := OK_ex key
  unfold X12_orderOf
  rw [ez, hz]
  rfl
theorem solX_cg {x z m : Hp} {n P k : Nat} (h : ∀ e j, e ≠ 75 → e ≠ 76 → ¬ (e = 66 ∧ j = 17) → z e j = x e j) (s : solX x m n P k) : solX z m n P k := by
  have e5 := h 66 5 (by decide) (by decide) (by omega)
  have e14 := h 66 14 (by decide) (by decide) (by omega)
  have e15 := h 66 15 (by decide) (by decide) (by omega)
  have e69 : z 69 = x 69 := funext fun j => h 69 j (by decide) (by decide) (by omega)
  have e70 : z 70 = x 70 := funext fun j => h 70 j (by decide) (by decide) (by omega)
  have e71 : z 71 = x 71 := funext fun j => h 71 j (by decide) (by decide) (by omega)
  have e72 : z 72 = x 72 := funext fun j => h 72 j (by decide) (by decide) (by omega)
  have e73 : z 73 = x 73 := funext fun j => h 73 j (by decide) (by decide) (by omega)
  have e74 : z 74 = x 74 := funext fun j => h 74 j (by decide) (by decide) (by omega)
  unfold solX grX tbX at s ⊢
  rw [e5, e14, e15, e69, e70, e71, e72, e73, e74]
  exact s
theorem aheadAll_s {h m x : Hp} {n P k i j a b : Nat} (S : SB m) (X : TX x m 28 8) (K : CKm m) (s : solX h m n P k) (c : solC h m n P k) (y : orY m n P k) (hn : n ≤ 40) (hi : i < orN m n k) (hj : j < orN m n k) (ei : orM m n k i = a) (ej : orM m n k j = b) : OK (X5_isAheadInAll (a : Int) (b : Int) h) (fun v => (((∀ t, brP (orN m n k) (orA m n P k) (orG m n k) t j → t.testBit i = true) ∧ v.1 = 1) ∨ (¬ (∀ t, brP (orN m n k) (orA m n P k) (orG m n k) t j → t.testBit i = true) ∧ v.1 = 0)) ∧ solX v.2 m n P k ∧ solC v.2 m n P k ∧ ∀ e j, e ≠ 75 → e ≠ 76 → ¬ (e = 66 ∧ j = 17) → v.2 e j = h e j) := by
  have G : okG (orN m n k) (orA m n P k) (orG m n k) := gaV_ok (f := wkB m k) (n := n) S X K y.1.2
  have sz := y.1
  have mlt : ∀ p, p < orN m n k → orM m n k p < 1000 := fun p hp => by
    have := (mthF_m n (f := wkB m k) (p := p) hp).2
    unfold orM
    omega
  have mj : ∀ p q, p < orN m n k → q < orN m n k → orM m n k p = orM m n k q → p = q := fun p q h1 h2 h3 => mthF_j (f := wkB m k) (n := n) h1 h2 h3
  have j8 : ∀ g : Hp, solX g m n P k → g 66 17 = 1 → (∀ l i, l < orN m n k → i < orN m n k → (w32 (and32 (ushr32 (g 76 l) (i : Int)) 1) = 0 ↔ ∀ t, brP (orN m n k) (orA m n P k) (orG m n k) t l → t.testBit i = true)) → (∀ e j, e ≠ 75 → e ≠ 76 → ¬ (e = 66 ∧ j = 17) → g e j = h e j) → OK (X5_isAheadInAll_j8 (a : Int) (b : Int) g) (fun v => (((∀ t, brP (orN m n k) (orA m n P k) (orG m n k) t j → t.testBit i = true) ∧ v.1 = 1) ∨ (¬ (∀ t, brP (orN m n k) (orA m n P k) (orG m n k) t j → t.testBit i = true) ∧ v.1 = 0)) ∧ solX v.2 m n P k ∧ solC v.2 m n P k ∧ ∀ e j, e ≠ 75 → e ≠ 76 → ¬ (e = 66 ∧ j = 17) → v.2 e j = h e j) := by
    intro g gs g17 gc gf
    obtain ⟨s1, s2, s3, s4, s5, s6⟩ := solX_N gs y
    unfold X5_isAheadInAll_j8
    rw [placeOf_e s1.1 sz.2 s5 mlt mj hj ej, OK_bindE, OK_some, at_e (a := 76) (n := 10) j rfl (by omega) (by omega), OK_bindE, OK_some, placeOf_e s1.1 sz.2 s5 mlt mj hi ei, OK_bindE, OK_some]
    have iff := gc j i hj hi
    refine OK_if (fun d => ?_) (fun d => ?_)
    · rw [OK_some]
      exact ⟨Or.inr ⟨fun q => d (iff.mpr q), rfl⟩, gs, Or.inr ⟨g17, gc⟩, gf⟩
    · rw [OK_some]
      have d0 : w32 (and32 (ushr32 (g 76 j) (i : Int)) 1) = 0 := by
        by_cases q : w32 (and32 (ushr32 (g 76 j) (i : Int)) 1) = 0
        · exact q
        · exact absurd q d
      exact ⟨Or.inl ⟨iff.mp d0, rfl⟩, gs, Or.inr ⟨g17, gc⟩, gf⟩
  unfold X5_isAheadInAll
  rcases c with c0 | ⟨c1, c2⟩
  · rw [c0]
    refine OK_gn (fun q => q rfl) ?_
    obtain ⟨s1, s2, s3, s4, s5, s6⟩ := solX_N s y
    rw [OK_bindE]
    refine OK_mono (cmpA_s G s1 s2 s3 sz.1 y.2) (fun z hz => ?_)
    obtain ⟨z1, z2⟩ := hz
    have zf : ∀ e j, e ≠ 75 → e ≠ 76 → ¬ (e = 66 ∧ j = 17) → (setH z 66 17 1) e j = h e j := fun e j q1 q2 q3 => by rw [setH_f q3, z2 e j q1 q2]
    refine j8 (setH z 66 17 1) (solX_cg zf s) (by rw [setH_s]) (fun l i h1 h2 => ?_) zf
    rw [setH_o (by decide), btA_bit _ (by omega), ← z1 l i h1 h2]
    cases btA (z 76 l) i with
    | true => exact ⟨fun q => absurd q (by decide), fun q => by cases q⟩
    | false => exact ⟨fun _ => rfl, fun _ => rfl⟩
  · rw [c1]
    refine OK_gd (by decide) ?_
    exact j8 h s c1 c2 (fun _ _ _ _ _ => rfl)
theorem sure_b {x m : Hp} (R : RS x m) (X : TX x m 28 8) (K : CKm m) (W : RLp x) {n P : Nat} (O : RO x m n P) (hn : m 150 5 = (n : Int)) {a b : Int} (ha : I32 a) (hb : I32 b) : OK (X11_sure a b x) (fun z => OK (X12_sure a b m) (fun w => z.1 = w.1 ∧ RO z.2 m n P ∧ RLp z.2 ∧ (∀ e j, ¬ cXP e j → z.2 e j = x e j) ∧ ∀ e j, ¬ cMO e j → w.2 e j = m e j)) := by
  obtain ⟨⟨⟨-, e33, e39, e311⟩, -, ⟨-, e13, -⟩, -⟩, S⟩ := id R
  obtain ⟨⟨-, b3, b4, b5⟩, -, -, ⟨-, b161, -⟩, -, ⟨bb, -⟩⟩ := id S
  have triv : (-1 : Int) = -1 ∧ RO x m n P ∧ RLp x ∧ (∀ e j, ¬ cXP e j → x e j = x e j) ∧ ∀ e j, ¬ cMO e j → m e j = m e j := ⟨rfl, O, W, fun _ _ _ => rfl, fun _ _ _ => rfl⟩
  unfold X11_sure X12_sure X7_ofOneWork
  simp only [x_isB (h := x) (by omega) (by omega), m_isB (h := m) (by omega) (by omega), e311, I32_w ha, I32_w hb, Option.bind_some]
  by_cases d1 : 0 ≤ a ∧ a < m 150 5
  · rw [if_pos d1]
    refine OK_gn (by decide) ?_
    rw [if_neg (show ¬ w32 1 = 0 by decide)]
    by_cases d2 : 0 ≤ b ∧ b < m 150 5
    · rw [if_pos d2]
      refine OK_gn (by decide) ?_
      rw [if_neg (show ¬ w32 1 = 0 by decide)]
      by_cases d3 : a = b
      · rw [if_pos d3, OK_some, if_pos d3, OK_some]
        exact triv
      · rw [if_neg d3, if_neg d3]
        obtain ⟨a, rfl⟩ := Int.eq_ofNat_of_zero_le d1.1
        obtain ⟨b, rfl⟩ := Int.eq_ofNat_of_zero_le d2.1
        have c1 := b161 a
        have c2 := b161 b
        have cb := bb a d1.2
        simp only [bitWork_in (h := x) a (by omega) (by omega), bitWork_in (h := x) b (by omega) (by omega), Option.bind_some, e13, w32_id (z := m 161 a) (by omega) (by omega), w32_id (z := m 161 b) (by omega) (by omega), show w32 (-1) = -1 from rfl, tn]
        by_cases d4 : m 161 a = -1
        · rw [if_pos d4, Option.bind_some, if_neg (show ¬ w32 0 ≠ 0 from fun q => q rfl), OK_some, if_pos (inb_t (v := (a : Int)) (n := 40) (by omega) (by omega) (by omega)), if_pos d4, OK_some]
          exact triv
        · rw [if_neg d4]
          rw [if_pos (inb_t (v := (a : Int)) (n := 40) (by omega) (by omega) (by omega)), if_neg d4, if_pos (inb_t (v := (a : Int)) (n := 40) (by omega) (by omega) (by omega)), if_pos (inb_t (v := (b : Int)) (n := 40) (by omega) (by omega) (by omega))]
          by_cases d6 : m 161 a = m 161 b
          · rw [if_neg (show ¬ m 161 a ≠ m 161 b from fun q => q d6), Option.bind_some, if_pos (show w32 1 ≠ 0 by decide), if_pos d6]
            obtain ⟨k, ek⟩ := Int.eq_ofNat_of_zero_le (show 0 ≤ m 161 a by omega)
            have ekb : m 161 b = (k : Int) := by rw [← d6, ek]
            have hk8 : k < 8 := by omega
            have han : a < n := by omega
            have hbn : b < n := by omega
            rw [ek, OK_bindE]
            refine OK_mono (solveX_s R X K W O hn hk8) (fun z hz => ?_)
            obtain ⟨z1, zO, ⟨z16, zs, zc⟩, zW, zf⟩ := hz
            obtain ⟨w, ew, wv, wf⟩ := OK_ex (isOrd_s S X K O.1 hn hk8)
            rw [if_pos (inb_t (v := (a : Int)) (n := 40) (by omega) (by omega) (by omega)), ew, Option.bind_some]
            rcases z1 with ⟨y, z1⟩ | ⟨y, z1⟩
            · rcases wv with ⟨-, w1, w2, w3, w4, w5, w6, w7⟩ | ⟨q, -⟩
              · have G : okG (orN m n k) (orA m n P k) (orG m n k) := gaV_ok (f := wkB m k) (n := n) S X K y.1.2
                have sz := y.1
                have mlt : ∀ p, p < orN m n k → orM m n k p < 1000 := fun p hp => by
                  have := (mthF_m n (f := wkB m k) (p := p) hp).2
                  unfold orM
                  omega
                have mj : ∀ p q, p < orN m n k → q < orN m n k → orM m n k p = orM m n k q → p = q := fun p q h1 h2 h3 => mthF_j (f := wkB m k) (n := n) h1 h2 h3
                obtain ⟨i1, i2⟩ := mthF_i (f := wkB m k) n han (decide_eq_true ek)
                obtain ⟨j1, j2⟩ := mthF_i (f := wkB m k) n hbn (decide_eq_true ekb)
                generalize cnBt (wkB m k) a = i at i1 i2
                generalize cnBt (wkB m k) b = j at j1 j2
                have hi : i < orN m n k := i1
                have hj : j < orN m n k := j1
                have ei : orM m n k i = a := i2
                have ej : orM m n k j = b := j2
                have hij : i ≠ j := fun q => d3 (by rw [← ei, ← ej, q])
                obtain ⟨w78, wA, wG⟩ := id w3
                have G' : okG (orN m n k) (morA (orA m n P k) i j) (orG m n k) := ⟨G.1, fun p q h => by
                  unfold morA at h
                  rw [Bool.or_eq_true, Bool.and_eq_true, decide_eq_true_iff, decide_eq_true_iff] at h
                  rcases h with h | h
                  · exact G.2.1 p q h
                  · rw [h.2]; exact hi, G.2.2⟩
                have H' : grM (orN m n k) (morA (orA m n P k) i j) (orG m n k) (setH w.2 190 j (or32 (w.2 190 j) (shl32 1 (i : Int)))) := by
                  refine ⟨by rw [setH_o (by decide), w78], fun p hp => ?_, fun l q h1 h2 h3 => by rw [setH_o (by decide)]; exact wG l q h1 h2 h3⟩
                  by_cases e : p = j
                  · subst e
                    rw [setH_s]
                    refine BSt_cg (fun q => ?_) (BSt_or (wA p hp) (BSt_sh (y := i) (by omega)))
                    unfold morA
                    rw [decide_eq_true rfl, Bool.true_and]
                  · rw [setH_n e]
                    refine BSt_cg (fun q => ?_) (wA p hp)
                    unfold morA
                    rw [decide_eq_false e, Bool.false_and, Bool.or_false]
                have vb := VV_bd G 0 10
                have vb' := VV_bd G' 0 10
                have seq := sure_eq (A := orA m n P k) (g := orG m n k) (N := orN m n k) hi hij (by omega) y.2
                have eV : VV (orN m n k) (orA m n P k) (orG m n k) 0 10 = orV m n P k := rfl
                rw [eV] at seq vb
                rw [z1, w1]
                refine OK_gd (by decide) ?_
                rw [OK_bindE]
                refine OK_mono (aheadAll_s (x := x) S X K zs zc y (by omega) hi hj ei ej) (fun v hv => ?_)
                obtain ⟨v1, vs, vc, vf⟩ := hv
                have vO : RO v.2 m n P := by
                  obtain ⟨⟨p1, p2, p3, p4⟩, -⟩ := zO
                  exact ⟨⟨p1, by rw [vf 66 2 (by decide) (by decide) (by omega), p2], p3, fun q hq => by rw [vf 67 q (by decide) (by decide) (by omega), vf 68 q (by decide) (by decide) (by omega)]; exact p4 q hq⟩, Or.inr ⟨k, hk8, by rw [vf 66 16 (by decide) (by decide) (by omega), z16], vs, vc⟩⟩
                have vW : RLp v.2 := RLp_cg (fun q => Or.inr (vf 34 q (by decide) (by decide) (by omega))) zW
                have vx : ∀ e j, ¬ cXP e j → v.2 e j = x e j := fun e j q => by
                  rw [vf e j (by unfold cXP at q; omega) (by unfold cXP at q; omega) (by unfold cXP at q; omega), zf e j q]
                have vv : ∀ c : Int, v.1 = c → (c = 0 ∨ c = 1) → OK (if w32 v.1 = 0 then some ((0 : Int), v.2) else some (1, v.2)) (fun z => z = (c, v.2)) := fun c h1 h2 => by
                  rw [h1]
                  rcases h2 with rfl | rfl
                  · exact OK_gd rfl rfl
                  · exact OK_gn (by decide) rfl
                obtain ⟨u, eu, hu⟩ := OK_ex (laysM_s G' H' sz.1)
                obtain ⟨u1, ⟨u2, u3⟩, -, -, uf⟩ := hu
                have uo : ∀ e j, ¬ cMO e j → u.2 e j = m e j := fun e j q => by
                  rw [uf e j (by unfold cMO at q; omega) (by unfold cMO at q; omega) (by unfold cMO at q; omega), setH_o (by unfold cMO at q; omega), wf e j q]
                rw [if_pos (show w32 1 ≠ 0 by decide), ordOf_s sz.2 w2 mlt mj hj ej, Option.bind_some, if_pos (inb_t (v := (j : Int)) (n := 10) (by omega) (by omega) (by omega)), ordOf_s sz.2 w2 mlt mj hi ei, Option.bind_some, if_pos (inb_t (v := (j : Int)) (n := 10) (by omega) (by omega) (by omega))]
                simp only [wtn j rfl (by omega)]
                rw [eu, Option.bind_some]
                simp only [u2, u3, w6, w7, w32_id (z := (VV (orN m n k) (morA (orA m n P k) i j) (orG m n k) 0 10).1) (by omega) (by omega), w32_id (z := (orV m n P k).1) (by omega) (by omega)]
                rcases v1 with ⟨su, v1⟩ | ⟨su, v1⟩
                · obtain ⟨q1, q2, q3⟩ := seq.mp su
                  obtain ⟨y', ey, hy⟩ := OK_ex (vv 1 v1 (Or.inr rfl))
                  rw [ey, hy, OK_some, u1, if_neg q1, if_neg (show ¬ w32 1 = 0 by decide), if_neg (fun q => q q2), q3, cmp64_eq, if_neg (show ¬ w64 (((orV m n P k).2 : Nat) : Int) < w64 (((orV m n P k).2 : Nat) : Int) by omega), if_pos rfl, if_neg (fun q => q rfl), OK_some]
                  exact ⟨rfl, vO, vW, vx, uo⟩
                · obtain ⟨y', ey, hy⟩ := OK_ex (vv 0 v1 (Or.inl rfl))
                  have nse : ¬ ((VV (orN m n k) (morA (orA m n P k) i j) (orG m n k) 0 10).2 ≠ 0 ∧ (VV (orN m n k) (morA (orA m n P k) i j) (orG m n k) 0 10).1 = (orV m n P k).1 ∧ (VV (orN m n k) (morA (orA m n P k) i j) (orG m n k) 0 10).2 = (orV m n P k).2) := fun q => su (seq.mpr q)
                  rw [ey, hy, OK_some, u1]
                  have fin : (0 : Int) = 0 ∧ RO v.2 m n P ∧ RLp v.2 ∧ (∀ e j, ¬ cXP e j → v.2 e j = x e j) ∧ ∀ e j, ¬ cMO e j → u.2 e j = m e j := ⟨rfl, vO, vW, vx, uo⟩
                  by_cases q1 : (VV (orN m n k) (morA (orA m n P k) i j) (orG m n k) 0 10).2 = 0
                  · rw [if_pos q1, if_pos (show w32 0 = 0 from rfl), OK_some]
                    exact fin
                  · rw [if_neg q1, if_neg (show ¬ w32 1 = 0 by decide)]
                    by_cases q2 : (VV (orN m n k) (morA (orA m n P k) i j) (orG m n k) 0 10).1 = (orV m n P k).1
                    · rw [if_neg (fun q => q q2)]
                      have q3 : (VV (orN m n k) (morA (orA m n P k) i j) (orG m n k) 0 10).2 ≠ (orV m n P k).2 := fun q3 => nse ⟨q1, q2, q3⟩
                      have cm : w32 (cmp64 (((VV (orN m n k) (morA (orA m n P k) i j) (orG m n k) 0 10).2 : Nat) : Int) (((orV m n P k).2 : Nat) : Int)) ≠ 0 := by
                        rw [cmp64_eq, w64_id (z := (((orV m n P k).2 : Nat) : Int)) (by omega) (by omega), w64_id (z := (((VV (orN m n k) (morA (orA m n P k) i j) (orG m n k) 0 10).2 : Nat) : Int)) (by omega) (by omega)]
                        split
                        · decide
                        · rw [if_neg (by omega)]
                          decide
                      rw [if_pos cm, OK_some]
                      exact fin
                    · rw [if_pos q2, OK_some]
                      exact fin
              · exact absurd y q
            · rcases wv with ⟨q, -⟩ | ⟨-, w1⟩
              · exact absurd q y
              · rw [z1, w1]
                refine OK_gn (fun q => q rfl) ?_
                rw [OK_some, if_neg (show ¬ w32 0 ≠ 0 from fun q => q rfl), OK_some]
                exact ⟨rfl, zO, zW, zf, wf⟩
          · rw [if_pos (show m 161 a ≠ m 161 b from d6), Option.bind_some, if_neg (show ¬ w32 0 ≠ 0 from fun q => q rfl), OK_some, if_neg d6, OK_some]
            exact triv
    · rw [if_neg d2]
      refine OK_gd rfl ?_
      rw [OK_some, if_pos (show w32 0 = 0 from rfl), OK_some]
      exact triv
  · rw [if_neg d1]
    refine OK_gd rfl ?_
    rw [OK_some, if_pos (show w32 0 = 0 from rfl), OK_some]
    exact triv
