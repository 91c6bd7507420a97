/-! MOVES on both sides -/
theorem cn_del {f f' : Nat → Bool} {v : Nat} (hv : f v = true) (h : ∀ i, f' i = (f i && !decide (i = v))) : ∀ j, cnBt f j = cnBt f' j + (if v < j then 1 else 0) := by
  intro j
  induction j with
  | zero => rfl
  | succ j ih =>
    by_cases e : j = v
    · subst e
      have hf : f' j = false := by rw [h, decide_eq_true rfl, Bool.not_true, Bool.and_false]
      rw [cnBt_t hv, cnBt_n hf, ih, if_neg (by omega), if_pos (by omega)]
    · have hf : f' j = f j := by rw [h, decide_eq_false e, Bool.not_false, Bool.and_true]
      cases q : f j with
      | true =>
        rw [cnBt_t q, cnBt_t (by rw [hf, q]), ih]
        by_cases r : v < j
        · rw [if_pos r, if_pos (by omega)]
        · rw [if_neg r, if_neg (by omega)]
      | false =>
        rw [cnBt_n q, cnBt_n (by rw [hf, q]), ih]
        by_cases r : v < j
        · rw [if_pos r, if_pos (by omega)]
        · rw [if_neg r, if_neg (by omega)]
theorem mth_del {f f' : Nat → Bool} {n i a : Nat} (hi : i < cnBt f n) (h : ∀ j, f' j = (f j && !decide (j = mthF f i n))) (ha : a + 1 < cnBt f n) : mthF f' a n = mthF f (skF i a) n := by
  obtain ⟨i1, i2⟩ := mthF_m n hi
  have ic := mthF_c n hi
  have sk : skF i a < cnBt f n := by
    unfold skF
    split <;> omega
  obtain ⟨s1, s2⟩ := mthF_m n sk
  have sc := mthF_c n sk
  have ne : mthF f (skF i a) n ≠ mthF f i n := fun q => skF_ne i a (mthF_j sk hi q)
  have fx : f' (mthF f (skF i a) n) = true := by rw [h, decide_eq_false ne, s1]; rfl
  have del := cn_del i1 h (mthF f (skF i a) n)
  have e : cnBt f' (mthF f (skF i a) n) = a := by
    rw [sc] at del
    by_cases c : mthF f i n < mthF f (skF i a) n
    · have l := (mthF_i (mthF f (skF i a) n) c i1).1
      rw [ic, sc] at l
      rw [if_pos c] at del
      unfold skF at l del ⊢
      split at l
      · omega
      · rw [if_neg (by omega)] at del ⊢
        omega
    · have l := (mthF_i (mthF f i n) (show mthF f (skF i a) n < mthF f i n by omega) s1).1
      rw [ic, sc] at l
      rw [if_neg c] at del
      unfold skF at l del ⊢
      split at l
      · rw [if_pos (by omega)] at del ⊢
        omega
      · omega
  have := (mthF_i n s2 fx).2
  rw [e] at this
  exact this
theorem les_A {m : Hp} {mem mem' : Nat → Nat} {N P i : Nat} (hi : i ≤ N) (h : ∀ a, a < N → mem' a = mem (skF i a)) : aheB m mem' N P = lesA (aheB m mem (N + 1) P) i := by
  have lt : ∀ a, decide (skF i a < N + 1) = decide (a < N) := fun a => by
    by_cases c : a < N
    · rw [decide_eq_true c, decide_eq_true (skF_lt c)]
    · rw [decide_eq_false c, decide_eq_false (fun q => by unfold skF at q; split at q <;> omega)]
  funext a b
  unfold lesA aheB
  rw [lt a, lt b]
  by_cases ha : a < N
  · by_cases hb : b < N
    · have e : pqB m mem' a b = pqB m mem (skF i a) (skF i b) := by
        funext q
        unfold pqB
        rw [h a ha, h b hb]
      rw [e]
    · rw [decide_eq_false hb, Bool.false_and, Bool.false_and]
  · rw [decide_eq_false ha, Bool.false_and, Bool.false_and]
theorem les_G {m : Hp} {mem mem' : Nat → Nat} {N i : Nat} (hi : i ≤ N) (hN : N < 10) (h : ∀ a, a < N → mem' a = mem (skF i a)) : gaV m mem' N = lesG (gaV m mem (N + 1)) i := by
  have lt : ∀ a, skF i a < N + 1 ↔ a < N := fun a => ⟨fun q => by unfold skF at q; split at q <;> omega, fun q => skF_lt q⟩
  funext l a
  unfold lesG gaV
  by_cases c : l < N ∧ a < N
  · rw [if_pos c, if_neg (by omega), if_pos ⟨(lt l).mpr c.1, (lt a).mpr c.2⟩, h l c.1, h a c.2]
  · rw [if_neg c]
    split
    · rfl
    · rw [if_neg (fun q => c ⟨(lt l).mp q.1, (lt a).mp q.2⟩)]
theorem mp_jo {R C : Int × Nat} (hR : -20000 ≤ R.1 ∧ R.1 ≤ 20000) (hC : -20000 ≤ C.1 ∧ C.1 ≤ 20000) : maxI (mpV R) (mpV C) = mpV (joV R C) := by
  have b : ∀ D : Int × Nat, -20000 ≤ D.1 ∧ D.1 ≤ 20000 → -1000000 ≤ mpV D ∧ mpV D ≤ 20000 := fun D hD => by
    unfold mpV
    split <;> omega
  have b1 := b R hR
  have b2 := b C hC
  unfold maxI
  rw [w32_id (by omega) (by omega), w32_id (by omega) (by omega)]
  unfold joV
  by_cases c0 : C.2 = 0
  · have e : mpV C = -1000000 := if_pos c0
    rw [if_pos c0, if_neg (by omega)]
  · have e : mpV C = C.1 := if_neg c0
    rw [if_neg c0]
    by_cases r0 : R.2 = 0
    · have e2 : mpV R = -1000000 := if_pos r0
      rw [if_pos (Or.inl r0), if_pos (by omega)]
    · have e2 : mpV R = R.1 := if_neg r0
      by_cases d : R.1 < C.1
      · rw [if_pos (Or.inr d), if_pos (by omega)]
      · rw [if_neg (show ¬ (R.2 = 0 ∨ R.1 < C.1) from fun q => by rcases q with q | q; exact r0 q; exact d q), if_neg (show ¬ mpV R < mpV C by omega)]
        by_cases f : C.1 = R.1
        · rw [if_pos f, e2]
          unfold mpV
          rw [if_neg (by dsimp only; omega)]
        · rw [if_neg f]
theorem wout_s {N : Nat} {A : Nat → Nat → Bool} {g : Nat → Nat → Int} {h : Hp} (G : okG N A g) (H : grX N A g h) (T : tbX N A g h 1) {i : Nat} (hi : i < N) (hN : 2 ≤ N) : iter (X5_pointsWithout_l17 (i : Int) h) FU ((-1000000), 0) = some (mpV (VV N A g (2 ^ i) 10)) := by
  obtain ⟨hN10, hAN, h10, hg⟩ := id G
  obtain ⟨h5, -, -⟩ := id H
  have s10 := p2_10 hN10
  have pi : 2 ^ i < 2 ^ N := Nat.pow_lt_pow_right (by decide) hi
  have pp : 1 ≤ 2 ^ i := Nat.one_le_two_pow
  have r0 : remN N (2 ^ i) ≠ 0 := by
    have e : remN N 0 = remN N (0 ||| 2 ^ i) + 1 := remN_s hi (Nat.zero_testBit i)
    rw [remN_0, Nat.zero_or] at e
    omega
  have fb := foV_bd (c := cdV N A g (VV N A g) (2 ^ i) 10) (N := N) (fun a ha => cd_bd G ha)
  have key : OK (iter (X5_pointsWithout_l17 (i : Int) h) FU ((-1000000), 0)) (fun z => z = mpV (VV N A g (2 ^ i) 10)) := by
    refine iter_up (fun p st => p ≤ N ∧ st = (mpV (foV (cdV N A g (VV N A g) (2 ^ i) 10) p), (p : Int))) _ N (by omega) (fun p st hp hI => ?_) ⟨Nat.zero_le _, rfl⟩
    obtain ⟨-, rfl⟩ := hI
    unfold X5_pointsWithout_l17
    dsimp only
    simp only [h5, w32_id (z := (N : Int)) (by omega) (by omega), w32_id (z := (p : Int)) (by omega) (by omega)]
    refine OK_if (fun c => ?_) (fun c => ?_)
    · rw [OK_some, LQ_r, VV_s r0, show p = N from by omega]
    · have hpN : p < N := by omega
      obtain ⟨f1, f2, f3⟩ := fb p hp
      obtain ⟨c1, c2, c3⟩ := cd_bd G (s := 2 ^ i) (l := 10) hpN
      rw [shl32_n (by omega), behind_s G H (s := 2 ^ i) (l := 10) (v := -1) pi hpN rfl (Or.inr rfl) (fun q => (T _ p (by have := or2_gt q; omega) (or2_lt pi hpN) hpN (by rw [tb_or2, decide_eq_true rfl, Bool.or_true])).1), OK_bindE, OK_some, OK_some, LQ_l, foV_s, mp_jo ⟨f1, f2⟩ ⟨c1, c2⟩]
      exact ⟨hpN, by omega, rfl⟩
  obtain ⟨z, ez, hz⟩ := OK_ex key
  rw [ez, hz]
theorem moves_b {x m : Hp} (R : RS x m) (X : TX x m 28 8) (K : CKm m) (W : RLp x) {n P : Nat} (O : RO x m n P) (hn : m 150 5 = (n : Int)) {a : Int} (ha : I32 a) : OK (X11_moves a x) (fun z => OK (X12_moves a m) (fun w => z.1 = w.1 ∧ RO z.2 m n P ∧ RLp z.2 ∧ (∀ e j, ¬ cXP e j → z.2 e j = x e j) ∧ ∀ e j, ¬ cMO e j → w.2 e j = m e j)) := by
  obtain ⟨⟨⟨-, e33, e39, e311⟩, -, ⟨-, e13, -⟩, -⟩, S⟩ := id R
  obtain ⟨⟨-, b3, b4, b5⟩, -, -, ⟨-, b161, -⟩, -, ⟨bb, -⟩⟩ := id S
  have triv : (-1000000 : Int) = -1000000 ∧ RO x m n P ∧ RLp x ∧ (∀ e j, ¬ cXP e j → x e j = x e j) ∧ ∀ e j, ¬ cMO e j → m e j = m e j := ⟨rfl, O, W, fun _ _ _ => rfl, fun _ _ _ => rfl⟩
  unfold X11_moves X12_moves
  simp only [m_isB (h := m) (by omega) (by omega), I32_w ha, Option.bind_some]
  by_cases d1 : 0 ≤ a ∧ a < m 150 5
  · rw [if_pos d1]
    simp only [show ¬ w32 1 = 0 by decide, if_false]
    obtain ⟨a, rfl⟩ := Int.eq_ofNat_of_zero_le d1.1
    have c1 := b161 a
    have cb := bb a d1.2
    rw [bitWork_in (h := x) a (by omega) (by omega), OK_bindE, OK_some, e13]
    simp only [x_isK (h := x) (by omega) (by omega), e33, w32_id (z := m 161 a) (by omega) (by omega), show w32 (-1) = -1 from rfl, tn, Option.bind_some]
    by_cases d2 : m 161 a = -1
    · rw [if_neg (show ¬ (0 ≤ m 161 a ∧ m 161 a < m 150 3) by omega)]
      refine OK_gd rfl ?_
      rw [OK_some]
      refine OK_gi (by omega) (by omega) (by omega) ?_
      rw [if_pos d2, OK_some]
      exact triv
    · rw [if_pos (show 0 ≤ m 161 a ∧ m 161 a < m 150 3 by omega)]
      refine OK_gn (by decide) ?_
      obtain ⟨k, ek⟩ := Int.eq_ofNat_of_zero_le (show 0 ≤ m 161 a by omega)
      have hk8 : k < 8 := by omega
      rw [ek, OK_bindE]
      refine OK_mono (solveX_s R X K W O hn hk8) (fun z hz => ?_)
      obtain ⟨z1, zO, ⟨z16, zs, zc⟩, zW, zf⟩ := hz
      obtain ⟨w, ew, wv, wf⟩ := OK_ex (isOrd_s S X K O.1 hn hk8)
      rw [if_pos (inb_t (v := (a : Int)) (n := 40) (by omega) (by omega) (by omega)), if_neg (show ¬ (k : Int) = -1 by omega), if_pos (inb_t (v := (a : Int)) (n := 40) (by omega) (by omega) (by omega)), ew, Option.bind_some]
      rcases z1 with ⟨y, z1⟩ | ⟨y, z1⟩
      · rcases wv with ⟨-, w1, w2, w3, w4, w5, w6, w7⟩ | ⟨q, -⟩
        · have G : okG (orN m n k) (orA m n P k) (orG m n k) := gaV_ok (f := wkB m k) (n := n) S X K y.1.2
          obtain ⟨s1, s2, s3, s4, s5, s6⟩ := solX_N zs y
          have sz := y.1
          have s11 := s1.1
          obtain ⟨w78, -, -⟩ := id w3
          have fa : wkB m k a = true := decide_eq_true ek
          obtain ⟨i1, i2⟩ := mthF_i (f := wkB m k) n (show a < n by omega) fa
          have i1' : cnBt (wkB m k) a < orN m n k := i1
          generalize hi : cnBt (wkB m k) a = i at i1 i2 i1'
          have pl : X5_placeOf (a : Int) z.2 = some (i : Int) := by
            obtain ⟨r, er, hr⟩ := OK_ex (placeOf_s (h := z.2) (N := orN m n k) (i := a) (mem := orM m n k) (v := (a : Int)) rfl (by omega) s11 (by omega) (fun p p1 _ => s5 p p1) (fun p hp => by have := (mthF_m n (f := wkB m k) (p := p) hp).2; unfold orM; omega))
            rw [er]
            rcases hr with ⟨-, r2⟩ | ⟨p, p1, p2, p3, p4⟩
            · exact absurd i2 (r2 i i1' (by omega))
            · have : p = i := mthF_j (f := wkB m k) (n := n) p1 i1 (by rw [i2]; exact p4)
              rw [p3, this]
          rw [z1, w1]
          refine OK_gd (by decide) ?_
          unfold X5_points X5_pointsWithout
          rw [if_pos (show w32 1 ≠ 0 by decide), OK_bindE, OK_some, OK_bindE, pl, OK_bindE, OK_some]
          simp only [s11, w78, w32_id (z := (i : Int)) (by omega) (by omega), w32_id (z := ((orN m n k : Nat) : Int)) (by omega) (by omega), show w32 (-1) = -1 from rfl, show w32 1 = 1 from rfl]
          refine OK_gn (by omega) ?_
          by_cases d3 : ((orN m n k : Nat) : Int) = 1
          · rw [if_neg (fun q => q d3), OK_some, if_neg (fun q => q d3), OK_some, OK_some, s3, w6]
            exact ⟨by dsimp only; omega, zO, zW, zf, wf⟩
          · rw [if_pos d3, if_pos d3, wout_s G s1 s2 i1' (by omega), Option.bind_some, OK_some, OK_some]
            have eN : orN m n k = (orN m n k - 1) + 1 := by omega
            have w161 : w.2 161 a = (k : Int) := by rw [wf 161 a (by unfold cMO; omega), ek]
            refine OK_gi (by omega) (by omega) (by omega) ?_
            rw [w161, OK_bindE]
            have hff : ∀ j, (fun j => wkB m k j && !decide (j = a)) j = decide (m 161 j = (k : Int) ∧ (j : Int) ≠ (a : Int)) := fun j => by
              dsimp only
              unfold wkB
              by_cases q1 : m 161 j = (k : Int)
              · by_cases q2 : j = a
                · rw [decide_eq_true q2, Bool.not_true, Bool.and_false, decide_eq_false (fun r => r.2 (by omega))]
                · rw [decide_eq_false q2, Bool.not_false, Bool.and_true, decide_eq_true q1, decide_eq_true ⟨q1, by omega⟩]
              · rw [decide_eq_false q1, Bool.false_and, decide_eq_false (fun r => q1 r.1)]
            have del := cn_del fa (f' := fun j => wkB m k j && !decide (j = a)) (fun _ => rfl) n
            rw [if_pos (show a < n by omega)] at del
            have del' : cnBt (fun j => wkB m k j && !decide (j = a)) n = orN m n k - 1 := by
              unfold orN
              omega
            refine OK_mono (gatM_s (m := m) (m0 := w.2) (n := n) (P := P) (k := k) (w := (a : Int)) (f := fun j => wkB m k j && !decide (j = a)) S X K wf hn (by omega) ⟨by omega, by omega⟩ hff O.1.1 O.1.2.2.1 (fun q hq => (O.1.2.2.2 q hq).2)) (fun u hu => ?_)
            obtain ⟨u1, uf⟩ := hu
            rw [del'] at u1
            rcases u1 with ⟨u1, u2, u3, u4⟩ | ⟨u1, u2⟩
            · have em : ∀ b, b < orN m n k - 1 → mthF (fun j => wkB m k j && !decide (j = a)) b n = orM m n k (skF i b) := fun b hb => by
                unfold orM
                refine mth_del i1 (fun j => by rw [i2]) ?_
                have : cnBt (wkB m k) n = orN m n k := rfl
                omega
              have eA : aheB m (fun p => mthF (fun j => wkB m k j && !decide (j = a)) p n) (orN m n k - 1) P = lesA (orA m n P k) i := by
                rw [les_A (mem := orM m n k) (i := i) (by omega) em, ← eN]
                rfl
              have eG : gaV m (fun p => mthF (fun j => wkB m k j && !decide (j = a)) p n) (orN m n k - 1) = lesG (orG m n k) i := by
                rw [les_G (mem := orM m n k) (i := i) (by omega) (by omega) em, ← eN]
                rfl
              have G' : okG (orN m n k - 1) (aheB m (fun p => mthF (fun j => wkB m k j && !decide (j = a)) p n) (orN m n k - 1) P) (gaV m (fun p => mthF (fun j => wkB m k j && !decide (j = a)) p n) (orN m n k - 1)) := gaV_ok (f := wkB m k) (n := n) S X K (by omega)
              have h0 := y.2
              unfold orV at h0
              have mv := moves_eq (N := orN m n k - 1) (i := i) (A := orA m n P k) (g := orG m n k) (by omega) (by omega) G.2.2.1 (by rw [← eN]; exact h0)
              rw [← eA, ← eG, ← eN] at mv
              rw [u2]
              refine OK_gn (by decide) ?_
              rw [OK_bindE]
              refine OK_mono (laysM_s G' u4 (by omega)) (fun v hv => ?_)
              obtain ⟨v1, ⟨v2, v3⟩, -, -, vf⟩ := hv
              rw [v1, mv.1, if_neg mv.2]
              refine OK_gn (by decide) ?_
              rw [OK_some, v2, mv.1, w6, s3]
              refine ⟨?_, zO, zW, zf, fun e j q => by dsimp only; rw [vf e j (by unfold cMO at q; omega) (by unfold cMO at q; omega) (by unfold cMO at q; omega), uf e j q]⟩
              dsimp only
              unfold mpV
              rw [if_neg mv.2]
            · omega
        · exact absurd y q
      · rcases wv with ⟨q, -⟩ | ⟨-, w1⟩
        · exact absurd q y
        · rw [z1, w1]
          refine OK_gn (fun q => q rfl) ?_
          rw [OK_some, if_neg (show ¬ w32 0 ≠ 0 from fun q => q rfl), OK_some]
          exact ⟨rfl, zO, zW, zf, wf⟩
  · rw [if_neg d1]
    have e1 : X7_bitWork a x = some (-1) := by
      unfold X7_bitWork
      rw [x_isB (h := x) (by omega) (by omega), e311, I32_w ha, if_neg d1, Option.bind_some, if_pos (show w32 0 = 0 from rfl)]
    rw [e1, OK_bindE, OK_some, x_isK (h := x) (by omega) (by omega), OK_bindE, OK_some, if_neg (show ¬ (0 ≤ w32 (-1) ∧ w32 (-1) < x 3 3) from fun q => absurd q.1 (by decide))]
    refine OK_gd rfl ?_
    rw [OK_some, if_pos (show w32 0 = 0 from rfl), OK_some]
    exact triv
