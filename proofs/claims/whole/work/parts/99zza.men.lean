/-! TWO MEN on both sides -/
theorem kdF_cg {m h : Hp} (e5 : h 165 = m 165) (i : Nat) : ∀ p, kdF h i p = kdF m i p := by
  intro p
  induction p with
  | zero => rfl
  | succ p ih =>
    show or64 (kdF h i p) (shl64 1 (h 165 (8 * i + p))) = or64 (kdF m i p) (shl64 1 (m 165 (8 * i + p)))
    rw [ih, e5]
theorem bdF_cg {m h : Hp} (e3 : h 163 = m 163) (e4 : h 164 = m 164) (e5 : h 165 = m 165) (x y : Nat) : bdF h x y = bdF m x y := by
  unfold bdF
  rw [e3, e4, kdF_cg e5, kdF_cg e5]
def cMN (e j : Nat) : Prop := (e = 150 ∧ j = 78) ∨ e = 189
theorem RS_cMN {x m h : Hp} (hw : ∀ a j, ¬ cMN a j → h a j = m a j) (R : RS x m) : RS x h := RS_cg (fun _ _ _ => rfl) (fun a j q => hw a j (by unfold cMS at q; unfold cMN; omega)) R
theorem men_b {x m : Hp} (R : RS x m) {a c : Int} (ha : I32 a) (hc : I32 c) : OK (X11_men a c x) (fun z => OK (X12_men a c m) (fun w => z.1 = w.1 ∧ (∀ e j, ¬ cXM e j → z.2 e j = x e j) ∧ ∀ e j, ¬ cMN e j → w.2 e j = m e j)) := by
  obtain ⟨⟨⟨e30, e33, e39, e311⟩, -⟩, S⟩ := id R
  obtain ⟨⟨b2, b3, b4, b5⟩, ⟨-, -, b154, -⟩, -, ⟨-, b161, -⟩, -, ⟨bb, -⟩⟩ := id S
  unfold X11_men X12_men
  simp only [x_isA (h := x) (by omega) (by omega), m_isA (h := m) (by omega) (by omega), e30, I32_w ha, I32_w hc, within_in (a := c) (b := 0) (c := 1) (by omega) (by omega) hc.1 hc.2 (by omega) (by omega), lies_in (a := c) (b := 0) (c := 1) (by have := hc.1; omega) (by have := hc.2; omega) (by omega) (by omega) (by omega) (by omega), Option.bind_some]
  have triv : ∀ (c : Prop), (-1000000 : Int) = -1000000 ∧ (∀ e j, ¬ cXM e j → x e j = x e j) ∧ ∀ e j, ¬ cMN e j → m e j = m e j := fun _ => ⟨rfl, fun _ _ _ => rfl, fun _ _ _ => rfl⟩
  by_cases d1 : 0 ≤ a ∧ a < m 150 2
  · by_cases d2 : 0 ≤ c ∧ c ≤ 1
    · simp only [if_pos d1, if_pos d2, q1, qn1, if_true, if_false]
      obtain ⟨a, rfl⟩ := Int.eq_ofNat_of_zero_le d1.1
      obtain ⟨n, hn⟩ := Int.eq_ofNat_of_zero_le b5.1
      have cl := cnBt_le (auB m a) n
      -- the other side gathers
      have gM : OK (iter (X12_men_l17 (a : Int) c) FU (0, setH m 150 78 0)) (LQ (fun (h : Hp) => 10 < cnBt (auB m a) n ∧ ∀ e j, ¬ cMN e j → h e j = m e j) (fun (h : Hp) => cnBt (auB m a) n ≤ 10 ∧ h 150 78 = ((cnBt (auB m a) n : Nat) : Int) ∧ (∀ p, p < cnBt (auB m a) n → h 189 p = ((mthF (auB m a) p n : Nat) : Int)) ∧ ∀ e j, ¬ cMN e j → h e j = m e j)) := by
        refine iter_up (fun i st => i ≤ n ∧ cnBt (auB m a) i ≤ 10 ∧ ∃ h : Hp, st = ((i : Int), h) ∧ h 150 78 = ((cnBt (auB m a) i : Nat) : Int) ∧ (∀ p, p < cnBt (auB m a) i → h 189 p = ((mthF (auB m a) p i : Nat) : Int)) ∧ ∀ e j, ¬ cMN e j → h e j = m e j) _ n (by omega) (fun i st hi hI => ?_) ⟨Nat.zero_le _, Nat.zero_le _, _, rfl, by rw [setH_s]; rfl, fun p hp => absurd hp (Nat.not_lt_zero _), fun e j q => by rw [setH_f (fun r => q (Or.inl r))]⟩
        obtain ⟨-, h10, h, rfl, h78, h189, hf⟩ := hI
        unfold X12_men_l17 X12_men_j55
        dsimp only
        simp only [hf 150 5 (by unfold cMN; omega), hn, w32_id (z := (n : Int)) (by omega) (by omega), w32_id (z := (i : Int)) (by omega) (by omega)]
        refine OK_if (fun c => ?_) (fun c => OK_gi (by omega) (by omega) (by omega) ?_)
        · rw [OK_some, LQ_r, LQ_r]
          have : i = n := by omega
          subst this
          exact ⟨h10, h78, h189, hf⟩
        · have c1 := b161 i
          have cb := bb i (by omega)
          have ca := b154 (m 161 i).toNat
          have skip : auB m a i = false → LQ (fun (s' : Int × Hp) => i < n ∧ (i + 1 ≤ n ∧ cnBt (auB m a) (i + 1) ≤ 10 ∧ ∃ h : Hp, s' = (((i + 1 : Nat) : Int), h) ∧ h 150 78 = ((cnBt (auB m a) (i + 1) : Nat) : Int) ∧ (∀ p, p < cnBt (auB m a) (i + 1) → h 189 p = ((mthF (auB m a) p (i + 1) : Nat) : Int)) ∧ ∀ e j, ¬ cMN e j → h e j = m e j)) (LQ (fun (h : Hp) => 10 < cnBt (auB m a) n ∧ ∀ e j, ¬ cMN e j → h e j = m e j) (fun (h : Hp) => cnBt (auB m a) n ≤ 10 ∧ h 150 78 = ((cnBt (auB m a) n : Nat) : Int) ∧ (∀ p, p < cnBt (auB m a) n → h 189 p = ((mthF (auB m a) p n : Nat) : Int)) ∧ ∀ e j, ¬ cMN e j → h e j = m e j)) (Sum.inl ((i : Int) + 1, h)) := by
            intro hq
            rw [LQ_l, cnBt_n hq]
            exact ⟨by omega, by omega, h10, h, rfl, h78, fun p hp => by rw [h189 p hp, mthF_o hp], hf⟩
          simp only [tn, hf 161 i (by unfold cMN; omega), w32_id (z := m 161 i) (by omega) (by omega), show w32 (-1) = -1 from rfl]
          refine OK_if (fun d => ?_) (fun d => ?_)
          · rw [OK_some]
            exact skip (decide_eq_false (fun q => q.1 d))
          · obtain ⟨K, hK⟩ := Int.eq_ofNat_of_zero_le (show 0 ≤ m 161 i by omega)
            have ck := b154 K
            rw [hK]
            refine OK_gi (by omega) (by omega) (by omega) (OK_gi (by omega) (by omega) (by omega) ?_)
            simp only [tn, hf 154 K (by unfold cMN; omega), w32_id (z := m 154 K) (by omega) (by omega), w32_id (z := (a : Int)) (by omega) (by omega), h78, w32_id (z := ((cnBt (auB m a) i : Nat) : Int)) (by omega) (by omega), show w32 10 = 10 from rfl]
            have au : m 154 K = (a : Int) → auB m a i = true := fun q => decide_eq_true ⟨d, by rw [hK, tn]; exact q⟩
            refine OK_if (fun e => OK_if (fun f => OK_gi (by omega) (by omega) (by omega) ?_) (fun f => ?_)) (fun e => ?_)
            · have at1 := au e
              rw [OK_some, LQ_l]
              refine ⟨by omega, by omega, by rw [cnBt_t at1]; omega, _, rfl, by rw [setH_s, cnBt_t at1]; rfl, fun p hp => ?_, fun e j q => by rw [setH_f (fun r => q (Or.inl r)), setH_o (fun r => q (Or.inr r)), hf e j q]⟩
              rw [cnBt_t at1] at hp
              rw [setH_o (by decide)]
              by_cases q : p = cnBt (auB m a) i
              · rw [q, setH_s, mthF_n at1]
              · rw [setH_n q, h189 p (by omega), mthF_o (by omega)]
            · have at1 := au e
              rw [OK_some, LQ_r, LQ_l]
              have q1 := cnBt_t at1
              have q2 := cnBt_mono (f := auB m a) (i := i + 1) (n := n) (by omega)
              exact ⟨by omega, hf⟩
            · rw [OK_some]
              exact skip (decide_eq_false (fun q => e (by have := q.2; rw [hK, tn] at this; exact this)))
      rw [OK_bindE]
      refine OK_mono (cut_s R hn d1.2) (fun z hz => ?_)
      obtain ⟨zc, zf⟩ := hz
      obtain ⟨y, ey, hy⟩ := OK_ex gM
      rw [ey, Option.bind_some]
      cases y with
      | inl h =>
        obtain ⟨y1, y2⟩ := hy
        rw [if_neg (by omega)] at zc
        rw [zc]
        refine OK_gn (by decide) ?_
        rw [OK_some]
        dsimp only
        rw [OK_some]
        exact ⟨rfl, zf, y2⟩
      | inr h =>
        obtain ⟨y1, y2, y3, y4⟩ := hy
        have mb : ∀ p, p < cnBt (auB m a) n → ((mthF (auB m a) p n : Nat) : Int) < m 150 5 := fun p hp => by
          have := (mthF_m n hp).2
          omega
        generalize hmem : (fun p => mthF (auB m a) p n) = mem at zc
        have em : ∀ p, mthF (auB m a) p n = mem p := fun p => by rw [← hmem]
        generalize cnBt (auB m a) n = N at zc y1 y2 y3 cl mb
        dsimp only
        simp only [y2, w32_id (z := (N : Int)) (by omega) (by omega)]
        by_cases hN0 : N = 0
        · rw [if_neg (by omega)] at zc
          rw [zc]
          refine OK_gn (by decide) ?_
          rw [OK_some, if_neg (by omega), OK_some]
          exact ⟨rfl, zf, y4⟩
        · rw [if_pos (by omega)] at zc
          obtain ⟨z1, z11, z10⟩ := zc
          have vb := cuV_b S mem y1
          obtain ⟨H, hH⟩ : ∃ H, 2 ^ (N - 1) = H := ⟨_, rfl⟩
          have hH1 : 1 ≤ H := by rw [← hH]; exact Nat.one_le_two_pow
          have hH2 : H ≤ 512 := by
            rw [← hH]
            exact Nat.pow_le_pow_right (n := 2) (by decide) (show N - 1 ≤ 9 by omega)
          have h2N : 2 ^ N = 2 * H := by
            rw [← hH, ← Nat.pow_succ']
            congr 1
            omega
          have sh := shl32_n (y := N) (by omega)
          rw [h2N] at sh
          rw [hH] at z11 z10
          generalize hP : cuV m mem N = P at vb z11 z10
          have eP : ∀ t, voF (fun p q => bdF m (mem p) (mem q)) (2 * t) N = P t := fun t => by rw [← hP]; rfl
          have Rh : RS x h := RS_cMN y4 R
          have h189 : ∀ p, p < N → h 189 p = ((mem p : Nat) : Int) := fun p hp => by rw [y3 p hp, em]
          have bdh : ∀ p q, bdF h p q = bdF m p q := bdF_cg (funext fun j => y4 163 j (by unfold cMN; omega)) (funext fun j => y4 164 j (by unfold cMN; omega)) (funext fun j => y4 165 j (by unfold cMN; omega))
          have h5 : h 150 5 = m 150 5 := y4 150 5 (by unfold cMN; omega)
          -- the sum over all pairs
          have sm : ∀ (t b1 b2 : Nat) (w1 w2 : Int), t = 2 * b1 → t < 1073741824 → iter (X12_men_l78 c w1 w2 (t : Int)) FU (0, 0, h) = some (P b1, h) := by
            intro t b1 b2 w1 w2 ht htl
            have key : OK (iter (X12_men_l78 c w1 w2 (t : Int)) FU (0, 0, h)) (fun z => z = (voF (fun p q => bdF m (mem p) (mem q)) t N, h)) := by
              refine iter_up (fun p st => p ≤ N ∧ st = (voF (fun p q => bdF m (mem p) (mem q)) t p, (p : Int), h)) _ N (by omega) (fun p st hp hI => ?_) ⟨Nat.zero_le _, rfl⟩
              obtain ⟨-, rfl⟩ := hI
              unfold X12_men_l78
              dsimp only
              simp only [y2, w32_id (z := (N : Int)) (by omega) (by omega), w32_id (z := (p : Int)) (by omega) (by omega)]
              refine OK_if (fun c => ?_) (fun c => ?_)
              · rw [OK_some, LQ_r, show p = N from by omega]
              · rw [OK_bindE]
                refine OK_mono (iter_up (fun q st => q ≤ p ∧ st = (voF (fun p q => bdF m (mem p) (mem q)) t p + viF (fun p q => bdF m (mem p) (mem q)) t p q, (q : Int), h)) (fun z => z = (voF (fun p q => bdF m (mem p) (mem q)) t (p + 1), h)) p (by omega) (fun q st hq hI => ?_) ⟨Nat.zero_le _, by show _ = (voF (fun p q => bdF m (mem p) (mem q)) t p + 0, _, _); rw [Int.add_zero]; rfl⟩) (fun z hz => ?_)
                · obtain ⟨-, rfl⟩ := hI
                  unfold X12_men_l84 X12_men_j119
                  dsimp only
                  simp only [w32_id (z := (p : Int)) (by omega) (by omega), w32_id (z := (q : Int)) (by omega) (by omega)]
                  refine OK_if (fun d => ?_) (fun d => ?_)
                  · rw [OK_some, LQ_r, show q = p from by omega]
                    rfl
                  · have bp := mb p (by omega)
                    have bq := mb q (by omega)
                    rw [em] at bp bq
                    rw [BSt_has (BSt_nat htl) (by omega), OK_bindE, OK_some, BSt_has (BSt_nat htl) (by omega), OK_bindE, OK_some]
                    have al := alikeOf_s Rh.2 (x := mem p) (y := mem q) (by rw [h5]; exact bp) (by rw [h5]; exact bq)
                    rw [bdh] at al
                    by_cases e : t.testBit p = t.testBit q
                    · rw [e]
                      refine OK_gn (fun r => r rfl) (OK_gi (by omega) (by omega) (by omega) (OK_gi (by omega) (by omega) (by omega) ?_))
                      rw [tn, tn, h189 p (by omega), h189 q (by omega), al, OK_bindE, OK_some, OK_some, LQ_l, viF_s, if_pos e, ← Int.add_assoc]
                      exact ⟨by omega, by omega, rfl⟩
                    · have e2 : w32 (if t.testBit p = true then (1 : Int) else 0) ≠ w32 (if t.testBit q = true then (1 : Int) else 0) := by
                        cases h1 : t.testBit p <;> cases h2 : t.testBit q
                        · rw [h1, h2] at e
                          exact absurd rfl e
                        · decide
                        · decide
                        · rw [h1, h2] at e
                          exact absurd rfl e
                      refine OK_gd e2 (OK_gi (by omega) (by omega) (by omega) (OK_gi (by omega) (by omega) (by omega) ?_))
                      rw [tn, tn, h189 p (by omega), h189 q (by omega), al, OK_bindE, OK_some, OK_some, LQ_l, viF_s, if_neg e, ← Int.add_assoc]
                      exact ⟨by omega, by omega, rfl⟩
                · rw [hz, OK_some, LQ_l]
                  exact ⟨by omega, by omega, rfl⟩
            obtain ⟨z, ez, hz⟩ := OK_ex key
            rw [ez, hz, ht, eP]
          have lp : iter (X12_men_l68 c) FU (0, 0, 0, h) = some (((2 * bsF P (H - 1) : Nat) : Int), P (bsF P (H - 1)), h) := by
            have key : OK (iter (X12_men_l68 c) FU (0, 0, 0, h)) (fun z => z = (((2 * bsF P (H - 1) : Nat) : Int), P (bsF P (H - 1)), h)) := by
              refine iter_up (fun b st => b ≤ H ∧ ((b = 0 ∧ st = (0, 0, 0, h)) ∨ ∃ d, b = d + 1 ∧ st = (((2 * bsF P d : Nat) : Int), P (bsF P d), ((2 * b : Nat) : Int), h))) _ H (by omega) (fun b st hb hI => ?_) ⟨Nat.zero_le _, Or.inl ⟨rfl, rfl⟩⟩
              obtain ⟨-, hI⟩ := hI
              have p1 := vb b
              rcases hI with ⟨rfl, rfl⟩ | ⟨d, rfl, rfl⟩
              · unfold X12_men_l68 X12_men_j131 X12_men_j135
                dsimp only
                simp only [y2, sh, w32_id (z := ((2 * H : Nat) : Int)) (by omega) (by omega), show w32 0 = 0 from rfl]
                refine OK_gn (by omega) ?_
                have s0 := sm 0 0 0 0 0 rfl (by omega)
                rw [show X12_men_l78 c 0 0 0 = X12_men_l78 c 0 0 ((0 : Nat) : Int) from rfl, s0, OK_bindE, OK_some]
                refine OK_gd (Int.le_refl _) ?_
                rw [OK_some, LQ_l]
                exact ⟨by omega, by omega, Or.inr ⟨0, rfl, rfl⟩⟩
              · unfold X12_men_l68 X12_men_j131 X12_men_j135
                dsimp only
                have p2 := vb (bsF P d)
                simp only [y2, sh, w32_id (z := ((2 * H : Nat) : Int)) (by omega) (by omega), w32_id (z := ((2 * (d + 1) : Nat) : Int)) (by omega) (by omega)]
                refine OK_if (fun e => ?_) (fun e => ?_)
                · rw [OK_some, LQ_r]
                  have : d = H - 1 := by omega
                  subst this
                  rfl
                · rw [sm (2 * (d + 1)) (d + 1) 0 _ _ rfl (by omega), OK_bindE, OK_some]
                  dsimp only
                  simp only [w32_id (z := P (d + 1)) (by omega) (by omega), w32_id (z := P (bsF P d)) (by omega) (by omega)]
                  refine OK_gn (by omega) (OK_if (fun f => ?_) (fun f => ?_))
                  · rw [OK_some, LQ_l]
                    exact ⟨by omega, by omega, Or.inr ⟨d + 1, rfl, by rw [bsF_s, if_pos f]; rfl⟩⟩
                  · rw [OK_some, LQ_l]
                    exact ⟨by omega, by omega, Or.inr ⟨d + 1, rfl, by rw [bsF_s, if_neg f]; rfl⟩⟩
            obtain ⟨z, ez, hz⟩ := OK_ex key
            rw [ez, hz]
          have bl := (bsF_m P (H - 1)).1
          have pv := vb (bsF P (H - 1))
          rw [z1]
          refine OK_gd (by decide) ?_
          rw [if_pos (show (N : Int) ≠ 0 by omega), lp, Option.bind_some]
          unfold X0_cutValue X0_secondMan
          simp only [Option.bind_some, z11, z10, show w32 1 = 1 from rfl]
          by_cases d3 : c = 1
          · rw [if_pos (by omega), OK_some, if_neg (fun q => q d3), OK_some]
            exact ⟨rfl, zf, y4⟩
          · rw [if_neg (by omega), OK_some, if_pos d3, OK_bindE]
            refine OK_mono (iter_up (fun p st => p ≤ N ∧ st = (boF mem (2 * bsF P (H - 1)) p, (p : Int), h)) (fun z => z = (boF mem (2 * bsF P (H - 1)) N, h)) N (by omega) (fun p st hp hI => ?_) ⟨Nat.zero_le _, rfl⟩) (fun u hu => ?_)
            · obtain ⟨-, rfl⟩ := hI
              unfold X12_men_l147 X12_men_j165
              dsimp only
              simp only [y2, w32_id (z := (N : Int)) (by omega) (by omega), w32_id (z := (p : Int)) (by omega) (by omega)]
              refine OK_if (fun e => ?_) (fun e => ?_)
              · rw [OK_some, LQ_r, show p = N from by omega]
              · rw [BSt_has (BSt_nat (s := 2 * bsF P (H - 1)) (by omega)) (by omega), OK_bindE, OK_some]
                have bw := boF_w mem (2 * bsF P (H - 1)) p
                cases f : (2 * bsF P (H - 1)).testBit p with
                | false =>
                  refine OK_gd (by decide) ?_
                  rw [OK_some, LQ_l, boF_s, f, or64_0, bw]
                  exact ⟨by omega, by omega, rfl⟩
                | true =>
                  refine OK_gn (by decide) (OK_gi (by omega) (by omega) (by omega) ?_)
                  rw [OK_some, LQ_l, boF_s, f, tn, h189 p (by omega)]
                  exact ⟨by omega, by omega, rfl⟩
            · rw [hu, OK_some]
              exact ⟨rfl, zf, y4⟩
    · simp only [if_pos d1, if_neg d2, q0, q1, qn0, if_true, if_false]
      exact triv True
  · simp only [if_neg d1, q0, if_true]
    exact triv True
