/-! TWO MEN: cuts -/
theorem valueX_s {h : Hp} {N s : Nat} {bd : Nat → Nat → Int} (hN : N ≤ 10) (hs : s < 1073741824) (h7 : h 77 7 = (N : Int)) (hb : ∀ p q, p < N → q < p → h 80 (10 * p + q) = bd p q) : X0_valueOf (s : Int) h = some (voF bd s N) := by
  have key : OK (iter (X0_valueOf_l4 (s : Int) h) FU (0, 0)) (fun z => z = voF bd s N) := by
    refine iter_up (fun p st => p ≤ N ∧ st = (voF bd s p, (p : Int))) _ N (by omega) (fun p st hp hI => ?_) ⟨Nat.zero_le _, rfl⟩
    obtain ⟨-, rfl⟩ := hI
    unfold X0_valueOf_l4
    dsimp only
    simp only [h7, w32_id (z := (N : Int)) (by omega) (by omega), w32_id (z := (p : Int)) (by omega) (by omega)]
    refine OK_if (fun c => ?_) (fun c => ?_)
    · rw [OK_some, LQ_r, show p = N from by omega]
    · rw [OK_bindE]
      refine OK_mono (iter_up (fun q st => q ≤ p ∧ st = (voF bd s p + viF bd s p q, (q : Int))) (fun z => z = voF bd s (p + 1)) p (by omega) (fun q st hq hI => ?_) ⟨Nat.zero_le _, by show _ = (voF bd s p + 0, _); rw [Int.add_zero]; rfl⟩) (fun z hz => ?_)
      · obtain ⟨-, rfl⟩ := hI
        unfold X0_valueOf_l10 X0_valueOf_j27 X0_valueOf_j44
        dsimp only
        simp only [w32_id (z := (p : Int)) (by omega) (by omega), w32_id (z := (q : Int)) (by omega) (by omega)]
        refine OK_if (fun d => ?_) (fun d => ?_)
        · rw [OK_some, LQ_r, show q = p from by omega]
          rfl
        · have eb := hb p q (by omega) (by omega)
          rw [BSt_bit (BSt_nat hs) (by omega), BSt_bit (BSt_nat hs) (by omega), at_e (a := 80) (n := 100) (10 * p + q) (by omega) (by omega) (by omega), eb]
          by_cases e : s.testBit p = s.testBit q
          · rw [e]
            refine OK_gn (fun r => r rfl) ?_
            rw [OK_bindE, OK_some]
            refine OK_gn (by decide) ?_
            rw [OK_some, LQ_l, viF_s, if_pos e, ← Int.add_assoc]
            exact ⟨by omega, by omega, rfl⟩
          · have e2 : w32 (if s.testBit p = true then (1 : Int) else 0) ≠ w32 (if s.testBit q = true then (1 : Int) else 0) := by
              cases h1 : s.testBit p <;> cases h2 : s.testBit q
              · rw [h1, h2] at e
                exact absurd rfl e
              · decide
              · decide
              · rw [h1, h2] at e
                exact absurd rfl e
            refine OK_gd e2 ?_
            rw [OK_bindE, OK_some]
            refine OK_gd (by decide) ?_
            rw [OK_some, LQ_l, viF_s, if_neg e, ← Int.add_assoc]
            exact ⟨by omega, by omega, rfl⟩
      · rw [hz, OK_some, LQ_l]
        exact ⟨by omega, by omega, rfl⟩
  unfold X0_valueOf
  obtain ⟨z, ez, hz⟩ := OK_ex key
  rw [ez, hz, Option.bind_some]
noncomputable def boF (mem : Nat → Nat) (s : Nat) : Nat → Int
  | 0 => 0
  | p + 1 => if s.testBit p = true then or64 (boF mem s p) (shl64 1 ((mem p : Nat) : Int)) else boF mem s p
theorem boF_s (mem : Nat → Nat) (s p : Nat) : boF mem s (p + 1) = if s.testBit p = true then or64 (boF mem s p) (shl64 1 ((mem p : Nat) : Int)) else boF mem s p := rfl
theorem boF_w (mem : Nat → Nat) (s : Nat) : ∀ p, w64 (boF mem s p) = boF mem s p := by
  intro p
  induction p with
  | zero => rfl
  | succ p ih =>
    rw [boF_s]
    split
    · exact w64_or _ _
    · exact ih
theorem bitsX_s {h : Hp} {N s : Nat} {mem : Nat → Nat} (hN : N ≤ 10) (hs : s < 1073741824) (h7 : h 77 7 = (N : Int)) (hm : ∀ p, p < N → h 79 p = ((mem p : Nat) : Int)) : X0_bitsOf (s : Int) h = some (boF mem s N) := by
  have key : OK (iter (X0_bitsOf_l4 (s : Int) h) FU (0, 0)) (fun z => z = boF mem s N) := by
    refine iter_up (fun p st => p ≤ N ∧ st = (boF mem s p, (p : Int))) _ N (by omega) (fun p st hp hI => ?_) ⟨Nat.zero_le _, rfl⟩
    obtain ⟨-, rfl⟩ := hI
    unfold X0_bitsOf_l4 X0_bitsOf_j24
    dsimp only
    simp only [h7, w32_id (z := (N : Int)) (by omega) (by omega), w32_id (z := (p : Int)) (by omega) (by omega)]
    refine OK_if (fun c => ?_) (fun c => ?_)
    · rw [OK_some, LQ_r, show p = N from by omega]
    · rw [BSt_bit (BSt_nat hs) (by omega)]
      cases e : s.testBit p with
      | false =>
        refine OK_gd (by decide) ?_
        rw [OK_some, LQ_l, boF_s, e]
        exact ⟨by omega, by omega, rfl⟩
      | true =>
        refine OK_gn (by decide) ?_
        rw [at_e (a := 79) (n := 10) p rfl (by omega) (by omega), OK_bindE, OK_some, hm p (by omega), OK_some, LQ_l, boF_s, e]
        exact ⟨by omega, by omega, rfl⟩
  unfold X0_bitsOf
  obtain ⟨z, ez, hz⟩ := OK_ex key
  rw [ez, hz, Option.bind_some]
def auB (m : Hp) (a i : Nat) : Bool := decide (m 161 i ≠ -1 ∧ m 154 (m 161 i).toNat = (a : Int))
noncomputable def cuV (m : Hp) (mem : Nat → Nat) (N t : Nat) : Int := voF (fun p q => bdF m (mem p) (mem q)) (2 * t) N
theorem cuV_b {m : Hp} (S : SB m) (mem : Nat → Nat) {N : Nat} (hN : N ≤ 10) (t : Nat) : -6800 ≤ cuV m mem N t ∧ cuV m mem N t ≤ 6800 := by
  have := voF_b (bd := fun p q => bdF m (mem p) (mem q)) (fun p q => by have := bdF_b S (mem p) (mem q); omega) (2 * t) N hN
  unfold cuV
  omega
theorem cut_s {x m : Hp} (R : RS x m) {a n : Nat} (hn : m 150 5 = (n : Int)) (ha : (a : Int) < m 150 2) : OK (X0_cut (a : Int) x) (fun z => (if 1 ≤ cnBt (auB m a) n ∧ cnBt (auB m a) n ≤ 10 then z.1 = 1 ∧ z.2 77 11 = cuV m (fun p => mthF (auB m a) p n) (cnBt (auB m a) n) (bsF (cuV m (fun p => mthF (auB m a) p n) (cnBt (auB m a) n)) (2 ^ (cnBt (auB m a) n - 1) - 1)) ∧ z.2 77 10 = boF (fun p => mthF (auB m a) p n) (2 * bsF (cuV m (fun p => mthF (auB m a) p n) (cnBt (auB m a) n)) (2 ^ (cnBt (auB m a) n - 1) - 1)) (cnBt (auB m a) n) else z.1 = 0) ∧ ∀ e j, ¬ cXM e j → z.2 e j = x e j) := by
  obtain ⟨-, S⟩ := id R
  obtain ⟨⟨b2, b3, b4, b5⟩, ⟨-, -, b154, -⟩, -, ⟨-, b161, -⟩, -, ⟨bb, -⟩⟩ := id S
  unfold X0_cut
  rw [OK_bindE]
  refine OK_mono (iter_up (fun i st => i ≤ n ∧ ∃ h : Hp, st = ((i : Int), h) ∧ h 77 7 = ((cnBt (auB m a) i : Nat) : Int) ∧ (∀ p, p < cnBt (auB m a) i → p < 10 → h 79 p = ((mthF (auB m a) p i : Nat) : Int)) ∧ ∀ e j, ¬ cXM e j → h e j = x e j) (fun h => h 77 7 = ((cnBt (auB m a) n : Nat) : Int) ∧ (∀ p, p < cnBt (auB m a) n → p < 10 → h 79 p = ((mthF (auB m a) p n : Nat) : Int)) ∧ ∀ e j, ¬ cXM e j → h e j = x e j) n (by omega) (fun i st hi hI => ?_) ⟨Nat.zero_le _, _, rfl, by rw [setH_s]; rfl, fun p hp => absurd hp (Nat.not_lt_zero _), fun e j q => by rw [setH_f (fun r => q (Or.inl ⟨r.1, Or.inl r.2⟩))]⟩) (fun h hh => ?_)
  · obtain ⟨-, h, rfl, h7, h9, hf⟩ := hI
    have Rh : RS h m := RS_cM hf R
    obtain ⟨⟨⟨-, -, -, i311⟩, -, ⟨-, i13, -⟩, -⟩, -⟩ := id Rh
    have cl := cnBt_le (auB m a) i
    unfold X0_cut_l5 X0_cut_j31 X7_bits
    dsimp only
    rw [OK_bindE, OK_some]
    simp only [i311, hn, w32_id (z := (n : Int)) (by omega) (by omega), w32_id (z := (i : Int)) (by omega) (by omega)]
    refine OK_if (fun c => ?_) (fun c => ?_)
    · rw [OK_some, LQ_r]
      have : i = n := by omega
      subst this
      exact ⟨h7, h9, hf⟩
    · have c1 := b161 i
      have cb := bb i (by omega)
      have ca := b154 (m 161 i).toNat
      rw [bitWork_in i (by omega) (by omega), OK_bindE, OK_some, i13, authorOf_s Rh ⟨by omega, by omega⟩, OK_bindE, OK_some]
      have eA : (if 0 ≤ m 161 i ∧ m 161 i < m 150 3 then m 154 (m 161 i).toNat else -1) = (a : Int) ↔ auB m a i = true := by
        unfold auB
        rw [decide_eq_true_iff]
        by_cases q : 0 ≤ m 161 i ∧ m 161 i < m 150 3
        · rw [if_pos q]
          exact ⟨fun r => ⟨by omega, r⟩, fun r => r.2⟩
        · rw [if_neg q]
          exact ⟨fun r => by omega, fun r => by have := r.1; omega⟩
      have vr : -2147483648 ≤ (if 0 ≤ m 161 i ∧ m 161 i < m 150 3 then m 154 (m 161 i).toNat else -1) ∧ (if 0 ≤ m 161 i ∧ m 161 i < m 150 3 then m 154 (m 161 i).toNat else -1) < 2147483648 := by
        split <;> omega
      generalize (if 0 ≤ m 161 i ∧ m 161 i < m 150 3 then m 154 (m 161 i).toNat else -1) = v at eA vr ⊢
      by_cases d : auB m a i = true
      · have ev := eA.mpr d
        subst ev
        refine OK_gn (fun q => q rfl) ?_
        rw [h7, put_eq 79 10 _ _ _ (by omega), OK_bindE, OK_some]
        simp only [w32_id (z := ((cnBt (auB m a) i : Nat) : Int)) (by omega) (by omega)]
        rw [OK_some, LQ_l]
        have hgen : ∀ g : Hp, g = (if 0 ≤ ((cnBt (auB m a) i : Nat) : Int) ∧ ((cnBt (auB m a) i : Nat) : Int) < (10 : Nat) then setH h 79 ((cnBt (auB m a) i : Nat) : Int).toNat (i : Int) else h) → g 77 7 = ((cnBt (auB m a) i : Nat) : Int) ∧ (∀ p, p < cnBt (auB m a) i + 1 → p < 10 → g 79 p = ((mthF (auB m a) p (i + 1) : Nat) : Int)) ∧ ∀ e j, ¬ cXM e j → g e j = x e j := by
          intro g hg
          by_cases q : cnBt (auB m a) i < 10
          · rw [if_pos (by omega), tn] at hg
            subst hg
            refine ⟨by rw [setH_o (by decide), h7], fun p hp1 hp2 => ?_, fun e j r => by rw [setH_o (fun t => r (Or.inr (Or.inl t))), hf e j r]⟩
            by_cases e : p = cnBt (auB m a) i
            · rw [e, setH_s, mthF_n d]
            · rw [setH_n e, h9 p (by omega) hp2, mthF_o (by omega)]
          · rw [if_neg (by omega)] at hg
            subst hg
            exact ⟨h7, fun p hp1 hp2 => by rw [h9 p (by omega) hp2, mthF_o (by omega)], hf⟩
        obtain ⟨g1, g2, g3⟩ := hgen _ rfl
        refine ⟨by omega, by omega, _, rfl, ?_, fun p hp1 hp2 => ?_, fun e j r => ?_⟩
        · rw [setH_s, g1, cnBt_t d]
          rfl
        · rw [cnBt_t d] at hp1
          rw [setH_o (by decide)]
          exact g2 p hp1 hp2
        · rw [setH_f (fun t => r (Or.inl ⟨t.1, Or.inl t.2⟩))]
          exact g3 e j r
      · have hf' : auB m a i = false := by
          cases q : auB m a i
          · rfl
          · exact absurd q d
        have vb : v ≠ (a : Int) := fun q => d (eA.mp q)
        refine OK_gd (by rw [w32_id vr.1 vr.2, w32_id (z := (a : Int)) (by omega) (by omega)]; exact vb) ?_
        rw [OK_some, LQ_l]
        refine ⟨by omega, by omega, h, rfl, by rw [cnBt_n hf', h7], fun p hp1 hp2 => ?_, hf⟩
        rw [cnBt_n hf'] at hp1
        rw [h9 p hp1 hp2, mthF_o hp1]
  · obtain ⟨h7, h9, hf⟩ := hh
    have cl := cnBt_le (auB m a) n
    have mb : ∀ p, p < cnBt (auB m a) n → ((mthF (auB m a) p n : Nat) : Int) < m 150 5 := fun p hp => by
      have := (mthF_m n hp).2
      omega
    generalize hmem : (fun p => mthF (auB m a) p n) = mem
    have em : ∀ p, mthF (auB m a) p n = mem p := fun p => by rw [← hmem]
    generalize cnBt (auB m a) n = N at h7 h9 cl mb ⊢
    simp only [h7, w32_id (z := (N : Int)) (by omega) (by omega), show w32 1 = 1 from rfl, show w32 10 = 10 from rfl]
    refine OK_if (fun c => ?_) (fun c => OK_if (fun d => ?_) (fun d => ?_))
    · rw [OK_some, if_neg (by omega)]
      exact ⟨rfl, hf⟩
    · have hN10 : N ≤ 10 := by omega
      have Rh : RS h m := RS_cM hf R
      simp only [if_pos (show 1 ≤ N ∧ N ≤ 10 by omega)]
      rw [OK_bindE]
      refine OK_mono (bonds_s Rh hN10 h7 (mem := mem) (fun p hp => by rw [h9 p hp (by omega), em]) (fun p hp => by rw [← em]; exact mb p hp)) (fun g hg => ?_)
      obtain ⟨g1, gf⟩ := hg
      have g7 : g 77 7 = (N : Int) := by rw [gf 77 7 (by decide), h7]
      have gm : ∀ p, p < N → g 79 p = ((mem p : Nat) : Int) := fun p hp => by rw [gf 79 p (by decide), h9 p hp (by omega), em]
      have vb := cuV_b S mem hN10
      have hv0 := valueX_s (h := g) (s := 0) (bd := fun p q => bdF m (mem p) (mem q)) hN10 (by omega) g7 g1
      rw [show X0_valueOf 0 g = X0_valueOf ((0 : Nat) : Int) g from rfl, hv0, OK_bindE, OK_some]
      obtain ⟨H, hH⟩ : ∃ H, 2 ^ (N - 1) = H := ⟨_, rfl⟩
      have hH1 : 1 ≤ H := by rw [← hH]; exact Nat.one_le_two_pow
      have hH2 : H ≤ 512 := by
        rw [← hH]
        exact Nat.pow_le_pow_right (n := 2) (by decide) (show N - 1 ≤ 9 by omega)
      have h2N : 2 ^ N = 2 * H := by
        rw [← hH, ← Nat.pow_succ']
        congr 1
        omega
      rw [hH]
      generalize hP : cuV m mem N = P at vb
      have eP : ∀ t, voF (fun p q => bdF m (mem p) (mem q)) (2 * t) N = P t := fun t => by rw [← hP]; rfl
      have ev0 : voF (fun p q => bdF m (mem p) (mem q)) 0 N = P 0 := eP 0
      rw [ev0, OK_bindE]
      refine OK_mono (iter_up (fun b st => b + 1 ≤ H ∧ ∃ u : Hp, st = (((2 * bsF P b : Nat) : Int), ((2 * (b + 1) : Nat) : Int), u) ∧ u 77 11 = P (bsF P b) ∧ (∀ e j, ¬ (e = 77 ∧ j = 11) → u e j = g e j)) (fun z => z.1 = ((2 * bsF P (H - 1) : Nat) : Int) ∧ z.2 77 11 = P (bsF P (H - 1)) ∧ (∀ e j, ¬ (e = 77 ∧ j = 11) → z.2 e j = g e j)) (H - 1) (by omega) (fun b st hb hI => ?_) ⟨by omega, _, rfl, by rw [setH_s]; rfl, fun e j q => by rw [setH_f q]⟩) (fun z hz => ?_)
      · obtain ⟨hbH, u, rfl, u11, uf⟩ := hI
        unfold X0_cut_l54 X0_cut_j73
        dsimp only
        have sh := shl32_n (y := N) (by omega)
        rw [h2N] at sh
        simp only [uf 77 7 (by decide), g7, sh, w32_id (z := ((2 * H : Nat) : Int)) (by omega) (by omega), w32_id (z := ((2 * (b + 1) : Nat) : Int)) (by omega) (by omega)]
        refine OK_if (fun e => ?_) (fun e => ?_)
        · rw [OK_some, LQ_r]
          have : b = H - 1 := by omega
          subst this
          exact ⟨rfl, u11, uf⟩
        · have hv := valueX_s (h := u) (s := 2 * (b + 1)) (bd := fun p q => bdF m (mem p) (mem q)) hN10 (by omega) (by rw [uf 77 7 (by decide), g7]) (fun p q h1 h2 => by rw [uf 80 _ (by omega)]; exact g1 p q h1 h2)
          rw [eP] at hv
          have p1 := vb (b + 1)
          have p2 := vb (bsF P b)
          rw [hv, OK_bindE, OK_some]
          simp only [u11, w32_id (z := P (b + 1)) (by omega) (by omega), w32_id (z := P (bsF P b)) (by omega) (by omega)]
          refine OK_if (fun f => ?_) (fun f => ?_)
          · rw [OK_some, LQ_l]
            refine ⟨by omega, by omega, u, ?_, by rw [u11, bsF_s, if_neg (by omega)], uf⟩
            rw [bsF_s, if_neg (by omega)]
            rfl
          · rw [OK_some, LQ_l]
            exact ⟨by omega, by omega, _, by
              rw [bsF_s, if_pos (by omega)]
              rfl, by rw [setH_s, bsF_s, if_pos (by omega)], fun e j q => by rw [setH_f q, uf e j q]⟩
      · obtain ⟨z1, z11, zf⟩ := hz
        have bl := (bsF_m P (H - 1)).1
        have hbo := bitsX_s (h := z.2) (N := N) (s := 2 * bsF P (H - 1)) (mem := mem) hN10 (by omega) (by rw [zf 77 7 (by decide), g7]) (fun p hp => by rw [zf 79 p (by omega)]; exact gm p hp)
        rw [z1, hbo, OK_bindE, OK_some, OK_some]
        refine ⟨⟨rfl, by dsimp only; rw [setH_n (by decide), z11], by dsimp only; rw [setH_s]⟩, fun e j q => ?_⟩
        dsimp only
        rw [setH_f (fun r => q (Or.inl ⟨r.1, Or.inr (Or.inl r.2)⟩)), zf e j (fun r => q (Or.inl ⟨r.1, Or.inr (Or.inr r.2)⟩)), gf e j (fun r => q (Or.inr (Or.inr r))), hf e j q]
    · rw [OK_some, if_neg (by omega)]
      exact ⟨rfl, hf⟩
