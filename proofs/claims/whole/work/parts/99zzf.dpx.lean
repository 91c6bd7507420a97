/-! THE ORDER: the one side's tables and its row -/
def tbX (N : Nat) (A : Nat → Nat → Bool) (g : Nat → Nat → Int) (h : Hp) (f : Nat) : Prop := ∀ t a, f ≤ t → t < 2 ^ N → a < N → t.testBit a = true → h 72 (10 * t + a) = mpV (VV N A g t a) ∧ h 73 (10 * t + a) = (((VV N A g t a).2 : Nat) : Int)
theorem or2_gt {s p : Nat} (h : s.testBit p = false) : s < s ||| 2 ^ p := by
  have l : s ≤ s ||| 2 ^ p := Nat.left_le_or
  by_cases e : s = s ||| 2 ^ p
  · have := tb_or2 s p p
    rw [← e, h, decide_eq_true rfl] at this
    cases this
  · omega
theorem grX_cg {N : Nat} {A : Nat → Nat → Bool} {g : Nat → Nat → Int} {h u : Hp} (e5 : u 66 5 = h 66 5) (e70 : u 70 = h 70) (e71 : u 71 = h 71) (H : grX N A g h) : grX N A g u := by
  unfold grX at H ⊢
  rw [e5, e70, e71]
  exact H
theorem loops_s {N : Nat} {A : Nat → Nat → Bool} {g : Nat → Nat → Int} {h : Hp} (G : okG N A g) (H : grX N A g h) (hN1 : 1 ≤ N) : OK (iter X5_search_l24 FU ((shl32 1 (h 66 5)) - 1, h)) (fun z => tbX N A g z 1 ∧ ∀ e j, e ≠ 72 → e ≠ 73 → z e j = h e j) := by
  obtain ⟨hN, hAN, h10, hg⟩ := id G
  obtain ⟨h5, -, -⟩ := id H
  have s10 := p2_10 hN
  have pN1 : 1 ≤ 2 ^ N := Nat.one_le_two_pow
  rw [h5, shl32_n (by omega)]
  refine iter_dn (fun n st => n + 1 ≤ 2 ^ N ∧ ∃ u : Hp, st = ((n : Int), u) ∧ tbX N A g u (n + 1) ∧ ∀ e j, e ≠ 72 → e ≠ 73 → u e j = h e j) _ (fun n st hI => ?_) (2 ^ N - 1) (by omega) ⟨by omega, h, by rw [show ((2 ^ N : Nat) : Int) - 1 = ((2 ^ N - 1 : Nat) : Int) from by omega], fun t a h1 h2 => by omega, fun _ _ _ _ => rfl⟩
  obtain ⟨hn, u, rfl, hT, hf⟩ := hI
  unfold X5_search_l24
  dsimp only
  simp only [w32_id (z := (n : Int)) (by omega) (by omega)]
  refine OK_if (fun c => ?_) (fun c => ?_)
  · rw [OK_some, LQ_r]
    have : n = 0 := by omega
    subst this
    exact ⟨hT, hf⟩
  · rw [OK_bindE]
    refine OK_mono (iter_up (fun l st => l ≤ N ∧ ∃ w : Hp, st = ((l : Int), w) ∧ tbX N A g w (n + 1) ∧ (∀ a, a < l → n.testBit a = true → w 72 (10 * n + a) = mpV (VV N A g n a) ∧ w 73 (10 * n + a) = (((VV N A g n a).2 : Nat) : Int)) ∧ ∀ e j, e ≠ 72 → e ≠ 73 → w e j = h e j) (fun w => tbX N A g w n ∧ ∀ e j, e ≠ 72 → e ≠ 73 → w e j = h e j) N (by omega) (fun l st hl hI => ?_) ⟨Nat.zero_le _, u, rfl, hT, fun a ha => by omega, hf⟩) (fun w hw => ?_)
    · obtain ⟨-, w, rfl, wT, wl, wf⟩ := hI
      unfold X5_search_l28 X5_search_j43
      dsimp only
      simp only [wf 66 5 (by decide) (by decide), h5, w32_id (z := (N : Int)) (by omega) (by omega), w32_id (z := (l : Int)) (by omega) (by omega)]
      refine OK_if (fun d => ?_) (fun d => ?_)
      · rw [OK_some, LQ_r]
        refine ⟨fun t a h1 h2 h3 h4 => ?_, wf⟩
        by_cases e : t = n
        · subst e
          exact wl a (by omega) h4
        · exact wT t a (by omega) h2 h3 h4
      · have hlN : l < N := by omega
        rw [BSt_bit (BSt_nat (s := n) (by omega)) (by omega)]
        cases hb : n.testBit l with
        | false =>
          refine OK_gd (by decide) ?_
          rw [OK_some, LQ_l]
          refine ⟨hlN, by omega, w, rfl, wT, fun a ha hab => ?_, wf⟩
          by_cases e : a = l
          · subst e
            rw [hb] at hab
            cases hab
          · exact wl a (by omega) hab
        | true =>
          refine OK_gn (by decide) ?_
          have Hw : grX N A g w := grX_cg (wf 66 5 (by decide) (by decide)) (funext fun j => wf 70 j (by decide) (by decide)) (funext fun j => wf 71 j (by decide) (by decide)) H
          have cs := complete_s G Hw (s := n) (l := l) (v := (l : Int)) (by omega) hN1 (by unfold lIx; rw [if_neg (by omega)]) (Or.inl hlN) (fun _ => hlN) (fun p hp hpb => wT _ p (by have := or2_gt hpb; omega) (or2_lt (by omega) hp) hp (by rw [tb_or2, decide_eq_true rfl, Bool.or_true]))
          rw [if_neg (by omega)] at cs
          rw [cs, OK_bindE, OK_some, OK_some, LQ_l]
          refine ⟨hlN, by omega, _, rfl, fun t a h1 h2 h3 h4 => ?_, fun a ha hab => ?_, fun e j q1 q2 => by rw [setH_o q2, setH_o q1, wf e j q1 q2]⟩
          · rw [setH_o (by decide), setH_n (by omega), setH_n (by omega), setH_o (by decide)]
            exact wT t a h1 h2 h3 h4
          · by_cases e : a = l
            · subst e
              rw [setH_o (by decide), setH_s, setH_s]
              exact ⟨rfl, rfl⟩
            · rw [setH_o (by decide), setH_n (by omega), setH_n (by omega), setH_o (by decide)]
              exact wl a (by omega) hab
    · rw [OK_some, LQ_l]
      exact ⟨n - 1, by omega, by omega, w, by rw [show (n : Int) + (-1) = ((n - 1 : Nat) : Int) from by omega], by rw [show n - 1 + 1 = n from by omega]; exact hw.1, hw.2⟩
/-- the least row of the best -/
def lyC (N : Nat) (A : Nat → Nat → Bool) (g : Nat → Nat → Int) (s l : Nat) : Nat := srchB (fun a => decide (mpV (cdV N A g (VV N A g) s l a) = (VV N A g s l).1)) 0 N
def lyS (N : Nat) (A : Nat → Nat → Bool) (g : Nat → Nat → Int) : Nat → Nat × Nat
  | 0 => (0, 10)
  | i + 1 => ((lyS N A g i).1 ||| 2 ^ (lyC N A g (lyS N A g i).1 (lyS N A g i).2), lyC N A g (lyS N A g i).1 (lyS N A g i).2)
theorem lyS_s (N : Nat) (A : Nat → Nat → Bool) (g : Nat → Nat → Int) (i : Nat) : lyS N A g (i + 1) = ((lyS N A g i).1 ||| 2 ^ (lyC N A g (lyS N A g i).1 (lyS N A g i).2), lyC N A g (lyS N A g i).1 (lyS N A g i).2) := rfl
theorem lyC_g {N : Nat} {A : Nat → Nat → Bool} {g : Nat → Nat → Int} (G : okG N A g) {s l : Nat} (hr : remN N s ≠ 0) (h0 : (VV N A g s l).2 ≠ 0) : lyC N A g s l < N ∧ mpV (cdV N A g (VV N A g) s l (lyC N A g s l)) = (VV N A g s l).1 ∧ (cdV N A g (VV N A g) s l (lyC N A g s l)).2 ≠ 0 ∧ ∀ a, a < lyC N A g s l → mpV (cdV N A g (VV N A g) s l a) ≠ (VV N A g s l).1 := by
  have vb := VV_bd G s l
  have ex : ∃ w, 0 ≤ w ∧ w < 0 + N ∧ decide (mpV (cdV N A g (VV N A g) s l w) = (VV N A g s l).1) = true := by
    have e := VV_s (A := A) (g := g) (l := l) hr
    rw [e] at h0
    rcases foV_m (cdV N A g (VV N A g) s l) N with ⟨g1, -, -⟩ | ⟨-, ⟨a, g2, g3, g4⟩, -, -⟩
    · exact absurd g1 h0
    · refine ⟨a, Nat.zero_le _, by omega, ?_⟩
      rw [decide_eq_true_iff, e]
      unfold mpV
      rw [if_neg g3, g4]
  obtain ⟨h1, -, h2, h3⟩ := srchB_s _ _ ex
  rw [decide_eq_true_iff] at h1
  have h1' : mpV (cdV N A g (VV N A g) s l (lyC N A g s l)) = (VV N A g s l).1 := h1
  refine ⟨by unfold lyC; omega, h1', fun q => ?_, fun a ha => ?_⟩
  · unfold mpV at h1'
    rw [if_pos q] at h1'
    omega
  · have := h3 a (Nat.zero_le _) ha
    rw [decide_eq_false_iff_not] at this
    exact this
theorem remN_0 (N : Nat) : remN N 0 = N := by
  have key : ∀ n, cnBt (fun a => !(0 : Nat).testBit a) n = n := by
    intro n
    induction n with
    | zero => rfl
    | succ n ih => rw [cnBt_t (by rw [Nat.zero_testBit]; rfl), ih]
  exact key N
theorem lyS_g {N : Nat} {A : Nat → Nat → Bool} {g : Nat → Nat → Int} (G : okG N A g) (h0 : (VV N A g 0 10).2 ≠ 0) : ∀ i, i ≤ N → (lyS N A g i).1 < 2 ^ N ∧ remN N (lyS N A g i).1 = N - i ∧ (VV N A g (lyS N A g i).1 (lyS N A g i).2).2 ≠ 0 ∧ ((i = 0 ∧ lyS N A g i = (0, 10)) ∨ (1 ≤ i ∧ (lyS N A g i).1 ≠ 0 ∧ (lyS N A g i).2 < N ∧ (lyS N A g i).1.testBit (lyS N A g i).2 = true)) := by
  intro i
  induction i with
  | zero =>
    intro _
    exact ⟨Nat.one_le_two_pow, remN_0 N, h0, Or.inl ⟨rfl, rfl⟩⟩
  | succ i ih =>
    intro hi
    obtain ⟨h1, h2, h3, -⟩ := ih (by omega)
    obtain ⟨c1, c2, c3, -⟩ := lyC_g G (by omega) h3
    obtain ⟨o, w⟩ := cdV_nz.mp c3
    have nb := mayB_nb o
    have r := remN_s c1 nb
    rw [lyS_s]
    refine ⟨or2_lt h1 c1, by dsimp only; omega, w, Or.inr ⟨by omega, fun q => ?_, c1, by rw [tb_or2, decide_eq_true rfl, Bool.or_true]⟩⟩
    have := or2_gt nb
    dsimp only at q
    omega
theorem lay_s {N : Nat} {A : Nat → Nat → Bool} {g : Nat → Nat → Int} {h : Hp} (G : okG N A g) (H : grX N A g h) (T : tbX N A g h 1) (h0 : (VV N A g 0 10).2 ≠ 0) (h14 : h 66 14 = (VV N A g 0 10).1) : OK (X5_layLeast h) (fun z => (∀ i, i < N → z 74 i = ((lyC N A g (lyS N A g i).1 (lyS N A g i).2 : Nat) : Int)) ∧ ∀ e j, e ≠ 74 → z e j = h e j) := by
  obtain ⟨hN, hAN, h10, hg⟩ := id G
  obtain ⟨h5, -, -⟩ := id H
  have s10 := p2_10 hN
  unfold X5_layLeast
  rw [OK_bindE, h14]
  refine OK_mono (iter_up (fun i st => i ≤ N ∧ ∃ u : Hp, st = (((lyS N A g i).1 : Int), lIx (lyS N A g i).2, (VV N A g (lyS N A g i).1 (lyS N A g i).2).1, (i : Int), u) ∧ (∀ k, k < i → u 74 k = ((lyC N A g (lyS N A g k).1 (lyS N A g k).2 : Nat) : Int)) ∧ ∀ e j, e ≠ 74 → u e j = h e j) (fun z => (∀ i, i < N → z 74 i = ((lyC N A g (lyS N A g i).1 (lyS N A g i).2 : Nat) : Int)) ∧ ∀ e j, e ≠ 74 → z e j = h e j) N (by omega) (fun i st hi hI => ?_) ⟨Nat.zero_le _, h, rfl, fun k hk => by omega, fun _ _ _ => rfl⟩) (fun z hz => by rw [OK_some]; exact hz)
  obtain ⟨-, u, rfl, u1, uf⟩ := hI
  unfold X5_layLeast_l9
  dsimp only
  simp only [uf 66 5 (by decide), h5, w32_id (z := (N : Int)) (by omega) (by omega), w32_id (z := (i : Int)) (by omega) (by omega)]
  refine OK_if (fun c => ?_) (fun c => ?_)
  · rw [OK_some, LQ_r]
    have : i = N := by omega
    subst this
    exact ⟨u1, uf⟩
  · have hiN : i < N := by omega
    obtain ⟨k1, k2, k3, k4⟩ := lyS_g G h0 i (by omega)
    obtain ⟨k1', k2', k3', k4'⟩ := lyS_g G h0 (i + 1) (by omega)
    obtain ⟨c1, c2, c3, c4⟩ := lyC_g G (by omega) k3
    rw [lyS_s] at k1' k2' k3' k4'
    dsimp only at k1' k2' k3' k4'
    have Hu : grX N A g u := grX_cg (uf 66 5 (by decide)) (funext fun j => uf 70 j (by decide)) (funext fun j => uf 71 j (by decide)) H
    have lok : (lyS N A g i).2 < N ∨ (lyS N A g i).2 = 10 := by
      rcases k4 with ⟨-, e⟩ | ⟨-, -, e, -⟩
      · rw [e]
        exact Or.inr rfl
      · exact Or.inl e
    have vb := VV_bd G (lyS N A g i).1 (lyS N A g i).2
    have ch : iter (X5_layLeast_l15 ((lyS N A g i).1 : Int) (lIx (lyS N A g i).2) ((VV N A g (lyS N A g i).1 (lyS N A g i).2).1) (i : Int)) FU (0, u) = some (((lyC N A g (lyS N A g i).1 (lyS N A g i).2 : Nat) : Int), u) := by
      have key : OK (iter (X5_layLeast_l15 ((lyS N A g i).1 : Int) (lIx (lyS N A g i).2) ((VV N A g (lyS N A g i).1 (lyS N A g i).2).1) (i : Int)) FU (0, u)) (fun z => z = (((lyC N A g (lyS N A g i).1 (lyS N A g i).2 : Nat) : Int), u)) := by
        refine iter_up (fun a st => a ≤ lyC N A g (lyS N A g i).1 (lyS N A g i).2 ∧ st = ((a : Int), u)) _ (lyC N A g (lyS N A g i).1 (lyS N A g i).2) (by omega) (fun a st ha hI => ?_) ⟨Nat.zero_le _, rfl⟩
        obtain ⟨-, rfl⟩ := hI
        unfold X5_layLeast_l15
        dsimp only
        simp only [uf 66 5 (by decide), h5, w32_id (z := (N : Int)) (by omega) (by omega), w32_id (z := (a : Int)) (by omega) (by omega)]
        refine OK_gn (by omega) ?_
        have cb := cd_bd G (s := (lyS N A g i).1) (l := (lyS N A g i).2) (a := a) (by omega)
        rw [behind_s G Hu k1 (by omega) rfl lok (fun q => by rw [uf 72 _ (by decide)]; exact (T _ a (by have := or2_gt q; omega) (or2_lt k1 (by omega)) (by omega) (by rw [tb_or2, decide_eq_true rfl, Bool.or_true])).1), OK_bindE, OK_some]
        have mb : -1000000 ≤ mpV (cdV N A g (VV N A g) (lyS N A g i).1 (lyS N A g i).2 a) ∧ mpV (cdV N A g (VV N A g) (lyS N A g i).1 (lyS N A g i).2 a) ≤ 20000 := by
          unfold mpV
          split <;> omega
        simp only [w32_id (z := mpV (cdV N A g (VV N A g) (lyS N A g i).1 (lyS N A g i).2 a)) (by omega) (by omega), w32_id (z := (VV N A g (lyS N A g i).1 (lyS N A g i).2).1) (by omega) (by omega)]
        by_cases e : a = lyC N A g (lyS N A g i).1 (lyS N A g i).2
        · refine OK_gd (by rw [e]; exact c2) ?_
          rw [OK_some, LQ_r, e]
        · refine OK_gn (c4 a (by omega)) ?_
          rw [OK_some, LQ_l]
          exact ⟨by omega, by omega, rfl⟩
      obtain ⟨z, ez, hz⟩ := OK_ex key
      rw [ez, hz]
    rw [ch, OK_bindE, OK_some, put_e (a := 74) (n := 10) i rfl (by omega) (by omega), OK_bindE, OK_some]
    dsimp only
    rw [or2_i (by omega) (by omega)]
    have tk : h 72 (10 * ((lyS N A g i).1 ||| 2 ^ lyC N A g (lyS N A g i).1 (lyS N A g i).2) + lyC N A g (lyS N A g i).1 (lyS N A g i).2) = (VV N A g ((lyS N A g i).1 ||| 2 ^ lyC N A g (lyS N A g i).1 (lyS N A g i).2) (lyC N A g (lyS N A g i).1 (lyS N A g i).2)).1 := by
      rcases k4' with ⟨q, -⟩ | ⟨-, q1, q2, q3⟩
      · omega
      · rw [(T _ _ (by omega) k1' q2 q3).1]
        unfold mpV
        rw [if_neg k3']
    rw [at_e (a := 72) (n := 10240) (10 * ((lyS N A g i).1 ||| 2 ^ lyC N A g (lyS N A g i).1 (lyS N A g i).2) + lyC N A g (lyS N A g i).1 (lyS N A g i).2) (by omega) (by omega) (by omega), OK_bindE, OK_some, setH_o (show (72 : Nat) ≠ 74 by decide), uf 72 _ (by decide), tk, OK_some, LQ_l]
    have el : lIx (lyC N A g (lyS N A g i).1 (lyS N A g i).2) = ((lyC N A g (lyS N A g i).1 (lyS N A g i).2 : Nat) : Int) := by
      unfold lIx
      rw [if_neg (by omega)]
    refine ⟨hiN, by omega, _, by (rw [lyS_s]; dsimp only; rw [el]; rfl), fun k hk => ?_, fun e j q => by rw [setH_o q, uf e j q]⟩
    by_cases e : k = i
    · subst e
      rw [setH_s]
    · rw [setH_n e]
      exact u1 k (by omega)
