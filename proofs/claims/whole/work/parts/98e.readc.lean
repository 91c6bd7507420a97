theorem comp_x {n p a d : Nat} {B : Nat → Int} {h : Hp} (hd : d ≤ 6) (P : PX h n B p a) (ha : a + 1 ≤ p) : OK (X6_readComparison (d : Int) h) (RX n B 16 p a h (pQ B d p)) := by
  unfold X6_readComparison pQ
  rw [OK_bindE]
  refine OK_mono (E_x 60 2 d p a h (by omega) hd (by omega) P ha) (fun g hg => ?_)
  obtain ⟨g1, g2⟩ := hg
  cases er : pE B 60 2 d p with
  | inl f =>
    rw [er] at g2
    obtain ⟨g3, g4, g5⟩ := g2
    have hne := flt_ne g3 g4 g5
    rw [nextIsOf_f hne, OK_bindE, OK_some]
    refine OK_gn (fun q => q rfl) ?_
    rw [blame_f hne, OK_bindE, OK_some, OK_some]
    exact ⟨g1, g3, g4, g5⟩
  | inr z =>
    obtain ⟨q, v⟩ := z
    rw [er] at g2
    obtain ⟨g3, b, g4, g5, g6, g7⟩ := g2
    have s7 := g7.1
    dsimp only
    rw [nextIsOf_s g5 (by omega), OK_bindE, OK_some]
    by_cases k : inSg 4 (B q) = true
    · have hq := sg_lt g5 (by omega) k
      have bq := PX_B g5 q
      rw [if_pos k, if_pos k]
      refine OK_gd (by decide) ?_
      rw [next_s g5, if_pos hq, OK_bindE, OK_some, OK_bindE]
      refine OK_mono (E_x 60 2 d (q + 1) b _ (by omega) hd (by omega) (PX_up g5 hq) (by omega)) (fun y hy => ?_)
      obtain ⟨y1, y2⟩ := hy
      have fr := F1_tr (F1_tr g1 F1_up) y1
      cases er2 : pE B 60 2 d (q + 1) with
      | inl f =>
        rw [er2] at y2
        obtain ⟨y3, y4, y5⟩ := y2
        rw [OK_bindE]
        refine OK_mono add_f (fun z hz => ?_)
        rw [OK_some]
        exact ⟨F1_tr fr hz.1, hz.2.trans y3, y4, y5⟩
      | inr z =>
        obtain ⟨r, u⟩ := z
        rw [er2] at y2
        obtain ⟨y3, b2, y4, y5, y6, y7⟩ := y2
        have s8 := y7.1
        have ho : B q = 60 ∨ B q = 61 ∨ B q = 62 := by
          obtain ⟨cv, hcv⟩ := Int.eq_ofNat_of_zero_le bq.1
          rw [hcv] at k
          have := (sg_4 ⟨cv, by omega⟩).mp k
          dsimp only at this
          omega
        rw [OK_bindE]
        refine OK_mono (add_s y5 (k := B q) (o := 0) (by omega) (by omega) (by omega) (by omega) (by omega)) (fun z hz => ?_)
        obtain ⟨z1, z2, z3, z4, z5⟩ := hz
        rw [OK_some]
        have ag : ∀ j, j < b → z 23 j = g 23 j ∧ z 24 j = g 24 j := fun j hj => by
          have t1 := z3 j (by omega)
          have t2 := y6 j hj
          rw [setH_o (by decide), setH_o (by decide)] at t2
          exact ⟨t1.1.trans t2.1, t1.2.trans t2.2⟩
        refine ⟨F1_tr fr z1, by omega, b2 + 1, by omega, z2, fun j hj => ⟨(ag j (by omega)).1.trans (g6 j hj).1, (ag j (by omega)).2.trans (g6 j hj).2⟩, ?_⟩
        have x1 : XS (z 23) (z 24) a b (13 + 2 - 2 * d) v := XS_cg (fun p _ h2 => ag p h2) g7
        have x2 : XS (z 23) (z 24) b b2 (13 + 2 - 2 * d) u := XS_cg (fun p _ h2 => z3 p h2) y7
        have x3 := XS_bin (q := b2) (nd := 16) x1 x2 (by rw [z4]; omega) ⟨by omega, by omega⟩
        rw [z4] at x3
        exact x3
    · rw [if_neg k, if_neg k]
      refine OK_gn (fun q => q rfl) ?_
      rw [OK_bindE]
      refine OK_mono (blame_s g5 (k := 1) (by omega)) (fun y hy => ?_)
      rw [OK_some]
      exact ⟨F1_tr g1 hy.1, hy.2.1, by have := hy.2.2; omega, by omega⟩
theorem piece_x {n p a d : Nat} {B : Nat → Int} {h : Hp} {rec : Nat → Int → Hp → Option Hp} {pc ch : Nat → Nat → PR} (hd : d ≤ 6) (h0 : d + 1 ≤ 6 → ∀ (p a : Nat) (h : Hp), PX h n B p a → a + 1 ≤ p → OK (rec 0 ((d : Int) + 1) h) (RX n B 16 p a h (pc (d + 1) p))) (h2 : d + 1 ≤ 6 → ∀ (p a : Nat) (h : Hp), PX h n B p a → a + 1 ≤ p → OK (rec 2 ((d : Int) + 1) h) (RX n B 16 p a h (ch (d + 1) p))) (P : PX h n B p a) (ha : a + 1 ≤ p) : OK (X6_readPiece rec (d : Int) h) (RX n B 16 p a h (pP B pc ch d p)) := by
  have b := PX_B P p
  have hf := P.1.2.2.1
  have hpn := P.2.1
  have nxt : ∀ c : Int, 1 ≤ c ∧ c ≤ 255 → B p = c → p < n := fun c hc e => by
    by_cases q : p < n
    · exact q
    · have := b.2.2 (by omega)
      omega
  have wn : ∀ c : Int, 1 ≤ c ∧ c ≤ 255 → B p ≠ c → w32 (if p < n then B p else -1) ≠ w32 c := fun c hc e => by
    rw [w32_id (z := c) (by omega) (by omega)]
    split
    · rw [w32_id (by omega) (by omega)]
      exact e
    · rw [show w32 (-1) = -1 from rfl]
      omega
  unfold X6_readPiece pP
  rw [hf]
  refine OK_gd rfl ?_
  rw [next_s P, OK_bindE, OK_some]
  by_cases c : B p = 33
  · have hp := nxt 33 (by omega) c
    rw [if_pos hp, c, if_pos rfl]
    refine OK_gn (fun q => q rfl) ?_
    rw [OK_bindE, show (d : Int) + 1 = ((d + 1 : Nat) : Int) from rfl]
    refine OK_mono (opens_s P hp (by omega)) (fun z hz => ?_)
    obtain ⟨z1, z2⟩ := hz
    by_cases k : 6 < d + 1
    · rw [if_pos k] at z2 ⊢
      rw [z2.1]
      refine OK_gd (by decide) ?_
      exact ⟨z1, z2.2.1, z2.2.2.1, z2.2.2.2⟩
    · rw [if_neg k] at z2 ⊢
      obtain ⟨z3, z4, z5⟩ := z2
      rw [z3]
      refine OK_gn (by decide) ?_
      rw [OK_bindE]
      refine OK_mono (h0 (by omega) (p + 1) a z.2 z4 (by omega)) (fun g hg => ?_)
      obtain ⟨g1, g2⟩ := hg
      cases er : pc (d + 1) (p + 1) with
      | inl f =>
        rw [er] at g2
        dsimp only
        obtain ⟨g3, g4, g5⟩ := g2
        rw [OK_bindE]
        refine OK_mono add_f (fun y hy => ?_)
        rw [OK_some]
        exact ⟨F1_tr (F1_tr z1 g1) hy.1, hy.2.trans g3, g4, g5⟩
      | inr y =>
        obtain ⟨q, v⟩ := y
        rw [er] at g2
        dsimp only
        obtain ⟨g3, b', g4, g5, g6, g7⟩ := g2
        have s7 := g7.1
        rw [OK_bindE]
        refine OK_mono (add_s g5 (k := 33) (o := 0) (by omega) (by omega) (by omega) (by omega) (by omega)) (fun y hy => ?_)
        obtain ⟨y1, y2, y3, y4, y5⟩ := hy
        rw [OK_some]
        refine ⟨F1_tr (F1_tr z1 g1) y1, by omega, b' + 1, by omega, y2, fun j hj => ?_, XS_not (XS_cg (fun p _ h2 => y3 p h2) g7) y4 (by omega)⟩
        have t1 := y3 j (by omega)
        have t2 := g6 j hj
        exact ⟨t1.1.trans (t2.1.trans (z5 j).1), t1.2.trans (t2.2.trans (z5 j).2)⟩
  · rw [if_neg c]
    refine OK_gd (wn 33 (by omega) c) ?_
    rw [OK_bindE, OK_some]
    by_cases c2 : B p = 40
    · have hp := nxt 40 (by omega) c2
      rw [if_pos hp, c2, if_pos rfl]
      refine OK_gn (fun q => q rfl) ?_
      rw [OK_bindE, show (d : Int) + 1 = ((d + 1 : Nat) : Int) from rfl]
      refine OK_mono (opens_s P hp (by omega)) (fun z hz => ?_)
      obtain ⟨z1, z2⟩ := hz
      by_cases k : 6 < d + 1
      · rw [if_pos k] at z2 ⊢
        rw [z2.1]
        refine OK_gd (by decide) ?_
        exact ⟨z1, z2.2.1, z2.2.2.1, z2.2.2.2⟩
      · rw [if_neg k] at z2 ⊢
        obtain ⟨z3, z4, z5⟩ := z2
        rw [z3]
        refine OK_gn (by decide) ?_
        rw [OK_bindE]
        refine OK_mono (h2 (by omega) (p + 1) a z.2 z4 (by omega)) (fun g hg => ?_)
        obtain ⟨g1, g2⟩ := hg
        cases er : ch (d + 1) (p + 1) with
        | inl f =>
          rw [er] at g2
          dsimp only
          obtain ⟨g3, g4, g5⟩ := g2
          rw [expect_f (flt_ne g3 g4 g5), OK_bindE, OK_some, OK_some]
          exact ⟨F1_tr z1 g1, g3, g4, g5⟩
        | inr y =>
          obtain ⟨q, v⟩ := y
          rw [er] at g2
          dsimp only
          obtain ⟨g3, b', g4, g5, g6, g7⟩ := g2
          rw [OK_bindE]
          refine OK_mono (expect_s g5 (c := 41) (by omega)) (fun y hy => ?_)
          obtain ⟨y1, y2⟩ := hy
          rw [OK_some]
          by_cases e : B q = 41
          · rw [if_pos e] at y2 ⊢
            obtain ⟨y3, y4, y5⟩ := y2
            refine ⟨F1_tr (F1_tr z1 g1) y1, by omega, b', by omega, y4, fun j hj => ?_, XS_cg (fun p _ _ => y5 p) g7⟩
            exact ⟨(y5 j).1.trans ((g6 j hj).1.trans (z5 j).1), (y5 j).2.trans ((g6 j hj).2.trans (z5 j).2)⟩
          · rw [if_neg e] at y2 ⊢
            exact ⟨F1_tr (F1_tr z1 g1) y1, y2.1, y2.2.1, y2.2.2⟩
    · rw [if_neg c2]
      refine OK_gd (wn 40 (by omega) c2) ?_
      rw [OK_bindE]
      refine OK_mono (comp_x hd P ha) (fun y hy => ?_)
      rw [OK_some]
      exact hy
/-- the one side reads a C by the grammar -/
theorem C_x {n : Nat} {B : Nat → Int} : ∀ (k tag d p a : Nat) (h : Hp), tag ≤ 2 → d ≤ 6 → 3 * (6 - d) + tag + 1 ≤ k → PX h n B p a → a + 1 ≤ p → OK (Rec54 k tag (d : Int) h) (RX n B 16 p a h (pC B k tag d p))
  | 0, tag, d, p, a, h, h1, h2, h3, _, _ => by omega
  | k + 1, tag, d, p, a, h, h1, h2, h3, P, ha => by
    match tag, h1, h3 with
    | 0, h1, h3 =>
      exact piece_x h2 (fun hd p a h P ha => C_x k 0 (d + 1) p a h (by omega) hd (by omega) P ha) (fun hd p a h P ha => C_x k 2 (d + 1) p a h (by omega) hd (by omega) P ha) P ha
    | 1, h1, h3 =>
      exact part_x (w := 5) (c := 38) (op := vAnd) (Or.inl ⟨rfl, rfl, rfl⟩) (fun p a h P ha => C_x k 0 d p a h (by omega) h2 (by omega) P ha) P ha
    | 2, h1, h3 =>
      exact part_x (w := 6) (c := 124) (op := vOr) (Or.inr ⟨rfl, rfl, rfl⟩) (fun p a h P ha => C_x k 1 d p a h (by omega) h2 (by omega) P ha) P ha
    | t + 3, h1, h3 => omega
theorem C_f {h : Hp} (hf : w32 (h 18 4) ≠ 0) (v : Int) : Rec54 60 2 v h = some h := by
  have p0 : ∀ k, Rec54 (k + 1) 0 v h = some h := fun k => by
    show X6_readPiece (Rec54 k) v h = some h
    unfold X6_readPiece
    exact if_neg hf
  have p1 : ∀ k, Rec54 (k + 2) 1 v h = some h := fun k => by
    show (Rec54 (k + 1) 0 v h).bind (fun r1 => (iter (gjp 5 38 (Rec54 (k + 1) 0 v)) FU (0, r1)).bind fun x7 => some x7) = some h
    rw [p0 k]
    obtain ⟨z, ez, e⟩ := OK_ex (join_f (w := 5) (c := 38) (sub := Rec54 (k + 1) 0 v) hf)
    show (iter (gjp 5 38 (Rec54 (k + 1) 0 v)) FU (0, h)).bind (fun x7 => some x7) = some h
    rw [ez, e]
    rfl
  show (Rec54 59 1 v h).bind (fun r1 => (iter (gjp 6 124 (Rec54 59 1 v)) FU (0, r1)).bind fun x7 => some x7) = some h
  rw [p1 57]
  obtain ⟨z, ez, e⟩ := OK_ex (join_f (w := 6) (c := 124) (sub := Rec54 59 1 v) hf)
  show (iter (gjp 6 124 (Rec54 59 1 v)) FU (0, h)).bind (fun x7 => some x7) = some h
  rw [ez, e]
  rfl
