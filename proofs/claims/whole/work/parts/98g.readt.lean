theorem pA_s (B : Nat → Int) (w n k p : Nat) (l : List CL) : pA B w n (k + 1) p l = if n ≤ p then Sum.inr l else if B p = 59 then (match pK B w l.length (p + 1) with | Sum.inl f => Sum.inl f | Sum.inr (q, c) => pA B w n k q (l ++ [c])) else Sum.inl (-1000 - (p : Int)) := rfl
theorem clause_f {w : Nat} {h : Hp} (hf : w32 (h 18 4) ≠ 0) : OK (X6_readClause w h) (fun h' => F2 h h' ∧ h' 18 4 = h 18 4) := by
  unfold X6_readClause
  rw [nextIsOf_f hf, OK_bindE, OK_some]
  refine OK_gn (fun q => q rfl) ?_
  rw [blame_f hf, OK_bindE, OK_some, OK_some]
  exact ⟨F2_rf, rfl⟩
/-- what the reading of the clauses leaves, before anything is taken over -/
def RWx (n : Nat) (B : Nat → Int) (h : Hp) (r : Int ⊕ List CL) (h' : Hp) : Prop := F2 h h' ∧ match r with
  | .inl f => h' 18 4 = f ∧ -100000 ≤ f ∧ f < 0
  | .inr l => (1 ≤ l.length ∧ l.length ≤ 12) ∧ ∃ q b, PX h' n B q b ∧ h' 19 0 = (l.length : Int) ∧ KX h' 19 l b
theorem clauses_x {w t n q0 b0 : Nat} {B : Nat → Int} {h0 h : Hp} {c0 : CL} (hw : w < 10) (f0 : F2 h0 h) (P : PX h n B q0 b0) (hc : h 19 0 = 1) (K : KX h 19 [c0] b0) : OK (iter (X6_read_l17 w t) FU (0, h)) (RWx n B h0 (pA B w n 12 q0 [c0])) := by
  refine iter_up (fun i s => i ≤ 12 ∧ ∃ h' : Hp, s = ((i : Int), h') ∧ F2 h0 h' ∧ ((∃ (q b : Nat) (l : List CL), l.length = i + 1 ∧ i + 1 ≤ 12 ∧ PX h' n B q b ∧ h' 19 0 = (l.length : Int) ∧ KX h' 19 l b ∧ pA B w n 12 q0 [c0] = pA B w n (12 - i) q l) ∨ (∃ f, h' 18 4 = f ∧ (-100000 ≤ f ∧ f < 0) ∧ pA B w n 12 q0 [c0] = .inl f))) _ 13 (by omega) (fun i s hi hI => ?_) ⟨by omega, h, rfl, f0, Or.inl ⟨q0, b0, [c0], rfl, by omega, P, hc, K, rfl⟩⟩
  obtain ⟨hi1, h', rfl, fr, hh⟩ := hI
  unfold X6_read_l17
  (try dsimp only)
  rw [show w32 12 = 12 from rfl, w32_id (z := (i : Int)) (by omega) (by omega)]
  rcases hh with ⟨q, b, l, hl, hi12, P', hc', K', ep⟩ | ⟨f, hf, hfb, ep⟩
  · have p4 := P'.1.2.2.1
    have p2 := P'.1.1
    have p3 := P'.1.2.1
    have pb := P'.2.1
    refine OK_gn (by omega) ?_
    have wn := w32_id (z := (n : Int)) (by omega) (by omega)
    have wq := w32_id (z := (q : Int)) (by omega) (by omega)
    refine OK_gn (by rw [p4]; exact fun z => z rfl) ?_
    rw [show 12 - i = (11 - i) + 1 by omega] at ep
    replace ep := ep.trans (pA_s B w n (11 - i) q l)
    by_cases e : n ≤ q
    · rw [if_pos e] at ep
      refine OK_gd (by rw [p2, p3, wn, wq]; omega) ?_
      rw [OK_some, LQ_r, ep]
      exact ⟨fr, by omega, q, b, P', hc', K'⟩
    · rw [if_neg e] at ep
      refine OK_gn (by rw [p2, p3, wn, wq]; omega) ?_
      rw [OK_bindE]
      refine OK_mono (expect_s P' (c := 59) (by omega)) (fun g hg => ?_)
      obtain ⟨g1, g2⟩ := hg
      by_cases e2 : B q = 59
      · rw [if_pos e2] at g2 ep
        obtain ⟨g3, g4, g5⟩ := g2
        have K2 : KX g 19 l b := by
          obtain ⟨k1, k2⟩ := K'
          have e22 : ∀ i, g 22 i = h' 22 i := fun i => g1 22 i (by omega) (by omega) (by omega) (by omega)
          have bb : ∀ i, beA g 19 i = beA h' 19 i := fun i => beA_cg (fun j _ => e22 j)
          refine ⟨by rw [bb]; exact k1, fun i c hi => ?_⟩
          obtain ⟨b', e', q1, q2, q3, q4, q5, q6, q7⟩ := k2 i c hi
          refine ⟨b', e', (g1 20 i (by omega) (by omega) (by omega) (by omega)).trans q1, q2, (g1 21 i (by omega) (by omega) (by omega) (by omega)).trans q3, (e22 i).trans q4, q5, by rw [bb]; exact XS_cg (fun p' _ _ => g5 p') q6, XS_cg (fun p' _ _ => g5 p') q7⟩
        rw [OK_bindE]
        refine OK_mono (clause_x hw g4 ((g1 19 0 (by omega) (by omega) (by omega) (by omega)).trans hc') (by omega) K2) (fun z hz => ?_)
        obtain ⟨z1, z2⟩ := hz
        rw [OK_some, LQ_l]
        refine ⟨by omega, by omega, z, rfl, F2_tr (F2_tr fr (F2_1 g1)) z1, ?_⟩
        cases ek : pK B w l.length (q + 1) with
        | inl f =>
          rw [ek] at z2 ep
          exact Or.inr ⟨f, z2.1, z2.2, ep⟩
        | inr y =>
          obtain ⟨q', c⟩ := y
          rw [ek] at z2 ep
          obtain ⟨z3, z4, b', z5, z6, z7⟩ := z2
          exact Or.inl ⟨q', b', l ++ [c], by rw [List.length_append]; show l.length + 1 = _; omega, by omega, z5, by rw [List.length_append]; exact z6, z7, by rw [ep]; show pA B w n (11 - i) q' (l ++ [c]) = pA B w n (12 - (i + 1)) q' (l ++ [c]); rw [show 12 - (i + 1) = 11 - i by omega]⟩
      · rw [if_neg e2] at g2 ep
        rw [OK_bindE]
        refine OK_mono (clause_f (flt_ne g2.1 g2.2.1 g2.2.2)) (fun z hz => ?_)
        rw [OK_some, LQ_l]
        exact ⟨by omega, by omega, z, rfl, F2_tr (F2_tr fr (F2_1 g1)) hz.1, Or.inr ⟨_, hz.2.trans g2.1, g2.2, ep⟩⟩
  · refine OK_if (fun c => ?_) (fun c => ?_)
    · rw [OK_some, LQ_r, ep]
      exact ⟨fr, hf, hfb.1, hfb.2⟩
    · refine OK_gd (flt_ne hf hfb.1 hfb.2) ?_
      rw [OK_some, LQ_r, ep]
      exact ⟨fr, hf, hfb.1, hfb.2⟩
theorem cpyH_o {h : Hp} {a b n c : Nat} (hc : c ≠ b) : cpyH h a b n c = h c := funext fun i => if_neg (fun q => hc q.1)
theorem cpyH_s {h : Hp} {a b n i : Nat} (hi : i < n) : cpyH h a b n b i = h a i := if_pos ⟨rfl, hi⟩
theorem cpyH_f {h : Hp} {a b n c i : Nat} (hc : ¬ (c = b ∧ i < n)) : cpyH h a b n c i = h c i := if_neg hc
/-- taking over what was read -/
theorem over_x {t n q b : Nat} {B : Nat → Int} {h : Hp} {l : List CL} (ht : 25 ≤ t) (P : PX h n B q b) (hc : h 19 0 = (l.length : Int)) (hl : l.length ≤ 12) (K : KX h 19 l b) : OK (X10_takeOver t h) (fun h' => (h' t 0 = (l.length : Int) ∧ KX h' t l b ∧ b ≤ 160 ∧ CKx (h' (t + 4)) (h' (t + 5)) b) ∧ ∀ c j, ¬ (c = t ∧ (j = 0 ∨ j = 1)) → ¬ (t + 1 ≤ c ∧ c ≤ t + 5) → h' c j = h c j) := by
  have pb := P.2.1
  have pk := P.2.2.2.2
  unfold X10_takeOver
  rw [OK_some]
  generalize hg : setH (setH h t 0 (h 19 0)) t 1 ((setH h t 0 (h 19 0)) 19 1) = g
  have g0 : g t 0 = (l.length : Int) := by rw [← hg, setH_n (by decide), setH_s, hc]
  have go : ∀ c j, ¬ (c = t ∧ (j = 0 ∨ j = 1)) → g c j = h c j := fun c j hn => by rw [← hg, setH_f (by omega), setH_f (by omega)]
  have k1 : ∀ j, j < 12 → cpyH (cpyH (cpyH (cpyH (cpyH g 20 (t + 1) 12) 21 (t + 2) 12) 22 (t + 3) 12) 23 (t + 4) 160) 24 (t + 5) 160 (t + 1) j = h 20 j := fun j hj => by
    rw [cpyH_o (by omega), cpyH_o (by omega), cpyH_o (by omega), cpyH_o (by omega), cpyH_s hj]
    exact go 20 j (by omega)
  have k2 : ∀ j, j < 12 → cpyH (cpyH (cpyH (cpyH (cpyH g 20 (t + 1) 12) 21 (t + 2) 12) 22 (t + 3) 12) 23 (t + 4) 160) 24 (t + 5) 160 (t + 2) j = h 21 j := fun j hj => by
    rw [cpyH_o (by omega), cpyH_o (by omega), cpyH_o (by omega), cpyH_s hj, cpyH_o (by omega)]
    exact go 21 j (by omega)
  have k3 : ∀ j, j < 12 → cpyH (cpyH (cpyH (cpyH (cpyH g 20 (t + 1) 12) 21 (t + 2) 12) 22 (t + 3) 12) 23 (t + 4) 160) 24 (t + 5) 160 (t + 3) j = h 22 j := fun j hj => by
    rw [cpyH_o (by omega), cpyH_o (by omega), cpyH_s hj, cpyH_o (by omega), cpyH_o (by omega)]
    exact go 22 j (by omega)
  have k4 : ∀ j, j < 160 → cpyH (cpyH (cpyH (cpyH (cpyH g 20 (t + 1) 12) 21 (t + 2) 12) 22 (t + 3) 12) 23 (t + 4) 160) 24 (t + 5) 160 (t + 4) j = h 23 j := fun j hj => by
    rw [cpyH_o (by omega), cpyH_s hj, cpyH_o (by omega), cpyH_o (by omega), cpyH_o (by omega)]
    exact go 23 j (by omega)
  have k5 : ∀ j, j < 160 → cpyH (cpyH (cpyH (cpyH (cpyH g 20 (t + 1) 12) 21 (t + 2) 12) 22 (t + 3) 12) 23 (t + 4) 160) 24 (t + 5) 160 (t + 5) j = h 24 j := fun j hj => by
    rw [cpyH_s hj, cpyH_o (by omega), cpyH_o (by omega), cpyH_o (by omega), cpyH_o (by omega)]
    exact go 24 j (by omega)
  have kt : ∀ c j, ¬ (t + 1 ≤ c ∧ c ≤ t + 5) → cpyH (cpyH (cpyH (cpyH (cpyH g 20 (t + 1) 12) 21 (t + 2) 12) 22 (t + 3) 12) 23 (t + 4) 160) 24 (t + 5) 160 c j = g c j := fun c j hn => by
    rw [cpyH_o (by omega), cpyH_o (by omega), cpyH_o (by omega), cpyH_o (by omega), cpyH_o (by omega)]
  generalize cpyH (cpyH (cpyH (cpyH (cpyH g 20 (t + 1) 12) 21 (t + 2) 12) 22 (t + 3) 12) 23 (t + 4) 160) 24 (t + 5) 160 = y at k1 k2 k3 k4 k5 kt ⊢
  obtain ⟨K1, K2⟩ := K
  have bb : ∀ i, i ≤ 12 → beA y t i = beA h 19 i := fun i hi => by
    unfold beA
    split
    · rfl
    · rw [k3 _ (by omega)]
  refine ⟨⟨by rw [kt t 0 (by omega)]; exact g0, ⟨by rw [bb _ hl]; exact K1, fun i c hi => ?_⟩, by omega, ?_⟩, fun c j h1 h2 => by rw [kt c j h2]; exact go c j h1⟩
  · have hil := (List.getElem?_eq_some_iff.mp hi).1
    obtain ⟨b', e', q1, q2, q3, q4, q5, q6, q7⟩ := K2 i c hi
    have q6' := q6.1
    have q7' := q7.1
    refine ⟨b', e', (k1 i (by omega)).trans q1, q2, (k2 i (by omega)).trans q3, (k3 i (by omega)).trans q4, q5, ?_, ?_⟩
    · rw [bb i (by omega)]
      exact XS_cg (fun p' h1 h2 => ⟨k4 p' (by omega), k5 p' (by omega)⟩) q6
    · exact XS_cg (fun p' h1 h2 => ⟨k4 p' (by omega), k5 p' (by omega)⟩) q7
  · intro j hj
    have := pk j hj
    rw [k4 j (by omega), k5 j (by omega)]
    exact this
/-- the reading of a text at t: its answer, and the text -/
theorem read_x {w t n : Nat} {h : Hp} (hw : w < 10) (ht : 25 ≤ t) (hn : n ≤ 160) (h1 : (n : Int) ≤ h 1 1) (h2 : h 1 1 ≤ 200) (hb : ∀ j, 0 ≤ h 2 j ∧ h 2 j ≤ 255) : OK (X6_read w t (n : Int) h) (fun z => (∀ c j, c ≠ 18 → c ≠ 19 → ¬ (20 ≤ c ∧ c ≤ 24) → ¬ (c = t ∧ (j = 0 ∨ j = 1)) → ¬ (t + 1 ≤ c ∧ c ≤ t + 5) → z.2 c j = h c j) ∧ match pW (fun j => if j < n then h 2 j else 0) w n with
    | .inl f => z.1 = f ∧ (-100000 ≤ f ∧ f < 0) ∧ (z.2 t = h t ∧ ∀ c, t + 1 ≤ c → c ≤ t + 5 → z.2 c = h c)
    | .inr l => z.1 = (l.length : Int) ∧ (1 ≤ l.length ∧ l.length ≤ 12) ∧ z.2 t 0 = (l.length : Int) ∧ ∃ b, KX z.2 t l b ∧ b ≤ 160 ∧ CKx (z.2 (t + 4)) (z.2 (t + 5)) b) := by
  unfold X6_read X10_clear
  rw [OK_bindE, OK_some, OK_bindE]
  generalize hg : setH (setH (setH (setH (setH h 18 2 (n : Int)) 18 3 0) 18 4 0) 19 0 0) 19 1 0 = g
  have go : ∀ c j, c ≠ 18 → c ≠ 19 → g c j = h c j := fun c j h1 h2 => by rw [← hg, setH_o h2, setH_o h2, setH_o h1, setH_o h1, setH_o h1]
  have P0 : PX g n (fun j => if j < n then h 2 j else 0) 0 0 := by
    refine ⟨⟨?_, ?_, ?_, ?_⟩, ⟨by omega, by omega, hn, ?_, ?_⟩, ?_, ?_, fun j hj => by omega⟩
    · rw [← hg]
      simp (disch := decide) only [setH_o, setH_s, setH_n]
    · rw [← hg]
      simp (disch := decide) only [setH_o, setH_s, setH_n]
      rfl
    · rw [← hg]
      simp (disch := decide) only [setH_o, setH_s, setH_n]
    · rw [← hg]
      simp (disch := decide) only [setH_o, setH_s, setH_n]
      rfl
    · rw [go 1 1 (by decide) (by decide)]
      exact h1
    · rw [go 1 1 (by decide) (by decide)]
      exact h2
    · intro j
      rw [go 2 j (by decide) (by decide)]
      exact hb j
    · intro j
      rw [go 2 j (by decide) (by decide)]
  have c0 : g 19 0 = (([] : List CL).length : Int) := by
    rw [← hg]
    simp (disch := decide) only [setH_o, setH_s, setH_n]
    rfl
  have K0 : KX g 19 [] 0 := ⟨rfl, fun i c hi => by cases hi⟩
  refine OK_mono (clause_x hw P0 c0 (by decide) K0) (fun y hy => ?_)
  obtain ⟨y1, y2⟩ := hy
  have fin : ∀ r : Int ⊕ List CL, pW (fun j => if j < n then h 2 j else 0) w n = r → ∀ u, RWx n (fun j => if j < n then h 2 j else 0) g r u → OK (if w32 (u 18 4) = 0 then (X10_takeOver t u).bind fun r6 => (X10_clauses t r6).bind fun r7 => some (r7, r6) else some (u 18 4, u)) (fun z => (∀ c j, c ≠ 18 → c ≠ 19 → ¬ (20 ≤ c ∧ c ≤ 24) → ¬ (c = t ∧ (j = 0 ∨ j = 1)) → ¬ (t + 1 ≤ c ∧ c ≤ t + 5) → z.2 c j = h c j) ∧ match r with
    | .inl f => z.1 = f ∧ (-100000 ≤ f ∧ f < 0) ∧ (z.2 t = h t ∧ ∀ c, t + 1 ≤ c → c ≤ t + 5 → z.2 c = h c)
    | .inr l => z.1 = (l.length : Int) ∧ (1 ≤ l.length ∧ l.length ≤ 12) ∧ z.2 t 0 = (l.length : Int) ∧ ∃ b, KX z.2 t l b ∧ b ≤ 160 ∧ CKx (z.2 (t + 4)) (z.2 (t + 5)) b) := by
    intro r er u hu
    obtain ⟨u1, u2⟩ := hu
    have fu : ∀ c j, c ≠ 18 → c ≠ 19 → ¬ (20 ≤ c ∧ c ≤ 24) → u c j = h c j := fun c j h1 h2 h3 => (u1 c j h2 h3 (by omega)).trans (go c j h1 h2)
    cases r with
    | inl f =>
      refine OK_gn (flt_ne u2.1 u2.2.1 u2.2.2) ?_
      rw [OK_some]
      exact ⟨fun c j h1 h2 h3 _ _ => fu c j h1 h2 h3, u2.1, u2.2, funext fun j => fu t j (by omega) (by omega) (by omega), fun c k1 k2 => funext fun j => fu c j (by omega) (by omega) (by omega)⟩
    | inr l =>
      obtain ⟨u3, q, b, u4, u5, u6⟩ := u2
      refine OK_gd (by rw [u4.1.2.2.1]; rfl) ?_
      rw [OK_bindE]
      refine OK_mono (over_x ht u4 u5 u3.2 u6) (fun v hv => ?_)
      obtain ⟨⟨v1, v2, v3, v4⟩, v5⟩ := hv
      unfold X10_clauses
      rw [OK_bindE, OK_some, OK_some]
      exact ⟨fun c j h1 h2 h3 h4 h5 => (v5 c j h4 h5).trans (fu c j h1 h2 h3), v1, u3, v1, b, v2, v3, v4⟩
  rw [OK_bindE]
  have e00 : ([] : List CL).length = 0 := rfl
  rw [e00] at y2
  cases ek : pK (fun j => if j < n then h 2 j else 0) w 0 0 with
  | inl f =>
    rw [ek] at y2
    have hne := flt_ne y2.1 y2.2.1 y2.2.2
    have er : pW (fun j => if j < n then h 2 j else 0) w n = .inl f := by
      unfold pW
      rw [ek]
    have I : OK (iter (X6_read_l17 w t) FU (0, y)) (fun u => u = y) := by
      refine iter_up (fun b s => b = 0 ∧ s = (0, y)) _ 0 (by omega) (fun b s hb hI => ?_) ⟨rfl, rfl⟩
      obtain ⟨-, rfl⟩ := hI
      unfold X6_read_l17
      (try dsimp only)
      refine OK_gn (by decide) ?_
      refine OK_gd hne ?_
      rw [OK_some, LQ_r]
    refine OK_mono I (fun u hu => ?_)
    subst hu
    rw [er]
    exact fin (.inl f) er u ⟨y1, y2⟩
  | inr z =>
    obtain ⟨q, c⟩ := z
    rw [ek] at y2
    obtain ⟨y3, y4, b, y5, y6, y7⟩ := y2
    have er : pW (fun j => if j < n then h 2 j else 0) w n = pA (fun j => if j < n then h 2 j else 0) w n 12 q [c] := by
      unfold pW
      rw [ek]
    refine OK_mono (clauses_x hw y1 y5 y6 y7) (fun u hu => ?_)
    rw [er]
    exact fin _ er u hu
