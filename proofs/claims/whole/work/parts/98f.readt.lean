/-! READING A WHOLE TEXT, the one side -/
abbrev CL : Type := Int × Den × Den
def pK (B : Nat → Int) (w c p : Nat) : Int ⊕ (Nat × CL) :=
  if inSg w (B p) = true then (if c < 12 then (match pE B 60 2 0 (p + 1) with
    | .inl f => .inl f
    | .inr (q, v) => if B q = 40 then (match pC B 60 2 1 (q + 1) with
      | .inl f => .inl f
      | .inr (r, u) => if B r = 41 then .inr (r + 1, B p, v, u) else .inl (-1000 - (r : Int))) else .inl (-1000 - (q : Int))) else .inl (-4000 - (p : Int))) else .inl (-1000 - (p : Int))
def pA (B : Nat → Int) (w n : Nat) : Nat → Nat → List CL → Int ⊕ List CL
  | 0, _, l => .inr l
  | k + 1, p, l => if n ≤ p then .inr l else if B p = 59 then (match pK B w l.length (p + 1) with
    | .inl f => .inl f
    | .inr (q, c) => pA B w n k q (l ++ [c])) else .inl (-1000 - (p : Int))
def pW (B : Nat → Int) (w n : Nat) : Int ⊕ List CL := match pK B w 0 0 with
  | .inl f => .inl f
  | .inr (q, c) => pA B w n 12 q [c]
/-- the clauses that lie at t: their heads and steps -/
def KX (h : Hp) (t : Nat) (l : List CL) (a : Nat) : Prop := beA h t l.length = a ∧ ∀ i c, l[i]? = some c → ∃ b e : Nat, h (t + 1) i = c.1 ∧ (0 ≤ c.1 ∧ c.1 ≤ 255) ∧ h (t + 2) i = (b : Int) ∧ h (t + 3) i = (e : Int) ∧ e ≤ a ∧ XS (h (t + 4)) (h (t + 5)) (beA h t i) b 16 c.2.1 ∧ XS (h (t + 4)) (h (t + 5)) b e 16 c.2.2
def F2 (h h' : Hp) : Prop := ∀ c j, c ≠ 19 → ¬ (20 ≤ c ∧ c ≤ 24) → ¬ (c = 18 ∧ (j = 3 ∨ j = 4)) → h' c j = h c j
theorem F2_rf {h : Hp} : F2 h h := fun _ _ _ _ _ => rfl
theorem F2_tr {a b c : Hp} (f : F2 a b) (g : F2 b c) : F2 a c := fun x j h1 h2 h3 => (g x j h1 h2 h3).trans (f x j h1 h2 h3)
theorem F2_1 {a b : Hp} (f : F1 a b) : F2 a b := fun x j h1 h2 h3 => f x j h3 (fun q => h1 q.1) (by omega) (by omega)
theorem PX_cg {h h' : Hp} {n p a : Nat} {B : Nat → Int} (e1 : h' 18 = h 18) (e2 : h' 19 1 = h 19 1) (e3 : h' 1 = h 1) (e4 : h' 2 = h 2) (e5 : h' 23 = h 23) (e6 : h' 24 = h 24) (P : PX h n B p a) : PX h' n B p a := by
  unfold PX at P ⊢
  rw [e1, e2, e3, e4, e5, e6]
  exact P
theorem kend_f (h : Hp) : OK (X10_endClause 19 h) (fun h' => F2 h h' ∧ h' 18 4 = h 18 4) := by
  unfold X10_endClause
  rw [put_eq _ _ _ _ _ (by omega), OK_bindE, OK_some, OK_some]
  split
  · exact ⟨fun c j h1 h2 h3 => by rw [setH_o h1, setH_o (by omega)], by rw [setH_o (by decide), setH_o (by decide)]⟩
  · exact ⟨fun c j h1 h2 h3 => by rw [setH_o h1], by rw [setH_o (by decide)]⟩
theorem kC_f {h : Hp} (hf : w32 (h 18 4) ≠ 0) : OK ((X6_expect 41 h).bind fun r8 => (X10_endClause 19 r8).bind fun r9 => some r9) (fun h' => F2 h h' ∧ h' 18 4 = h 18 4) := by
  rw [expect_f hf, OK_bindE, OK_some, OK_bindE]
  exact OK_mono (kend_f h) (fun z hz => hz)
theorem kE_f {h : Hp} (hf : w32 (h 18 4) ≠ 0) : OK ((Rec54 FR 2 1 h).bind fun r7 => (X6_expect 41 r7).bind fun r8 => (X10_endClause 19 r8).bind fun r9 => some r9) (fun h' => F2 h h' ∧ h' 18 4 = h 18 4) := by
  rw [show Rec54 FR 2 1 h = some h from C_f hf 1, OK_bindE, OK_some]
  exact kC_f hf
theorem beA_cg {x y : Hp} {t j : Nat} (e : ∀ i, i < j → y (t + 3) i = x (t + 3) i) : beA y t j = beA x t j := by
  unfold beA
  split
  · rfl
  · rw [e _ (by omega)]
/-- what reading a clause leaves -/
def RKx (n : Nat) (B : Nat → Int) (p : Nat) (l : List CL) (h : Hp) (r : Int ⊕ (Nat × CL)) (h' : Hp) : Prop := F2 h h' ∧ match r with
  | .inl f => h' 18 4 = f ∧ -100000 ≤ f ∧ f < 0
  | .inr (q, c) => l.length < 12 ∧ p < q ∧ ∃ b, PX h' n B q b ∧ h' 19 0 = ((l.length + 1 : Nat) : Int) ∧ KX h' 19 (l ++ [c]) b
theorem clause_x {w n p a : Nat} {B : Nat → Int} {h : Hp} {l : List CL} (hw : w < 10) (P : PX h n B p a) (hc : h 19 0 = (l.length : Int)) (hl : l.length ≤ 12) (K : KX h 19 l a) : OK (X6_readClause w h) (RKx n B p l h (pK B w l.length p)) := by
  have bp := PX_B P p
  have hpn := P.2.1
  unfold X6_readClause pK X10_clauses
  rw [nextIsOf_s P hw, OK_bindE, OK_some]
  by_cases k : inSg w (B p) = true
  · have hp := sg_lt P hw k
    rw [if_pos k, if_pos k]
    refine OK_gd (by decide) ?_
    rw [OK_bindE, OK_some, hc, w32_id (z := (l.length : Int)) (by omega) (by omega), show w32 12 = 12 from rfl]
    by_cases c : l.length < 12
    · rw [if_pos c]
      refine OK_gd (by omega) ?_
      rw [next_s P, if_pos hp, OK_bindE, OK_some, OK_bindE]
      refine OK_mono (E_x 60 2 0 (p + 1) a _ (by omega) (by omega) (by omega) (PX_up P hp) (by omega)) (fun y hy => ?_)
      obtain ⟨y1, y2⟩ := hy
      have fr : F1 h y := F1_tr F1_up y1
      have c0 : y 19 0 = (l.length : Int) := (fr 19 0 (by omega) (by omega) (by omega) (by omega)).trans hc
      have ev : X10_endValue 19 (B p) y = some (setH (setH y 20 l.length (B p)) 21 l.length (y 19 1)) := by
        unfold X10_endValue
        rw [c0, put_e l.length rfl c (by omega)]
        show (X11_put (19 + 2) 12 (setH y 20 l.length (B p) 19 0) (setH y 20 l.length (B p) 19 1) (setH y 20 l.length (B p))).bind (fun r2 => some r2) = _
        rw [setH_o (b := 19) (by decide), c0, put_e l.length rfl c (by omega)]
        rfl
      rw [ev, OK_bindE, OK_some]
      have f2 : F2 h (setH (setH y 20 l.length (B p)) 21 l.length (y 19 1)) := F2_tr (F2_1 fr) (fun c j h1 h2 h3 => by rw [setH_o (by omega), setH_o (by omega)])
      have e18 : (setH (setH y 20 l.length (B p)) 21 l.length (y 19 1)) 18 = y 18 := by rw [setH_o (by decide), setH_o (by decide)]
      cases er : pE B 60 2 0 (p + 1) with
      | inl f =>
        rw [er] at y2
        obtain ⟨y3, y4, y5⟩ := y2
        have hne : w32 ((setH (setH y 20 l.length (B p)) 21 l.length (y 19 1)) 18 4) ≠ 0 := by rw [e18]; exact flt_ne y3 y4 y5
        rw [expect_f hne, OK_bindE, OK_some]
        refine OK_mono (kE_f hne) (fun z hz => ?_)
        exact ⟨F2_tr f2 hz.1, by rw [hz.2, e18]; exact y3, y4, y5⟩
      | inr z =>
        obtain ⟨q, v⟩ := z
        rw [er] at y2
        obtain ⟨y3, b, y4, y5, y6, y7⟩ := y2
        have s7 := y7.1
        have y191 : y 19 1 = (b : Int) := y5.1.2.2.2
        dsimp only
        rw [y191] at f2 e18 ⊢
        have P2 : PX (setH (setH y 20 l.length (B p)) 21 l.length (b : Int)) n B q b := PX_cg e18 (by rw [setH_o (by decide), setH_o (by decide)]) (by rw [setH_o (by decide), setH_o (by decide)]) (by rw [setH_o (by decide), setH_o (by decide)]) (by rw [setH_o (by decide), setH_o (by decide)]) (by rw [setH_o (by decide), setH_o (by decide)]) y5
        rw [OK_bindE]
        refine OK_mono (expect_s P2 (c := 40) (by omega)) (fun g hg => ?_)
        obtain ⟨g1, g2⟩ := hg
        have f3 := F2_tr f2 (F2_1 g1)
        by_cases e : B q = 40
        · rw [if_pos e] at g2 ⊢
          obtain ⟨g3, g4, g5⟩ := g2
          rw [OK_bindE]
          refine OK_mono (C_x 60 2 1 (q + 1) b g (by omega) (by omega) (by omega) g4 (by have := y5.2.1.1; omega)) (fun u hu => ?_)
          obtain ⟨u1, u2⟩ := hu
          have f4 := F2_tr f3 (F2_1 u1)
          cases er2 : pC B 60 2 1 (q + 1) with
          | inl f =>
            rw [er2] at u2
            obtain ⟨u3, u4, u5⟩ := u2
            refine OK_mono (kC_f (flt_ne u3 u4 u5)) (fun z hz => ?_)
            exact ⟨F2_tr f4 hz.1, hz.2.trans u3, u4, u5⟩
          | inr z =>
            obtain ⟨r, vc⟩ := z
            rw [er2] at u2
            obtain ⟨u3, b2, u4, u5, u6, u7⟩ := u2
            have s8 := u7.1
            dsimp only
            rw [OK_bindE]
            refine OK_mono (expect_s u5 (c := 41) (by omega)) (fun s hs => ?_)
            obtain ⟨s1, s2⟩ := hs
            have f5 := F2_tr f4 (F2_1 s1)
            by_cases e2 : B r = 41
            · rw [if_pos e2] at s2 ⊢
              obtain ⟨s3, s4, s5⟩ := s2
              have g190 : ∀ i, s 19 0 = (l.length : Int) ∧ s 20 i = (setH y 20 l.length (B p)) 20 i ∧ s 21 i = (setH (setH y 20 l.length (B p)) 21 l.length (b : Int)) 21 i ∧ s 22 i = h 22 i := fun i => by
                refine ⟨?_, ?_, ?_, ?_⟩
                · rw [s1 19 0 (by omega) (by omega) (by omega) (by omega), u1 19 0 (by omega) (by omega) (by omega) (by omega), g1 19 0 (by omega) (by omega) (by omega) (by omega), setH_o (by decide), setH_o (by decide)]
                  exact c0
                · rw [s1 20 i (by omega) (by omega) (by omega) (by omega), u1 20 i (by omega) (by omega) (by omega) (by omega), g1 20 i (by omega) (by omega) (by omega) (by omega), setH_o (b := 20) (by decide)]
                · rw [s1 21 i (by omega) (by omega) (by omega) (by omega), u1 21 i (by omega) (by omega) (by omega) (by omega), g1 21 i (by omega) (by omega) (by omega) (by omega)]
                · rw [s1 22 i (by omega) (by omega) (by omega) (by omega), u1 22 i (by omega) (by omega) (by omega) (by omega), g1 22 i (by omega) (by omega) (by omega) (by omega), setH_o (by decide), setH_o (by decide), fr 22 i (by omega) (by omega) (by omega) (by omega)]
              have s190 := (g190 0).1
              have s191 : s 19 1 = (b2 : Int) := s4.1.2.2.2
              have ec : X10_endClause 19 s = some (setH (setH s 22 l.length (b2 : Int)) 19 0 ((l.length : Int) + 1)) := by
                unfold X10_endClause
                rw [s190, s191, put_e l.length rfl c (by omega)]
                show some (setH (setH s 22 l.length (b2 : Int)) 19 0 ((setH s 22 l.length (b2 : Int)) 19 0 + 1)) = _
                rw [setH_o (by decide), s190]
              rw [ec, OK_bindE, OK_some, OK_some]
              have k23 : ∀ j, (j < a → s 23 j = h 23 j ∧ s 24 j = h 24 j) ∧ (j < b → s 23 j = y 23 j ∧ s 24 j = y 24 j) := fun j => by
                have t1 := s5 j
                have t3 := g5 j
                rw [setH_o (by decide), setH_o (by decide), setH_o (by decide), setH_o (by decide)] at t3
                refine ⟨fun hj => ?_, fun hj => ?_⟩
                · have t2 := u6 j (by omega)
                  have t4 := y6 j hj
                  rw [setH_o (by decide), setH_o (by decide)] at t4
                  exact ⟨t1.1.trans (t2.1.trans (t3.1.trans t4.1)), t1.2.trans (t2.2.trans (t3.2.trans t4.2))⟩
                · have t2 := u6 j hj
                  exact ⟨t1.1.trans (t2.1.trans t3.1), t1.2.trans (t2.2.trans t3.2)⟩
              refine ⟨F2_tr f5 (fun c j h1 h2 h3 => by rw [setH_o h1, setH_o (by omega)]), c, by omega, b2, PX_cg (by rw [setH_o (by decide), setH_o (by decide)]) (by rw [setH_n (by decide), setH_o (by decide)]) (by rw [setH_o (by decide), setH_o (by decide)]) (by rw [setH_o (by decide), setH_o (by decide)]) (by rw [setH_o (by decide), setH_o (by decide)]) (by rw [setH_o (by decide), setH_o (by decide)]) s4, by rw [setH_s]; rfl, ?_⟩
              have bl : b + (p + 1) ≤ a + q := y4
              have b2l : b2 + (q + 1) ≤ b + r := u4
              have sb : ∀ i, i ≤ l.length → beA (setH (setH s 22 l.length (b2 : Int)) 19 0 ((l.length : Int) + 1)) 19 i = beA h 19 i := fun i hi => beA_cg (fun j hj => by
                show setH (setH s 22 l.length (b2 : Int)) 19 0 ((l.length : Int) + 1) 22 j = h 22 j
                rw [setH_o (by decide), setH_n (by omega), (g190 j).2.2.2])
              obtain ⟨K1, K2⟩ := K
              refine ⟨?_, fun i cl hi => ?_⟩
              · rw [List.length_append]
                show beA _ 19 (l.length + 1) = b2
                unfold beA
                rw [if_neg (by omega), show l.length + 1 - 1 = l.length by omega]
                show (setH (setH s 22 l.length (b2 : Int)) 19 0 ((l.length : Int) + 1) 22 l.length).toNat = b2
                rw [setH_o (by decide), setH_s]
                omega
              · by_cases hil : i < l.length
                · rw [List.getElem?_append_left hil] at hi
                  obtain ⟨b', e', q1, q2, q3, q4, q5, q6, q7⟩ := K2 i cl hi
                  have q6' := q6.1
                  have q7' := q7.1
                  refine ⟨b', e', ?_, q2, ?_, ?_, by omega, ?_, ?_⟩
                  · show setH (setH s 22 l.length (b2 : Int)) 19 0 ((l.length : Int) + 1) 20 i = _
                    rw [setH_o (by decide), setH_o (by decide), (g190 i).2.1, setH_n (by omega), fr 20 i (by omega) (by omega) (by omega) (by omega)]
                    exact q1
                  · show setH (setH s 22 l.length (b2 : Int)) 19 0 ((l.length : Int) + 1) 21 i = _
                    rw [setH_o (by decide), setH_o (by decide), (g190 i).2.2.1, setH_n (by omega), setH_o (by decide), fr 21 i (by omega) (by omega) (by omega) (by omega)]
                    exact q3
                  · show setH (setH s 22 l.length (b2 : Int)) 19 0 ((l.length : Int) + 1) 22 i = _
                    rw [setH_o (by decide), setH_n (by omega), (g190 i).2.2.2]
                    exact q4
                  · rw [sb i (by omega)]
                    refine XS_cg (fun p' h1 h2 => ?_) q6
                    show setH (setH s 22 l.length (b2 : Int)) 19 0 ((l.length : Int) + 1) 23 p' = h 23 p' ∧ setH (setH s 22 l.length (b2 : Int)) 19 0 ((l.length : Int) + 1) 24 p' = h 24 p'
                    rw [setH_o (by decide), setH_o (by decide), setH_o (by decide), setH_o (by decide)]
                    exact (k23 p').1 (by omega)
                  · refine XS_cg (fun p' h1 h2 => ?_) q7
                    show setH (setH s 22 l.length (b2 : Int)) 19 0 ((l.length : Int) + 1) 23 p' = h 23 p' ∧ setH (setH s 22 l.length (b2 : Int)) 19 0 ((l.length : Int) + 1) 24 p' = h 24 p'
                    rw [setH_o (by decide), setH_o (by decide), setH_o (by decide), setH_o (by decide)]
                    exact (k23 p').1 (by omega)
                · have hie : i = l.length := by
                    have := (List.getElem?_eq_some_iff.mp hi).1
                    rw [List.length_append] at this
                    have e1 : ([(B p, v, vc)] : List CL).length = 1 := rfl
                    omega
                  subst hie
                  rw [List.getElem?_append_right (by omega), Nat.sub_self] at hi
                  have hcl : (B p, v, vc) = cl := Option.some.inj hi
                  subst hcl
                  refine ⟨b, b2, ?_, ⟨bp.1, bp.2.1⟩, ?_, ?_, by omega, ?_, ?_⟩
                  · show setH (setH s 22 l.length (b2 : Int)) 19 0 ((l.length : Int) + 1) 20 l.length = _
                    rw [setH_o (by decide), setH_o (by decide), (g190 l.length).2.1, setH_s]
                  · show setH (setH s 22 l.length (b2 : Int)) 19 0 ((l.length : Int) + 1) 21 l.length = _
                    rw [setH_o (by decide), setH_o (by decide), (g190 l.length).2.2.1, setH_s]
                  · show setH (setH s 22 l.length (b2 : Int)) 19 0 ((l.length : Int) + 1) 22 l.length = _
                    rw [setH_o (by decide), setH_s]
                  · rw [sb l.length (by omega), K1]
                    refine XS_mono (by decide) (XS_cg (fun p' h1 h2 => ?_) y7)
                    show setH (setH s 22 l.length (b2 : Int)) 19 0 ((l.length : Int) + 1) 23 p' = y 23 p' ∧ setH (setH s 22 l.length (b2 : Int)) 19 0 ((l.length : Int) + 1) 24 p' = y 24 p'
                    rw [setH_o (by decide), setH_o (by decide), setH_o (by decide), setH_o (by decide)]
                    exact (k23 p').2 (by omega)
                  · refine XS_cg (fun p' h1 h2 => ?_) u7
                    show setH (setH s 22 l.length (b2 : Int)) 19 0 ((l.length : Int) + 1) 23 p' = u 23 p' ∧ setH (setH s 22 l.length (b2 : Int)) 19 0 ((l.length : Int) + 1) 24 p' = u 24 p'
                    rw [setH_o (by decide), setH_o (by decide), setH_o (by decide), setH_o (by decide)]
                    exact s5 p'
            · rw [if_neg e2] at s2 ⊢
              have hne := flt_ne s2.1 s2.2.1 s2.2.2
              rw [OK_bindE]
              refine OK_mono (kend_f s) (fun z hz => ?_)
              rw [OK_some]
              exact ⟨F2_tr f5 hz.1, hz.2.trans s2.1, s2.2.1, s2.2.2⟩
        · rw [if_neg e] at g2 ⊢
          refine OK_mono (kE_f (flt_ne g2.1 g2.2.1 g2.2.2)) (fun z hz => ?_)
          exact ⟨F2_tr f3 hz.1, hz.2.trans g2.1, g2.2.1, g2.2.2⟩
    · rw [if_neg c]
      refine OK_gn (by omega) ?_
      rw [OK_bindE]
      refine OK_mono (blame_s P (k := 4) (by omega)) (fun y hy => ?_)
      rw [OK_some]
      exact ⟨F2_1 hy.1, hy.2.1, by have := hy.2.2; omega, by omega⟩
  · rw [if_neg k, if_neg k]
    refine OK_gn (fun q => q rfl) ?_
    rw [OK_bindE]
    refine OK_mono (blame_s P (k := 1) (by omega)) (fun y hy => ?_)
    rw [OK_some]
    exact ⟨F2_1 hy.1, hy.2.1, by have := hy.2.2; omega, by omega⟩
