/-! READING A C -/
def pQ (B : Nat → Int) (d p : Nat) : PR := match pE B 60 2 d p with
  | .inl f => .inl f
  | .inr (q, v) => if inSg 4 (B q) = true then (match pE B 60 2 d (q + 1) with
    | .inl f => .inl f
    | .inr (r, u) => .inr (r, vBin (B q) v u)) else .inl (-1000 - (q : Int))
def pP (B : Nat → Int) (pc ch : Nat → Nat → PR) (d p : Nat) : PR :=
  if B p = 33 then (if 6 < d + 1 then .inl (-5000 - (p : Int)) else match pc (d + 1) (p + 1) with
    | .inl f => .inl f
    | .inr (q, v) => .inr (q, vNot v))
  else if B p = 40 then (if 6 < d + 1 then .inl (-5000 - (p : Int)) else match ch (d + 1) (p + 1) with
    | .inl f => .inl f
    | .inr (q, v) => if B q = 41 then .inr (q + 1, v) else .inl (-1000 - (q : Int)))
  else pQ B d p
def pJ (B : Nat → Int) (w : Nat) (op : Den → Den → Den) (sub : Nat → PR) : Nat → Nat → Den → PR
  | 0, q, v => .inr (q, v)
  | k + 1, q, v => if inSg w (B q) = true then (match sub (q + 1) with
    | .inl f => .inl f
    | .inr (r, u) => pJ B w op sub k r (op v u)) else .inr (q, v)
theorem pJ_s (B : Nat → Int) (w : Nat) (op : Den → Den → Den) (sub : Nat → PR) (k q : Nat) (v : Den) : pJ B w op sub (k + 1) q v = if inSg w (B q) = true then (match sub (q + 1) with | Sum.inl f => Sum.inl f | Sum.inr (r, u) => pJ B w op sub k r (op v u)) else Sum.inr (q, v) := rfl
def pU (B : Nat → Int) (w : Nat) (op : Den → Den → Den) (sub : Nat → PR) (p : Nat) : PR := match sub p with
  | .inl f => .inl f
  | .inr (q, v) => pJ B w op sub 200 q v
def pC (B : Nat → Int) : Nat → Nat → Nat → Nat → PR
  | 0, _, _, _ => .inl 0
  | k + 1, tag, d, p => match tag with
    | 0 => pP B (pC B k 0) (pC B k 2) d p
    | 1 => pU B 5 vAnd (pC B k 0 d) p
    | _ => pU B 6 vOr (pC B k 1 d) p
noncomputable def gjp (w : Nat) (c : Int) (sub : Hp → Option Hp) (x : Int × Hp) : Option ((Int × Hp) ⊕ Hp) := if w32 160 ≤ w32 x.1 then some (.inr x.2) else (X6_nextIsOf w x.2).bind fun r2 => if w32 r2 = 0 then some (.inr x.2) else (X10_size 19 x.2).bind fun r3 => (X10_add 19 c 0 x.2).bind fun r4 => (sub (setH r4 18 3 ((r4 18 3) + 1))).bind fun r5 => (X10_aim 19 r3 r5).bind fun r6 => some (.inl (x.1 + 1, r6))
theorem gjp_A (rec : Nat → Int → Hp → Option Hp) (v : Int) : X6_readPart_l5 rec v = gjp 5 38 (rec 0 v) := rfl
theorem gjp_O (rec : Nat → Int → Hp → Option Hp) (v : Int) : X6_readChoice_l5 rec v = gjp 6 124 (rec 1 v) := rfl
theorem aim_f {h : Hp} {s : Int} : OK (X10_aim 19 s h) (fun h' => F1 h h' ∧ h' 18 4 = h 18 4) := by
  unfold X10_aim
  rw [put_eq _ _ _ _ _ (by omega), OK_bindE, OK_some, OK_some]
  split
  · exact ⟨fun c j h1 h2 h3 h4 => setH_f (by omega), setH_f (by omega)⟩
  · exact ⟨F1_rf, rfl⟩
theorem aim_s {h : Hp} {n p a s : Nat} {B : Nat → Int} (P : PX h n B p a) (hs : s < a) (hk : h 23 s = 38 ∨ h 23 s = 124) : OK (X10_aim 19 (s : Int) h) (fun h' => F1 h h' ∧ PX h' n B p a ∧ (∀ j, j ≠ s → h' 24 j = h 24 j) ∧ h' 24 s = (a : Int) ∧ h' 23 = h 23) := by
  obtain ⟨⟨p1, p2, p3, p4⟩, ⟨q1, q2, q3, q4, q5⟩, hb, hB, hc⟩ := P
  unfold X10_aim
  rw [put_e s rfl (by omega) (by omega), OK_bindE, OK_some, OK_some, p4]
  refine ⟨fun c j h1 h2 h3 h4 => setH_f (by omega), ⟨⟨?_, ?_, ?_, ?_⟩, ⟨q1, q2, q3, ?_, ?_⟩, ?_, ?_, ?_⟩, fun j hj => setH_n hj, setH_s, setH_o (by decide)⟩
  all_goals simp (disch := decide) only [setH_o]
  · exact p1
  · exact p2
  · exact p3
  · exact p4
  · exact q4
  · exact q5
  · exact hb
  · exact hB
  · intro j hj
    have c := hc j hj
    by_cases e : j = s
    · subst e
      rw [setH_s]
      omega
    · rw [setH_n e]
      exact c
/-- & and | of C's -/
theorem join_x {w a q0 c0 n : Nat} {B : Nat → Int} {h : Hp} {c : Int} {op : Den → Den → Den} {sub : Hp → Option Hp} {sp : Nat → PR} {v0 : Den} (hw : (w = 5 ∧ c = 38 ∧ op = vAnd) ∨ (w = 6 ∧ c = 124 ∧ op = vOr)) (hsub : ∀ (p a : Nat) (h : Hp), PX h n B p a → a + 1 ≤ p → OK (sub h) (RX n B 16 p a h (sp p))) (P : PX h n B q0 c0) (hac : a ≤ c0) (hc0 : c0 + 1 ≤ q0) (s0 : XS (h 23) (h 24) a c0 16 v0) : OK (iter (gjp w c sub) FU (0, h)) (RLx n B 16 a q0 c0 h (pJ B w op sp 200 q0 v0)) := by
  refine iter_up (fun b s => b ≤ 160 ∧ ∃ h' : Hp, s = ((b : Int), h') ∧ F1 h h' ∧ ((∃ (q c : Nat) (v : Den), PX h' n B q c ∧ c + 1 ≤ q ∧ q0 + b ≤ q ∧ c + q0 ≤ c0 + q ∧ a ≤ c ∧ (∀ j, j < a → h' 23 j = h 23 j ∧ h' 24 j = h 24 j) ∧ XS (h' 23) (h' 24) a c 16 v ∧ pJ B w op sp 200 q0 v0 = pJ B w op sp (200 - b) q v) ∨ (∃ f, h' 18 4 = f ∧ (-100000 ≤ f ∧ f < 0) ∧ pJ B w op sp 200 q0 v0 = .inl f))) _ 161 (by omega) (fun b s hb hI => ?_) ⟨by omega, h, rfl, F1_rf, Or.inl ⟨q0, c0, v0, P, hc0, by omega, by omega, hac, fun _ _ => ⟨rfl, rfl⟩, s0, rfl⟩⟩
  obtain ⟨hb1, h', rfl, fr, hh⟩ := hI
  unfold gjp X10_size
  dsimp only
  simp only [w32_id (z := (b : Int)) (by omega) (by omega), show w32 160 = 160 from rfl]
  rcases hh with ⟨q, cc, v, P', hc, hbq, hcq, hac', hpre, xs, ep⟩ | ⟨f, hf, hfb, ep⟩
  · have hqn := P'.2.1.2.1
    have hn := P'.2.1.2.2.1
    refine OK_gn (by omega) ?_
    rw [nextIsOf_s P' (by omega), OK_bindE, OK_some]
    have e2 : 200 - b = (199 - b) + 1 := by omega
    rw [e2] at ep
    by_cases k : inSg w (B q) = true
    · have hq := sg_lt P' (by omega) k
      rw [if_pos k]
      refine OK_gn (by decide) ?_
      rw [OK_bindE, OK_some, P'.1.2.2.2, OK_bindE]
      refine OK_mono (add_s P' (k := c) (o := 0) hc (by omega) (by omega) (by omega) (by omega)) (fun y hy => ?_)
      obtain ⟨y1, y2, y3, y4, y5⟩ := hy
      rw [OK_bindE]
      refine OK_mono (hsub (q + 1) (cc + 1) _ (PX_up y2 hq) (by omega)) (fun g hg => ?_)
      obtain ⟨g1, g2⟩ := hg
      rw [pJ_s B w op sp (199 - b) q v, if_pos k] at ep
      have fr2 : F1 h g := F1_tr (F1_tr (F1_tr fr y1) F1_up) g1
      cases er : sp (q + 1) with
      | inl f =>
        rw [er] at ep g2
        obtain ⟨g3, g4, g5⟩ := g2
        rw [OK_bindE]
        refine OK_mono aim_f (fun y hy => ?_)
        rw [OK_some, LQ_l]
        exact ⟨by omega, by omega, y, rfl, F1_tr fr2 hy.1, Or.inr ⟨f, hy.2.trans g3, ⟨g4, g5⟩, ep⟩⟩
      | inr z =>
        obtain ⟨r, u⟩ := z
        rw [er] at ep g2
        obtain ⟨g3, b', g4, g5, g6, g7⟩ := g2
        have s7 := g7.1
        have gk : ∀ j, j < cc + 1 → g 23 j = y 23 j ∧ g 24 j = y 24 j := fun j hj => by
          have t2 := g6 j hj
          rw [setH_o (by decide), setH_o (by decide)] at t2
          exact t2
        have kc : g 23 cc = c := (gk cc (by omega)).1.trans y4
        rw [OK_bindE]
        refine OK_mono (aim_s g5 (s := cc) (by omega) (by omega)) (fun z hz => ?_)
        obtain ⟨z1, z2, z3, z4, z5⟩ := hz
        rw [OK_some, LQ_l]
        have ag : ∀ j, j < cc → z 23 j = h' 23 j ∧ z 24 j = h' 24 j := fun j hj => by
          have t1 := y3 j hj
          have t2 := gk j (by omega)
          rw [z5, z3 j (by omega)]
          exact ⟨t2.1.trans t1.1, t2.2.trans t1.2⟩
        refine ⟨by omega, by omega, z, rfl, F1_tr fr2 z1, Or.inl ⟨r, b', op v u, z2, by omega, by omega, by omega, by omega, fun j hj => ?_, ?_, by rw [show 200 - (b + 1) = 199 - b by omega]; exact ep⟩⟩
        · have t1 := ag j (by omega)
          have t3 := hpre j hj
          exact ⟨t1.1.trans t3.1, t1.2.trans t3.2⟩
        · have x1 : XS (z 23) (z 24) a cc 16 v := XS_cg (fun p h1 h2 => ag p h2) xs
          have x2 : XS (z 23) (z 24) (cc + 1) b' 16 u := XS_cg (fun p h1 h2 => ⟨by rw [z5], z3 p (by omega)⟩) g7
          rcases hw with ⟨e1, e2, e3⟩ | ⟨e1, e2, e3⟩
          · rw [e3]
            exact XS_and x1 x2 (by rw [z5, kc, e2]) z4
          · rw [e3]
            exact XS_or x1 x2 (by rw [z5, kc, e2]) z4
    · rw [if_neg k]
      refine OK_gd (by decide) ?_
      rw [OK_some, LQ_r]
      rw [pJ_s B w op sp (199 - b) q v, if_neg k] at ep
      rw [ep]
      exact ⟨fr, by omega, cc, by omega, P', hpre, xs⟩
  · have hne := flt_ne hf hfb.1 hfb.2
    have ex : RLx n B 16 a q0 c0 h (pJ B w op sp 200 q0 v0) h' := by
      rw [ep]
      exact ⟨fr, hf, hfb.1, hfb.2⟩
    refine OK_if (fun _ => ?_) (fun _ => ?_)
    · rw [OK_some, LQ_r]
      exact ex
    · rw [nextIsOf_f hne, OK_bindE, OK_some]
      refine OK_gd (by decide) ?_
      rw [OK_some, LQ_r]
      exact ex
theorem join_f {w : Nat} {c : Int} {sub : Hp → Option Hp} {h : Hp} (hf : w32 (h 18 4) ≠ 0) : OK (iter (gjp w c sub) FU (0, h)) (fun h' => h' = h) := by
  refine iter_up (fun b s => b = 0 ∧ s = (0, h)) _ 0 (by omega) (fun b s hb hI => ?_) ⟨rfl, rfl⟩
  obtain ⟨-, rfl⟩ := hI
  unfold gjp
  dsimp only
  refine OK_gn (by decide) ?_
  rw [nextIsOf_f hf, OK_bindE, OK_some]
  exact OK_gd (by decide) rfl
theorem part_x {n p a w : Nat} {B : Nat → Int} {h : Hp} {c : Int} {op : Den → Den → Den} {sub : Hp → Option Hp} {sp : Nat → PR} (hw : (w = 5 ∧ c = 38 ∧ op = vAnd) ∨ (w = 6 ∧ c = 124 ∧ op = vOr)) (hsub : ∀ (p a : Nat) (h : Hp), PX h n B p a → a + 1 ≤ p → OK (sub h) (RX n B 16 p a h (sp p))) (P : PX h n B p a) (ha : a + 1 ≤ p) : OK ((sub h).bind fun r1 => (iter (gjp w c sub) FU (0, r1)).bind fun x6 => some x6) (RX n B 16 p a h (pU B w op sp p)) := by
  rw [OK_bindE]
  refine OK_mono (hsub p a h P ha) (fun g hg => ?_)
  obtain ⟨g1, g2⟩ := hg
  unfold pU
  rw [OK_bindE]
  cases er : sp p with
  | inl f =>
    rw [er] at g2
    obtain ⟨g3, g4, g5⟩ := g2
    refine OK_mono (join_f (flt_ne g3 g4 g5)) (fun y hy => ?_)
    rw [OK_some, hy]
    exact ⟨g1, g3, g4, g5⟩
  | inr z =>
    obtain ⟨q, v⟩ := z
    rw [er] at g2
    obtain ⟨g3, b, g4, g5, g6, g7⟩ := g2
    refine OK_mono (join_x hw hsub g5 g7.1 (by omega) g7) (fun y hy => ?_)
    obtain ⟨y1, y2⟩ := hy
    rw [OK_some]
    dsimp only
    refine ⟨F1_tr g1 y1, ?_⟩
    cases el : pJ B w op sp 200 q v with
    | inl f =>
      rw [el] at y2
      exact y2
    | inr z2 =>
      obtain ⟨q2, v2⟩ := z2
      rw [el] at y2
      obtain ⟨y3, b2, y4, y5, y6, y7⟩ := y2
      exact ⟨by omega, b2, by omega, y5, fun j hj => ⟨(y6 j hj).1.trans (g6 j hj).1, (y6 j hj).2.trans (g6 j hj).2⟩, y7⟩
