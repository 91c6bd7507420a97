/-! READING AN E: the grammar, and the one side's reading of it -/
abbrev PR : Type := Int ⊕ (Nat × Den)
def pN (B : Nat → Int) : Nat → Nat → Nat → Int → PR
  | 0, _, _, _ => .inl 0
  | k + 1, p, d, v => if 48 ≤ B p ∧ B p ≤ 57 then (if d = 5 then .inl (-2000 - (p : Int)) else pN B k (p + 1) (d + 1) (v * 10 + B p - 48)) else .inr (p, fun _ => some v)
def pF (B : Nat → Int) (sum : Nat → Nat → PR) (d p : Nat) : PR :=
  if B p = 91 then (if 6 < d + 1 then .inl (-5000 - (p : Int)) else match sum (d + 1) (p + 1) with
    | .inl f => .inl f
    | .inr (q, v) => if B q = 93 then .inr (q + 1, v) else .inl (-1000 - (q : Int)))
  else if 48 ≤ B p ∧ B p ≤ 57 then pN B 7 p 0 0
  else if inSg 1 (B p) = true then .inr (p + 1, fun ρ => some (ρ (B p - 97).toNat))
  else .inl (-1000 - (p : Int))
def pL (B : Nat → Int) (w : Nat) (sub : Nat → PR) : Nat → Nat → Den → PR
  | 0, q, v => .inr (q, v)
  | k + 1, q, v => if inSg w (B q) = true then (match sub (q + 1) with
    | .inl f => .inl f
    | .inr (r, u) => pL B w sub k r (vBin (B q) v u)) else .inr (q, v)
def pT (B : Nat → Int) (w : Nat) (sub : Nat → PR) (p : Nat) : PR := match sub p with
  | .inl f => .inl f
  | .inr (q, v) => pL B w sub 200 q v
def pE (B : Nat → Int) : Nat → Nat → Nat → Nat → PR
  | 0, _, _, _ => .inl 0
  | k + 1, tag, d, p => match tag with
    | 0 => pF B (pE B k 2) d p
    | 1 => pT B 2 (pE B k 0 d) p
    | _ => pT B 3 (pE B k 1 d) p
/-- what reading leaves: a FAULT, or the place behind and the steps of v -/
def RX (n : Nat) (B : Nat → Int) (nd p a : Nat) (h : Hp) (r : PR) (h' : Hp) : Prop := F1 h h' ∧ match r with
  | .inl f => h' 18 4 = f ∧ -100000 ≤ f ∧ f < 0
  | .inr (q, v) => p < q ∧ ∃ b, b + p ≤ a + q ∧ PX h' n B q b ∧ (∀ j, j < a → h' 23 j = h 23 j ∧ h' 24 j = h 24 j) ∧ XS (h' 23) (h' 24) a b nd v
theorem blame_s {h : Hp} {n p a k : Nat} {B : Nat → Int} (P : PX h n B p a) (hk : 1 ≤ k ∧ k ≤ 5) : OK (X6_blame (k : Int) h) (fun h' => F1 h h' ∧ h' 18 4 = -1000 * (k : Int) - (p : Int) ∧ (-100000 ≤ -1000 * (k : Int) - (p : Int) ∧ -1000 * (k : Int) - (p : Int) < 0)) := by
  obtain ⟨⟨p1, p2, p3, p4⟩, ⟨q1, q2, q3, q4, q5⟩, -⟩ := P
  unfold X6_blame
  rw [p3, p2]
  refine OK_gn (fun q => q rfl) ?_
  rw [OK_some]
  exact ⟨fun c j h1 _ _ _ => setH_f (by omega), setH_s, by omega, by omega⟩
theorem blame_f {h : Hp} {k : Int} (hf : w32 (h 18 4) ≠ 0) : X6_blame k h = some h := by
  unfold X6_blame
  exact if_pos hf
theorem add_s {h : Hp} {n p a : Nat} {B : Nat → Int} {k o : Int} (P : PX h n B p a) (ha : a + 1 ≤ p) (hk : 0 ≤ k ∧ k ≤ 255) (ho : 0 ≤ o ∧ o ≤ 99999) (h2 : k = 2 → o < 26) (h3 : k = 38 ∨ k = 124 → o ≤ 160) : OK (X10_add 19 k o h) (fun h' => F1 h h' ∧ PX h' n B p (a + 1) ∧ (∀ j, j < a → h' 23 j = h 23 j ∧ h' 24 j = h 24 j) ∧ h' 23 a = k ∧ h' 24 a = o) := by
  obtain ⟨⟨p1, p2, p3, p4⟩, ⟨q1, q2, q3, q4, q5⟩, hb, hB, hc⟩ := P
  unfold X10_add
  rw [p4, put_e a rfl (by omega) (by omega), OK_bindE, OK_some, setH_o (by decide), p4, put_e a rfl (by omega) (by omega), OK_bindE, OK_some, OK_some, setH_o (by decide), setH_o (by decide), p4]
  refine ⟨fun c j h1 h2 h3 h4 => by rw [setH_f (by omega), setH_o h4, setH_o h3], ⟨⟨?_, ?_, ?_, ?_⟩, ⟨by omega, q2, q3, ?_, ?_⟩, ?_, ?_, ?_⟩, fun j hj => ?_, ?_, ?_⟩
  all_goals simp (disch := decide) only [setH_o, setH_s]
  · exact p1
  · exact p2
  · exact p3
  · omega
  · exact q4
  · exact q5
  · exact hb
  · exact hB
  · intro j hj
    by_cases e : j = a
    · subst e
      rw [setH_s, setH_s]
      exact ⟨hk, ho, h2, h3⟩
    · rw [setH_n e, setH_n e]
      exact hc j (by omega)
  · rw [setH_n (by omega), setH_n (by omega)]
    exact ⟨rfl, rfl⟩
theorem add_f {h : Hp} {k o : Int} : OK (X10_add 19 k o h) (fun h' => F1 h h' ∧ h' 18 4 = h 18 4) := by
  unfold X10_add
  rw [put_eq _ _ _ _ _ (by omega), OK_bindE, OK_some, put_eq _ _ _ _ _ (by omega), OK_bindE, OK_some, OK_some]
  have f1 : ∀ (g : Hp) (a : Nat) (v z : Int), (a = 23 ∨ a = 24) → F1 g (if 0 ≤ w32 v ∧ w32 v < ((160 : Nat) : Int) then setH g a (w32 v).toNat z else g) ∧ (if 0 ≤ w32 v ∧ w32 v < ((160 : Nat) : Int) then setH g a (w32 v).toNat z else g) 18 4 = g 18 4 := by
    intro g a v z ha
    split
    · exact ⟨fun c j h1 h2 h3 h4 => setH_f (by omega), setH_f (by omega)⟩
    · exact ⟨F1_rf, rfl⟩
  obtain ⟨a1, a2⟩ := f1 h (19 + 4) (h 19 1) k (Or.inl rfl)
  obtain ⟨b1, b2⟩ := f1 (if 0 ≤ w32 (h 19 1) ∧ w32 (h 19 1) < ((160 : Nat) : Int) then setH h (19 + 4) (w32 (h 19 1)).toNat k else h) (19 + 5) ((if 0 ≤ w32 (h 19 1) ∧ w32 (h 19 1) < ((160 : Nat) : Int) then setH h (19 + 4) (w32 (h 19 1)).toNat k else h) 19 1) o (Or.inr rfl)
  refine ⟨F1_tr (F1_tr a1 b1) (fun c j h1 h2 _ _ => setH_f h2), ?_⟩
  rw [setH_o (by decide), b2, a2]
/-- on by one byte -/
theorem PX_up {h : Hp} {n p a : Nat} {B : Nat → Int} (P : PX h n B p a) (hp : p < n) : PX (setH h 18 3 (h 18 3 + 1)) n B (p + 1) a := by
  obtain ⟨⟨p1, p2, p3, p4⟩, ⟨q1, q2, q3, q4, q5⟩, hb, hB, hc⟩ := P
  refine ⟨⟨?_, ?_, ?_, ?_⟩, ⟨by omega, by omega, q3, ?_, ?_⟩, ?_, ?_, ?_⟩
  all_goals simp (disch := decide) only [setH_o, setH_s, setH_n]
  · exact p1
  · rw [p2]
    rfl
  · exact p3
  · exact p4
  · exact q4
  · exact q5
  · exact hb
  · exact hB
  · exact hc
theorem F1_up {h : Hp} {z : Int} : F1 h (setH h 18 3 z) := fun c j h1 _ _ _ => setH_f (by omega)
theorem num_x {h : Hp} {n p a : Nat} {B : Nat → Int} (P : PX h n B p a) (hd : 48 ≤ B p ∧ B p ≤ 57) : OK (X6_readNumber h) (RX n B 1 p a h (pN B 7 p 0 0)) := by
  have key : OK (iter X6_readNumber_l4 FU (0, 0, h)) (fun z => (∃ (h' : Hp) (q : Nat), z = Sum.inl h' ∧ pN B 7 p 0 0 = .inl (-2000 - (q : Int)) ∧ F1 h h' ∧ PX h' n B q a) ∨ (∃ (h' : Hp) (q : Nat) (v : Int), z = Sum.inr (v, h') ∧ pN B 7 p 0 0 = .inr (q, fun _ => some v) ∧ F1 h h' ∧ PX h' n B q a ∧ p < q ∧ 0 ≤ v ∧ v ≤ 99999 ∧ (∀ j, h' 23 j = h 23 j ∧ h' 24 j = h 24 j))) := by
    refine iter_up (fun d s => d ≤ 5 ∧ ∃ (v : Int) (h' : Hp), s = (v, (d : Int), h') ∧ F1 h h' ∧ PX h' n B (p + d) a ∧ pN B 7 p 0 0 = pN B (7 - d) (p + d) d v ∧ (0 ≤ v ∧ v < (10 : Int) ^ d) ∧ (∀ j, h' 23 j = h 23 j ∧ h' 24 j = h 24 j) ∧ (d = 0 ∨ 1 ≤ d)) _ 6 (by omega) (fun d s hd2 hI => ?_) ⟨by omega, 0, h, rfl, F1_rf, P, rfl, by decide, fun _ => ⟨rfl, rfl⟩, by omega⟩
    obtain ⟨hd5, v, h', rfl, f, P', ep, hv, hk, -⟩ := hI
    have b := PX_B P' (p + d)
    unfold X6_readNumber_l4
    (try dsimp only)
    simp only [w32_id (z := (d : Int)) (by omega) (by omega), show w32 5 = 5 from rfl]
    refine OK_gn (by omega) ?_
    rw [next_s P', OK_bindE, OK_some]
    have e7 : 7 - d = (6 - d) + 1 := by omega
    rw [e7] at ep
    by_cases c : 48 ≤ B (p + d) ∧ B (p + d) ≤ 57
    · have hp : p + d < n := by
        by_cases q : p + d < n
        · exact q
        · have := b.2.2 (by omega)
          omega
      rw [if_pos hp, within_in (by omega) (by omega) (by omega) (by omega) (by omega) (by omega), if_pos c, OK_bindE, OK_some]
      refine OK_gn (by decide) ?_
      have es : pN B (6 - d + 1) (p + d) d v = if d = 5 then .inl (-2000 - ((p + d : Nat) : Int)) else pN B (6 - d) (p + d + 1) (d + 1) (v * 10 + B (p + d) - 48) := by
        show (if 48 ≤ B (p + d) ∧ B (p + d) ≤ 57 then (if d = 5 then .inl (-2000 - ((p + d : Nat) : Int)) else pN B (6 - d) (p + d + 1) (d + 1) (v * 10 + B (p + d) - 48)) else .inr (p + d, fun _ => some v)) = _
        rw [if_pos c]
      rw [es] at ep
      by_cases k : d = 5
      · refine OK_gn (by omega) ?_
        rw [OK_some, LQ_r]
        rw [if_pos k] at ep
        exact Or.inl ⟨h', p + d, rfl, ep, f, P'⟩
      · refine OK_gd (by omega) ?_
        rw [OK_bindE, OK_some, OK_some, LQ_l]
        rw [if_neg k] at ep
        refine ⟨by omega, by omega, _, _, rfl, F1_tr f F1_up, PX_up P' hp, by rw [show 7 - (d + 1) = 6 - d by omega]; exact ep, ?_, fun j => by rw [setH_o (by decide), setH_o (by decide)]; exact hk j, by omega⟩
        have : (10 : Int) ^ (d + 1) = 10 ^ d * 10 := Int.pow_succ 10 d
        omega
    · have es : pN B (6 - d + 1) (p + d) d v = .inr (p + d, fun _ => some v) := by
        show (if 48 ≤ B (p + d) ∧ B (p + d) ≤ 57 then (if d = 5 then .inl (-2000 - ((p + d : Nat) : Int)) else pN B (6 - d) (p + d + 1) (d + 1) (v * 10 + B (p + d) - 48)) else .inr (p + d, fun _ => some v)) = _
        rw [if_neg c]
      rw [es] at ep
      have hd1 : 1 ≤ d := by
        by_cases q : d = 0
        · subst q
          exact absurd hd c
        · omega
      have hw : OK (X11_within (if p + d < n then B (p + d) else -1) 48 57) (fun r => r = 0) := by
        rw [within_in (by omega) (by omega) (by split <;> omega) (by split <;> omega) (by omega) (by omega), OK_some]
        rw [if_neg (by split <;> omega)]
      obtain ⟨r, er, e0⟩ := OK_ex hw
      rw [er, e0, OK_bindE, OK_some]
      refine OK_gd (by decide) ?_
      rw [OK_some, LQ_r]
      have pw : (10 : Int) ^ d ≤ 100000 := by
        have : d = 0 ∨ d = 1 ∨ d = 2 ∨ d = 3 ∨ d = 4 ∨ d = 5 := by omega
        rcases this with e | e | e | e | e | e <;> subst e <;> decide
      exact Or.inr ⟨h', p + d, v, rfl, ep, f, P', by omega, hv.1, by omega, hk⟩
  unfold X6_readNumber
  rw [OK_bindE]
  refine OK_mono key (fun z hz => ?_)
  rcases hz with ⟨h', q, rfl, ep, f, P'⟩ | ⟨h', q, v, rfl, ep, f, P', hpq, v0, v1, hk⟩
  · dsimp only
    rw [OK_bindE]
    refine OK_mono (blame_s P' (k := 2) (by omega)) (fun y hy => ?_)
    rw [ep]
    exact ⟨F1_tr f hy.1, hy.2.1, hy.2.2⟩
  · dsimp only
    rw [OK_bindE]
    have := P.2.1.1
    refine OK_mono (add_s P' (k := 1) (o := v) (by omega) (by omega) ⟨v0, v1⟩ (by omega) (by omega)) (fun y hy => ?_)
    obtain ⟨y1, y2, y3, y4, y5⟩ := hy
    rw [ep]
    exact ⟨F1_tr f y1, hpq, a + 1, by omega, y2, fun j hj => ⟨(y3 j hj).1.trans (hk j).1, (y3 j hj).2.trans (hk j).2⟩, XS_num y4 y5⟩
