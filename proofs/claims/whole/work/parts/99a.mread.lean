/-! THE MODEL'S READER: its state -/
def DKm (h : Hp) (k : Nat) : Prop := ∀ j, j < k → (0 ≤ h 177 j ∧ h 177 j ≤ 255) ∧ (0 ≤ h 178 j ∧ h 178 j ≤ 99999)
/-- end n, bytes B, place p, k steps, depth d, stack st; no FAULT yet -/
def PM (h : Hp) (n : Nat) (B : Nat → Int) (p k d : Nat) (st : List Int) : Prop := (h 150 34 = (p : Int) ∧ h 150 35 = (n : Int) ∧ h 150 36 = 0 ∧ h 150 38 = (k : Int) ∧ h 150 39 = (d : Int) ∧ h 150 40 = (st.length : Int)) ∧ (k + st.length ≤ p ∧ p ≤ n ∧ n ≤ 160 ∧ d ≤ 6) ∧ (∀ j, B j = if j < n then h 151 j % 256 else 0) ∧ (SKx h 179 st ∧ ∀ c ∈ st, 0 ≤ c ∧ c ≤ 255) ∧ DKm h k
/-- what reading of an E or a C leaves as it was -/
def F3 (h h' : Hp) : Prop := ∀ c j, ¬ (c = 150 ∧ (j = 34 ∨ j = 36 ∨ (38 ≤ j ∧ j ≤ 40))) → c ≠ 177 → c ≠ 178 → c ≠ 179 → h' c j = h c j
theorem F3_rf {h : Hp} : F3 h h := fun _ _ _ _ _ _ => rfl
theorem F3_tr {a b c : Hp} (f : F3 a b) (g : F3 b c) : F3 a c := fun x j h1 h2 h3 h4 => (g x j h1 h2 h3 h4).trans (f x j h1 h2 h3 h4)
theorem F3_s {h : Hp} {j : Nat} {z : Int} (hj : j = 34 ∨ j = 36 ∨ (38 ≤ j ∧ j ≤ 40)) : F3 h (setH h 150 j z) := fun c i h1 _ _ _ => setH_f (by omega)
theorem F3_o {h : Hp} {c j : Nat} {z : Int} (hc : c = 177 ∨ c = 178 ∨ c = 179) : F3 h (setH h c j z) := fun e i h1 _ _ _ => setH_f (by omega)
def BDm (f : Int) (h : Hp) : Prop := h 150 36 = f ∧ -100000 ≤ f ∧ f < 0
theorem BD_ne {f : Int} {h : Hp} (b : BDm f h) : w32 (h 150 36) ≠ 0 := by
  obtain ⟨e, h1, h2⟩ := b
  rw [e, w32_id (by omega) (by omega)]
  omega
theorem PM_B {h : Hp} {n p k d : Nat} {B : Nat → Int} {st : List Int} (P : PM h n B p k d st) (j : Nat) : 0 ≤ B j ∧ B j ≤ 255 ∧ (n ≤ j → B j = 0) := by
  obtain ⟨-, -, hB, -⟩ := P
  have := hB j
  rw [this]
  split
  · exact ⟨by omega, by omega, fun q => by omega⟩
  · exact ⟨by omega, by omega, fun _ => rfl⟩
theorem PM_lt {h : Hp} {n p k d : Nat} {B : Nat → Int} {st : List Int} (P : PM h n B p k d st) (hb : B p ≠ 0) : p < n := by
  have b := PM_B P p
  by_cases q : p < n
  · exact q
  · exact absurd (b.2.2 (by omega)) hb
theorem here_m {h : Hp} {n p k d : Nat} {B : Nat → Int} {st : List Int} (P : PM h n B p k d st) : X12_here h = some (B p) := by
  obtain ⟨⟨p1, p2, p3, p4, p5, p6⟩, ⟨q1, q2, q3, q4⟩, hB, -⟩ := P
  unfold X12_here
  rw [p1, p2, hB]
  simp only [w32_id (z := (n : Int)) (by omega) (by omega), w32_id (z := (p : Int)) (by omega) (by omega)]
  by_cases c : p < n
  · rw [if_neg (by omega), if_pos c, if_inb (by omega) (by omega) (by omega), and255]
    rfl
  · rw [if_pos (by omega), if_neg c]
theorem good_m {h : Hp} {n p k d : Nat} {B : Nat → Int} {st : List Int} (P : PM h n B p k d st) : X12_isGood h = some 1 := by
  unfold X12_isGood
  rw [P.1.2.2.1]
  rfl
theorem good_f {h : Hp} (hf : w32 (h 150 36) ≠ 0) : X12_isGood h = some 0 := if_pos hf
theorem top_m {h : Hp} {n p k d : Nat} {B : Nat → Int} {st : List Int} (P : PM h n B p k d st) : X12_top h = some (st.headD 0) := by
  obtain ⟨⟨p1, p2, p3, p4, p5, p6⟩, ⟨q1, q2, q3, q4⟩, hB, ⟨s1, s2⟩, -⟩ := P
  unfold X12_top
  rw [p6, w32_id (by omega) (by omega)]
  cases st with
  | nil => rfl
  | cons c r =>
    have e : ((c :: r).length : Int) = (r.length : Int) + 1 := by simp
    have e2 : (c :: r).length = r.length + 1 := by simp
    rw [if_neg (by omega), if_inb (by omega) (by omega) (by omega), e, show (r.length : Int) + 1 - 1 = (r.length : Int) by omega, wtn r.length rfl (by omega)]
    exact congrArg some s1.1
theorem wrongs_m {h : Hp} {n p k d : Nat} {B : Nat → Int} {st : List Int} (P : PM h n B p k d st) {c : Nat} (hc : 1 ≤ c ∧ c ≤ 5) : X12_wrongs (c : Int) (h 150 34) h = some (setH h 150 36 (-1000 * (c : Int) - (p : Int))) ∧ BDm (-1000 * (c : Int) - (p : Int)) (setH h 150 36 (-1000 * (c : Int) - (p : Int))) := by
  obtain ⟨⟨p1, p2, p3, p4, p5, p6⟩, ⟨q1, q2, q3, q4⟩, -⟩ := P
  refine ⟨?_, by rw [setH_s], by omega, by omega⟩
  unfold X12_wrongs X12_wrongs_j12
  rw [p3, p1]
  exact if_pos (by decide)
theorem SKx_p {h : Hp} {st : List Int} {c : Int} (s : SKx h 179 st) : SKx (setH h 179 st.length c) 179 (c :: st) := ⟨setH_s, SKx_cg st (fun j hj => setH_n (by omega)) s⟩
theorem SKx_o {h h' : Hp} {st : List Int} (e : h' 179 = h 179) (s : SKx h 179 st) : SKx h' 179 st := SKx_cg st (fun j _ => by rw [e]) s
/-- on by a byte, which is laid on the stack -/
theorem puts_m {h : Hp} {n p k d : Nat} {B : Nat → Int} {st : List Int} (P : PM h n B p k d st) {c : Int} (hp : p < n) (hc : 0 ≤ c ∧ c ≤ 255) : OK (X12_puts c h) (fun h' => PM h' n B (p + 1) k d (c :: st) ∧ F3 h h' ∧ h' 177 = h 177 ∧ h' 178 = h 178) := by
  obtain ⟨⟨p1, p2, p3, p4, p5, p6⟩, ⟨q1, q2, q3, q4⟩, hB, ⟨s1, s2⟩, hd⟩ := P
  unfold X12_puts
  rw [p6]
  refine OK_gi (by omega) (by omega) (by omega) ?_
  rw [OK_some, wtn st.length rfl (by omega)]
  refine ⟨⟨⟨?_, ?_, ?_, ?_, ?_, ?_⟩, ⟨by simp; omega, by omega, q3, q4⟩, ?_, ⟨?_, ?_⟩, ?_⟩, ?_, ?_, ?_⟩
  · simp (disch := decide) only [setH_o, setH_s, setH_n]
    rw [p1]
    rfl
  · simp (disch := decide) only [setH_o, setH_s, setH_n]
    exact p2
  · simp (disch := decide) only [setH_o, setH_s, setH_n]
    exact p3
  · simp (disch := decide) only [setH_o, setH_s, setH_n]
    exact p4
  · simp (disch := decide) only [setH_o, setH_s, setH_n]
    exact p5
  · simp (disch := decide) only [setH_o, setH_s, setH_n]
    simp
  · simp (disch := decide) only [setH_o, setH_s, setH_n]
    exact hB
  · exact SKx_o (h := setH h 179 st.length c) (by simp (disch := decide) only [setH_o]) (SKx_p s1)
  · intro e he
    rcases List.mem_cons.mp he with r | r
    · rw [r]
      exact hc
    · exact s2 e r
  · unfold DKm at hd ⊢
    simp (disch := decide) only [setH_o, setH_s, setH_n]
    exact hd
  · exact F3_tr (F3_tr (F3_o (by omega)) (F3_s (by omega))) (F3_s (by omega))
  · simp (disch := decide) only [setH_o]
  · simp (disch := decide) only [setH_o]
theorem puts_f {h : Hp} {c : Int} (hk : 0 ≤ h 150 40 ∧ h 150 40 < 200) : OK (X12_puts c h) (fun h' => F3 h h' ∧ h' 150 36 = h 150 36) := by
  unfold X12_puts
  refine OK_gi (by omega) (by omega) (by omega) ?_
  rw [OK_some]
  exact ⟨F3_tr (F3_tr (F3_o (by omega)) (F3_s (by omega))) (F3_s (by omega)), by simp (disch := decide) only [setH_o, setH_n]⟩
theorem opens_m {h : Hp} {n p k d : Nat} {B : Nat → Int} {st : List Int} (P : PM h n B p k d st) (hp : p < n) : OK (X12_opens h) (fun h' => F3 h h' ∧ if 6 < d + 1 then BDm (-5000 - (p : Int)) h' else (PM h' n B (p + 1) k (d + 1) (B p :: st) ∧ h' 177 = h 177 ∧ h' 178 = h 178)) := by
  have hP := P
  have bp := PM_B P p
  obtain ⟨⟨p1, p2, p3, p4, p5, p6⟩, ⟨q1, q2, q3, q4⟩, hB, ⟨s1, s2⟩, hd⟩ := P
  unfold X12_opens X12_opens_j9
  rw [p5, w32_id (z := (d : Int)) (by omega) (by omega), show w32 6 = 6 from rfl]
  by_cases c : 6 < d + 1
  · refine OK_gn (by omega) ?_
    obtain ⟨w1, w2, w3, w4⟩ := wrongs_m hP (c := 5) (by omega)
    have w1' : X12_wrongs 5 (h 150 34) h = some (setH h 150 36 (-1000 * 5 - (p : Int))) := w1
    have e4 : (setH h 150 36 (-1000 * 5 - (p : Int))) 150 39 = (d : Int) := by rw [setH_n (by decide)]; exact p5
    have eh : X12_here (setH (setH h 150 36 (-1000 * 5 - (p : Int))) 150 39 ((d : Int) + 1)) = X12_here h := by
      unfold X12_here
      simp (disch := decide) only [setH_o, setH_n]
    rw [w1', OK_bindE, OK_some, e4, eh, here_m hP, OK_bindE, OK_some, OK_bindE]
    refine OK_mono (puts_f (by simp (disch := decide) only [setH_n]; omega)) (fun y hy => ?_)
    rw [OK_some, if_pos c]
    refine ⟨F3_tr (F3_tr (F3_s (by omega)) (F3_s (by omega))) hy.1, ?_, by omega, by omega⟩
    rw [hy.2]
    simp (disch := decide) only [setH_s, setH_n]
    omega
  · refine OK_gd (by omega) ?_
    have P1 : PM (setH h 150 39 ((d : Int) + 1)) n B p k (d + 1) st := by
      refine ⟨⟨?_, ?_, ?_, ?_, ?_, ?_⟩, ⟨q1, q2, q3, by omega⟩, ?_, ⟨?_, s2⟩, ?_⟩
      · rw [setH_n (by decide)]
        exact p1
      · rw [setH_n (by decide)]
        exact p2
      · rw [setH_n (by decide)]
        exact p3
      · rw [setH_n (by decide)]
        exact p4
      · rw [setH_s]
        rfl
      · rw [setH_n (by decide)]
        exact p6
      · rw [setH_o (by decide)]
        exact hB
      · exact SKx_o (setH_o (by decide)) s1
      · unfold DKm
        rw [setH_o (by decide), setH_o (by decide)]
        exact hd
    rw [here_m P1, OK_bindE, OK_some, OK_bindE]
    refine OK_mono (puts_m P1 hp (c := B p) (by omega)) (fun y hy => ?_)
    rw [OK_some, if_neg c]
    exact ⟨F3_tr (F3_s (by omega)) hy.2.1, hy.1, by rw [hy.2.2.1, setH_o (by decide)], by rw [hy.2.2.2, setH_o (by decide)]⟩
theorem emit_m {h : Hp} {n p k d : Nat} {B : Nat → Int} {st : List Int} (P : PM h n B p k d st) {v w : Int} (hk : k < 160) : X12_emit v w h = some (setH (setH (setH h 177 k v) 178 k w) 150 38 ((k : Int) + 1)) := by
  have p4 := P.1.2.2.2.1
  unfold X12_emit
  rw [good_m P]
  show (if w32 1 ≠ 0 then if inb (h 150 38) 160 then if inb (h 150 38) 160 then some (setH (setH (setH h 177 (w32 (h 150 38)).toNat v) 178 (w32 (h 150 38)).toNat w) 150 38 ((h 150 38) + 1)) else none else none else some h) = _
  rw [if_pos (by decide), p4, if_inb (by omega) (by omega) (by omega), if_inb (by omega) (by omega) (by omega), wtn k rfl (by omega)]
theorem emit_f {h : Hp} {v w : Int} (hf : w32 (h 150 36) ≠ 0) : X12_emit v w h = some h := by
  unfold X12_emit
  rw [good_f hf, Option.bind_some, if_neg (by decide)]
/-- the lower steps stay -/
def KPm (h h' : Hp) (k : Nat) : Prop := ∀ j, j < k → h' 177 j = h 177 j ∧ h' 178 j = h 178 j
theorem KP_tr {a b c : Hp} {k k' : Nat} (f : KPm a b k) (g : KPm b c k') (hk : k ≤ k') : KPm a c k := fun j hj => ⟨((g j (by omega)).1).trans (f j hj).1, ((g j (by omega)).2).trans (f j hj).2⟩
theorem KP_o {a b : Hp} {k : Nat} (e : b 177 = a 177) (f : b 178 = a 178) : KPm a b k := fun j _ => by rw [e, f]; exact ⟨rfl, rfl⟩
/-- the stack's top becomes a step -/
theorem pop_m {h : Hp} {n p k d : Nat} {B : Nat → Int} {st : List Int} {c v : Int} (P : PM h n B p k d (c :: st)) (hv : 0 ≤ v ∧ v ≤ 255) : OK ((X12_emit v 0 h).bind fun r4 => some (setH r4 150 40 ((r4 150 40) - 1))) (fun h' => PM h' n B p (k + 1) d st ∧ F3 h h' ∧ KPm h h' k ∧ h' 177 k = v) := by
  have hP := P
  obtain ⟨⟨p1, p2, p3, p4, p5, p6⟩, ⟨q1, q2, q3, q4⟩, hB, ⟨s1, s2⟩, hd⟩ := P
  have el : (c :: st).length = st.length + 1 := by simp
  rw [emit_m hP (by omega), OK_bindE, OK_some, OK_some]
  refine ⟨⟨⟨?_, ?_, ?_, ?_, ?_, ?_⟩, ⟨by omega, q2, q3, q4⟩, ?_, ⟨?_, fun e he => s2 e (List.mem_cons_of_mem _ he)⟩, ?_⟩, ?_, ?_, ?_⟩
  · simp (disch := decide) only [setH_o, setH_s, setH_n]
    exact p1
  · simp (disch := decide) only [setH_o, setH_s, setH_n]
    exact p2
  · simp (disch := decide) only [setH_o, setH_s, setH_n]
    exact p3
  · simp (disch := decide) only [setH_o, setH_s, setH_n]
    rfl
  · simp (disch := decide) only [setH_o, setH_s, setH_n]
    exact p5
  · simp (disch := decide) only [setH_o, setH_s, setH_n]
    rw [p6]
    omega
  · simp (disch := decide) only [setH_o, setH_s, setH_n]
    exact hB
  · exact SKx_o (h := h) (by simp (disch := decide) only [setH_o]) s1.2
  · intro j hj
    simp (disch := decide) only [setH_o, setH_s, setH_n]
    by_cases e : j = k
    · subst e
      rw [setH_s, setH_s]
      omega
    · rw [setH_n e, setH_n e]
      exact hd j (by omega)
  · exact F3_tr (F3_tr (F3_tr (F3_o (by omega)) (F3_o (by omega))) (F3_s (by omega))) (F3_s (by omega))
  · intro j hj
    simp (disch := decide) only [setH_o]
    rw [setH_n (by omega), setH_n (by omega)]
    exact ⟨rfl, rfl⟩
  · simp (disch := decide) only [setH_o, setH_s]
