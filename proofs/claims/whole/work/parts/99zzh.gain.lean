/-! THE ORDER: what the plan gives -/
def plL (m : Hp) (x y : Nat) : Nat → Int := fun j => if j = 44 then m 162 x else if j = 45 then m 162 y else if j = 52 then m 163 x else if j = 53 then m 163 y else if j = 56 then m 159 (m 160 x).toNat else if j = 57 then m 159 (m 160 y).toNat else if j = 48 then m 164 x else if j = 46 then m 164 y else 0
theorem plL_bd {m : Hp} (S : SB m) (x y : Nat) : bdL (plL m x y) := by
  obtain ⟨-, -, ⟨-, -, -, b159⟩, ⟨-, -, b162, b163⟩, ⟨b164, -⟩, -⟩ := id S
  have c1 := b162 x
  have c2 := b162 y
  have c3 := b163 x
  have c4 := b163 y
  have c5 := b159 (m 160 x).toNat
  have c6 := b159 (m 160 y).toNat
  have c7 := b164 x
  have c8 := b164 y
  intro j _ _
  unfold plL
  split
  · omega
  split
  · omega
  split
  · omega
  split
  · omega
  split
  · omega
  split
  · omega
  split
  · omega
  split
  · omega
  · decide
noncomputable def plV (m : Hp) (x y : Nat) : Int := VTx m 8 112 (-1000) 1000 (plL m x y)
noncomputable def gaV (m : Hp) (mem : Nat → Nat) (N l a : Nat) : Int := if l < N ∧ a < N then plV m (mem l) (mem a) else 0
theorem plV_bd {x m : Hp} (S : SB m) (X : TX x m 28 8) (K : CKm m) (a b : Nat) : -1000 ≤ plV m a b ∧ plV m a b ≤ 1000 := VTx_bd (T := 8) (by decide) X K (plL_bd S a b) (by decide)
theorem gaV_ok {x m : Hp} (S : SB m) (X : TX x m 28 8) (K : CKm m) {f : Nat → Bool} {n N P : Nat} {mem : Nat → Nat} (hN : N ≤ 10) : okG N (aheB m mem N P) (gaV m mem N) := by
  refine ⟨hN, fun a b h => ?_, fun a => ?_, fun l a => ?_⟩
  · unfold aheB at h
    cases q : decide (b < N) with
    | true => exact of_decide_eq_true q
    | false =>
      rw [q, Bool.false_and, Bool.and_false] at h
      cases h
  · unfold gaV
    rw [if_neg (fun q => by omega)]
  · unfold gaV
    split
    · exact plV_bd S X K _ _
    · decide
/-- the letters that the plan's text does not know -/
def RLp (x : Hp) : Prop := (∀ j, isLt j → j ≠ 1 → j ≠ 2 → j ≠ 8 → j ≠ 11 → j ≠ 18 → j ≠ 19 → j ≠ 24 → j ≠ 25 → x 34 j = 0) ∧ ∀ j, -2147483648 ≤ x 34 j ∧ x 34 j < 2147483648
theorem RLp_set {h : Hp} {j : Nat} {v : Int} (hj : j = 1 ∨ j = 2 ∨ j = 8 ∨ j = 11 ∨ j = 18 ∨ j = 19 ∨ j = 24 ∨ j = 25) (hv : I32 v) (W : RLp h) : RLp (setH h 34 j v) := by
  obtain ⟨w1, w2⟩ := W
  refine ⟨fun q q0 q1 q2 q3 q4 q5 q6 q7 q8 => ?_, fun q => ?_⟩
  · rw [setH_n (by omega)]
    exact w1 q q0 q1 q2 q3 q4 q5 q6 q7 q8
  · rw [setH_at]
    split
    · exact hv
    · exact w2 q
theorem bitSubject_e {v : Int} {h : Hp} (i : Nat) (e : v = (i : Int)) (hi : i < 40) : X7_bitSubject v h = some (h 15 i) := by
  unfold X7_bitSubject
  rw [at_e i e hi (by omega), Option.bind_some]
def cXP (e j : Nat) : Prop := e = 34 ∨ e = 35 ∨ (e = 28 ∧ (j = 9 ∨ j = 10)) ∨ (66 ≤ e ∧ e ≤ 76 ∧ ¬ (e = 66 ∧ j = 2) ∧ e ≠ 67 ∧ e ≠ 68)
theorem RS_cP {x z m : Hp} (hz : ∀ e j, ¬ cXP e j → z e j = x e j) (R : RS x m) : RS z m := RS_cg (fun a j h => hz a j (by unfold cXS at h; unfold cXP; omega)) (fun _ _ _ => rfl) R
theorem TX_cP {x z m : Hp} (hz : ∀ e j, ¬ cXP e j → z e j = x e j) (X : TX x m 28 8) : TX z m 28 8 := TX_cg (hz 28 0 (by unfold cXP; omega)) (fun i h1 h2 => funext fun j => hz _ j (by unfold cXP; omega)) (fun _ _ _ => rfl) X
/-- one side's letters of a bit -/
theorem fourX {h x m : Hp} (R : RS h m) {i c1 c2 c3 c4 j1 j2 j3 j4 : Nat} (hi : (i : Int) < m 150 5) (hj : (j1 < 26 ∧ j2 < 26 ∧ j3 < 26 ∧ j4 < 26)) (hd : j1 ≠ j2 ∧ j1 ≠ j3 ∧ j1 ≠ j4 ∧ j2 ≠ j3 ∧ j2 ≠ j4 ∧ j3 ≠ j4) (e1 : (c1 : Int) - 97 = (j1 : Int)) (e2 : (c2 : Int) - 97 = (j2 : Int)) (e3 : (c3 : Int) - 97 = (j3 : Int)) (e4 : (c4 : Int) - 97 = (j4 : Int)) {α : Type} {f : Hp → Option α} {Q : α → Prop} (H : ∀ z : Hp, z 34 j1 = m 162 i → z 34 j2 = m 163 i → z 34 j3 = m 159 (m 160 i).toNat → z 34 j4 = m 164 i → (∀ j, j ≠ j1 → j ≠ j2 → j ≠ j3 → j ≠ j4 → z 34 j = h 34 j) → (∀ e j, e ≠ 34 → z e j = h e j) → OK (f z) Q) : OK ((X7_bitBook (i : Int) h).bind fun r12 => (X10_let 28 (c1 : Int) r12 h).bind fun r13 => (X7_bitSubject (i : Int) r13).bind fun r14 => (X10_let 28 (c2 : Int) r14 r13).bind fun r15 => (X7_bitWriter (i : Int) r15).bind fun r16 => (X7_writerYear r16 r15).bind fun r17 => (X10_let 28 (c3 : Int) r17 r15).bind fun r18 => (X7_bitSize (i : Int) r18).bind fun r19 => (X10_let 28 (c4 : Int) r19 r18).bind fun r20 => f r20) Q := by
  obtain ⟨⟨⟨-, -, -, i311⟩, ⟨-, -, -, -, -, -, -, i11⟩, ⟨i12, i13, i14, i15, i16⟩, -⟩, S⟩ := id R
  obtain ⟨⟨b2, b3, b4, b5⟩, -, -, ⟨b160, -⟩, -⟩ := id S
  have c := b160 i
  obtain ⟨wr, hwr⟩ := Int.eq_ofNat_of_zero_le c.1
  rw [bitBook_in i (by omega) (by omega), OK_bindE, OK_some, let_s j1 e1 hj.1, OK_bindE, OK_some, bitSubject_e i rfl (by omega), OK_bindE, OK_some, let_s j2 e2 hj.2.1, OK_bindE, OK_some, bitWriter_in i (by rw [setH_o (by decide), setH_o (by decide)]; omega) (by rw [setH_o (by decide), setH_o (by decide)]; omega), OK_bindE, OK_some]
  rw [writerYear_e wr (by rw [setH_o (by decide), setH_o (by decide), i12, hwr]) (by omega), OK_bindE, OK_some, let_s j3 e3 hj.2.2.1, OK_bindE, OK_some, bitSize_e i rfl (by omega), OK_bindE, OK_some, let_s j4 e4 hj.2.2.2, OK_bindE, OK_some]
  refine H _ ?_ ?_ ?_ ?_ (fun j q1 q2 q3 q4 => ?_) (fun e j q => ?_)
  · rw [setH_n (by omega), setH_n (by omega), setH_n (by omega), setH_s, i14]
  · rw [setH_n (by omega), setH_n (by omega), setH_s, setH_o (by decide), i15]
  · rw [setH_n (by omega), setH_s, setH_o (by decide), setH_o (by decide), i11, hwr]
    rfl
  · rw [setH_s, setH_o (by decide), setH_o (by decide), setH_o (by decide), i16]
  · rw [setH_n q4, setH_n q3, setH_n q2, setH_n q1]
  · rw [setH_o q, setH_o q, setH_o q, setH_o q]
