/-! READING: signs -/
def inSg (w : Nat) (c : Int) : Bool := (List.range (sLn w)).any (fun i => sBy w i == c)
theorem sg_b : ∀ w : Fin 10, 1 ≤ sLn w.val ∧ sLn w.val ≤ 14 ∧ shr32 ((sLn w.val : Nat) : Int) 0 = ((sLn w.val : Nat) : Int) ∧ ∀ i : Fin 14, i.val < sLn w.val → 1 ≤ sBy w.val i.val ∧ sBy w.val i.val ≤ 127 := by decide +kernel
theorem c16_b : ∀ c : Fin 256, c16 (c.val : Int) = (c.val : Int) ∧ (b8 (c.val : Int) = (c.val : Int) ∨ (128 ≤ c.val ∧ b8 (c.val : Int) = (c.val : Int) - 256)) := by decide +kernel
theorem inSg_iff {w : Nat} {c : Int} : inSg w c = true ↔ ∃ i, i < sLn w ∧ sBy w i = c := by
  unfold inSg
  rw [List.any_eq_true]
  constructor
  · rintro ⟨i, hi, h⟩
    exact ⟨i, List.mem_range.mp hi, by simpa using h⟩
  · rintro ⟨i, hi, h⟩
    exact ⟨i, List.mem_range.mpr hi, by simpa using h⟩
theorem idx_s {w : Nat} (hw : w < 10) {c : Int} (hc : 0 ≤ c ∧ c ≤ 255) : OK (J0_indexOf w (c16 c)) (fun z => (-1 ≤ z ∧ z ≤ 20) ∧ (0 ≤ z ↔ inSg w c = true)) := by
  obtain ⟨n, rfl⟩ := Int.eq_ofNat_of_zero_le hc.1
  obtain ⟨l1, l2, l3, l4⟩ := sg_b ⟨w, hw⟩
  obtain ⟨d1, d2⟩ := c16_b ⟨n, by omega⟩
  dsimp only at l1 l2 l3 l4 d1 d2
  rw [d1]
  have lat : J0_isLatin1 w = some 1 := by
    unfold J0_isLatin1
    rw [if_neg (by decide), if_neg (by decide)]
  have len : J0_length w = some ((sLn w : Nat) : Int) := by
    unfold J0_length J0_coder
    rw [if_neg (by decide)]
    show some (shr32 ((sLn w : Nat) : Int) 0) = _
    rw [l3]
  have can : J1_canEncode (n : Int) = some 1 := by
    unfold J1_canEncode
    rw [w32_id (by omega) (by omega), if_neg (by omega), if_neg (by rw [show w32 255 = 255 from rfl]; omega)]
  unfold J0_indexOf J0_indexOf2 J1_indexOf
  rw [lat, len, can]
  simp only [OK_bindE, OK_some]
  rw [if_neg (by decide), OK_bindE, OK_some, OK_bindE, OK_bindE, OK_some, if_pos (by decide)]
  rw [maxI_id (by omega) (by omega) (by omega) (by omega), minI_id (by omega) (by omega) (by omega) (by omega), w32_id (by omega) (by omega), w32_id (by omega) (by omega)]
  refine OK_gd (by omega) ?_
  unfold J1_indexOfChar
  simp only [OK_bindE, OK_some]
  rw [show max (0 : Int) 0 = 0 by omega, show min ((sLn w : Nat) : Int) ((sLn w : Nat) : Int) = ((sLn w : Nat) : Int) by omega]
  refine OK_mono (iter_up (fun p s => s = (p : Int) ∧ ∀ i, i < p → sBy w i ≠ (n : Int)) (fun z => (∃ p : Nat, z = Sum.inl (p : Int) ∧ p < sLn w ∧ sBy w p = (n : Int)) ∨ (z = Sum.inr () ∧ ∀ i, i < sLn w → sBy w i ≠ (n : Int))) (sLn w) (by omega) (fun p s hp hI => ?_) ⟨rfl, fun i hi => by omega⟩) (fun z hz => ?_)
  · obtain ⟨rfl, hn⟩ := hI
    unfold J1_indexOfChar_l5
    simp only [w32_id (z := ((sLn w : Nat) : Int)) (by omega) (by omega), w32_id (z := (p : Int)) (by omega) (by omega)]
    refine OK_if (fun k => ?_) (fun k => ?_)
    · rw [OK_some, LQ_r]
      exact Or.inr ⟨rfl, fun i hi => hn i (by omega)⟩
    · have b := l4 ⟨p, by omega⟩ (by show p < sLn w; omega)
      dsimp only at b
      refine OK_gi (by omega) (by omega) (by omega) ?_
      rw [tn, w32_id (z := sBy w p) (by omega) (by omega), w32_id (z := b8 (n : Int)) (by omega) (by omega)]
      refine OK_if (fun e => ?_) (fun e => ?_)
      · rw [OK_some, LQ_l]
        refine ⟨by omega, rfl, fun i hi => ?_⟩
        by_cases q : i = p
        · subst q
          omega
        · exact hn i (by omega)
      · rw [OK_some, LQ_r]
        exact Or.inl ⟨p, rfl, by omega, by omega⟩
  · rcases hz with ⟨p, rfl, h1, h2⟩ | ⟨rfl, h1⟩
    · rw [OK_some]
      exact ⟨by omega, fun _ => inSg_iff.mpr ⟨p, h1, h2⟩, fun _ => by omega⟩
    · rw [OK_some]
      refine ⟨by omega, fun h => by omega, fun h => ?_⟩
      obtain ⟨i, hi, e⟩ := inSg_iff.mp h
      exact absurd e (h1 i hi)
theorem inSg_0 : ∀ w : Fin 10, inSg w.val 0 = false := by decide +kernel
theorem next_tot (h : Hp) : ∃ r, X6_next h = some r := by
  unfold X6_next X9_byteAt
  by_cases a : w32 (h 18 2) ≤ w32 (h 18 3)
  · exact ⟨_, if_pos a⟩
  · rw [if_neg a]
    by_cases b : w32 (h 18 3) < 0
    · rw [if_pos b]
      exact ⟨_, rfl⟩
    · rw [if_neg b]
      by_cases c : w32 (h 1 1) ≤ w32 (h 18 3)
      · rw [if_pos c]
        exact ⟨_, rfl⟩
      · rw [if_neg c]
        by_cases d : w32 200 ≤ w32 (h 18 3)
        · rw [if_pos d]
          exact ⟨_, rfl⟩
        · rw [if_neg d, if_pos ⟨by omega, by rw [show w32 200 = 200 from rfl] at d; omega⟩]
          exact ⟨_, rfl⟩
/-- where reading stands, with no FAULT yet: end n, bytes B, place p, a steps written -/
def PX (h : Hp) (n : Nat) (B : Nat → Int) (p a : Nat) : Prop := (h 18 2 = (n : Int) ∧ h 18 3 = (p : Int) ∧ h 18 4 = 0 ∧ h 19 1 = (a : Int)) ∧ (a ≤ p ∧ p ≤ n ∧ n ≤ 160 ∧ (n : Int) ≤ h 1 1 ∧ h 1 1 ≤ 200) ∧ (∀ j, 0 ≤ h 2 j ∧ h 2 j ≤ 255) ∧ (∀ j, B j = if j < n then h 2 j else 0) ∧ CKx (h 23) (h 24) a
/-- what reading of an E or a C leaves as it was -/
def F1 (h h' : Hp) : Prop := ∀ c j, ¬ (c = 18 ∧ (j = 3 ∨ j = 4)) → ¬ (c = 19 ∧ j = 1) → c ≠ 23 → c ≠ 24 → h' c j = h c j
theorem F1_rf {h : Hp} : F1 h h := fun _ _ _ _ _ _ => rfl
theorem F1_tr {a b c : Hp} (f : F1 a b) (g : F1 b c) : F1 a c := fun x j h1 h2 h3 h4 => (g x j h1 h2 h3 h4).trans (f x j h1 h2 h3 h4)
theorem next_s {h : Hp} {n p a : Nat} {B : Nat → Int} (P : PX h n B p a) : X6_next h = some (if p < n then B p else -1) := by
  obtain ⟨⟨p1, p2, p3, p4⟩, ⟨q1, q2, q3, q4, q5⟩, hb, hB, -⟩ := P
  unfold X6_next
  rw [p1, p2, w32_id (by omega) (by omega), w32_id (by omega) (by omega)]
  by_cases c : p < n
  · rw [if_neg (by omega), if_pos c, byteAt_in p rfl (by omega) (by omega), hB, if_pos c]
    rfl
  · rw [if_pos (by omega), if_neg c]
theorem PX_B {h : Hp} {n p a : Nat} {B : Nat → Int} (P : PX h n B p a) (j : Nat) : 0 ≤ B j ∧ B j ≤ 255 ∧ (n ≤ j → B j = 0) := by
  obtain ⟨-, -, hb, hB, -⟩ := P
  have := hb j
  rw [hB]
  split
  · exact ⟨this.1, this.2, fun q => by omega⟩
  · exact ⟨by omega, by omega, fun _ => rfl⟩
theorem nextIsOf_s {h : Hp} {n p a w : Nat} {B : Nat → Int} (P : PX h n B p a) (hw : w < 10) : X6_nextIsOf w h = some (if inSg w (B p) = true then 1 else 0) := by
  have b := PX_B P p
  unfold X6_nextIsOf
  rw [next_s P]
  obtain ⟨⟨p1, p2, p3, p4⟩, -⟩ := P
  show (if w32 (h 18 4) ≠ 0 then some 0 else if w32 (if p < n then B p else -1) < 0 then some 0 else (J0_indexOf w (c16 (if p < n then B p else -1))).bind fun r2 => if w32 r2 < 0 then some 0 else some 1) = _
  rw [p3, if_neg (by decide)]
  by_cases c : p < n
  · rw [if_pos c, w32_id (by omega) (by omega), if_neg (by omega)]
    obtain ⟨z, ez, z1, z2⟩ := OK_ex (idx_s hw (c := B p) (by omega))
    rw [ez]
    show (if w32 z < 0 then some 0 else some 1) = _
    rw [w32_id (by omega) (by omega)]
    by_cases k : inSg w (B p) = true
    · rw [if_pos k, if_neg (by have := z2.mpr k; omega)]
    · rw [if_neg k, if_pos (by have : ¬ 0 ≤ z := fun q => k (z2.mp q); omega)]
  · rw [if_neg c, if_pos (by decide), b.2.2 (by omega), inSg_0 ⟨w, hw⟩]
    rfl
theorem nextIsOf_f {h : Hp} {w : Nat} (hf : w32 (h 18 4) ≠ 0) : X6_nextIsOf w h = some 0 := by
  obtain ⟨r, er⟩ := next_tot h
  unfold X6_nextIsOf
  rw [er]
  exact if_pos hf
