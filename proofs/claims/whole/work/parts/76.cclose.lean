/-! CALLS: apart, near, nearness, same -/
/-- the WORDS of a BIT, of a WORK -/
def bwM (m : Hp) (i : Nat) : Nat → Int := fun p => m 165 (8 * i + p)
def wwM (m : Hp) (k : Nat) : Nat → Int := fun p => m 157 (40 * k + p)
/-- NEAR, as the model has it -/
def neM (m : Hp) (i k : Nat) : Int × Int × Int := nNr (bwM m i) (wwM m k) (m 164 i).toNat (m 156 k).toNat
/-- what was found is what would be found -/
def RC (x m : Hp) : Prop := ∀ i k : Nat, i < 40 → k < 8 → (x 55 (8 * i + k) = 0 ∨ (x 55 (8 * i + k) = 1 ∧ (i : Int) < m 150 5 ∧ 1 ≤ m 156 k ∧ (x 56 (8 * i + k), x 57 (8 * i + k), x 58 (8 * i + k)) = neM m i k)) ∧ -1 ≤ x 57 (8 * i + k) ∧ x 57 (8 * i + k) ≤ 100
def cXC (a : Nat) : Prop := 55 ≤ a ∧ a ≤ 58
theorem neM_cg {m m' : Hp} {i k : Nat} (h4 : m' 164 i = m 164 i) (h5 : ∀ p : Nat, (p : Int) < m 164 i → m' 165 (8 * i + p) = m 165 (8 * i + p)) (h6 : m' 156 k = m 156 k) (h7 : ∀ p : Nat, (p : Int) < m 156 k → m' 157 (40 * k + p) = m 157 (40 * k + p)) : neM m' i k = neM m i k := by
  unfold neM
  rw [h4, h6]
  exact nNr_cg (fun p hp => h5 p (by omega)) (fun q hq => h7 q (by omega))
theorem RC_cg {x m x' m' : Hp} (hx : ∀ a j, cXC a → x' a j = x a j) (h0 : m 150 5 ≤ m' 150 5) (hm : ∀ i k : Nat, (i : Int) < m 150 5 → 1 ≤ m 156 k → k < 8 → m' 156 k = m 156 k ∧ neM m' i k = neM m i k) (R : RC x m) : RC x' m' := by
  intro i k hi hk
  obtain ⟨h1, h2⟩ := R i k hi hk
  rw [hx 55 _ (by unfold cXC; omega), hx 56 _ (by unfold cXC; omega), hx 57 _ (by unfold cXC; omega), hx 58 _ (by unfold cXC; omega)]
  refine ⟨?_, h2⟩
  rcases h1 with h1 | ⟨a, b, c, d⟩
  · exact Or.inl h1
  · obtain ⟨e1, e2⟩ := hm i k b c hk
    exact Or.inr ⟨a, by omega, by rw [e1]; exact c, by rw [e2]; exact d⟩
theorem rk_XM {x m : Hp} (R : RS x m) {i j s n : Nat} (hi : (i : Int) < m 150 5) (hj : (j : Int) < m 150 5) (es : m 164 i = (s : Int)) (en : m 164 j = (n : Int)) : rKw (fun p => x 17 (8 * i + p)) (fun p => x 17 (8 * j + p)) n s = rKw (bwM m i) (bwM m j) n s :=
  rKw_cg (s := s) (fun p hp => R.1.2.2.2.1 i p hi (by omega)) n (fun q hq => R.1.2.2.2.1 j q hj (by omega)) s (Nat.le_refl _)
theorem far_both {x m : Hp} (R : RS x m) {i j : Nat} (hi : (i : Int) < m 150 5) (hj : (j : Int) < m 150 5) : OK (X1_far (i : Int) (j : Int) x) (fun z => OK (X12_farOf (i : Int) (j : Int) m) (fun w => z.1 = w.1 ∧ (0 ≤ w.1 ∧ w.1 ≤ 8) ∧ (∀ a, a ≠ 54 → z.2 a = x a) ∧ (∀ a, a ≠ 182 → w.2 a = m a))) := by
  obtain ⟨⟨⟨-, -, -, e311⟩, -, ⟨-, -, -, -, e16⟩, e17, b17⟩, SBm⟩ := id R
  obtain ⟨⟨-, -, -, b5⟩, -, -, -, ⟨b164, b165⟩, -⟩ := SBm
  have b1 := b164 i
  have b2 := b164 j
  obtain ⟨s, es⟩ := Int.eq_ofNat_of_zero_le b1.1
  obtain ⟨n, en⟩ := Int.eq_ofNat_of_zero_le b2.1
  refine OK_mono (far_s (s := s) (n := n) (by omega) (by omega) (by omega) (by omega) (by rw [e16]; exact es) (by rw [e16]; exact en) b17) (fun z hz => ?_)
  refine OK_mono (farOf_s (s := s) (n := n) (by omega) (by omega) (by omega) (by omega) es en b165) (fun w hw => ?_)
  have bd := rKw_bd (bwM m i) (bwM m j) n s
  refine ⟨?_, ?_, hz.2, hw.2⟩
  · rw [hz.1, hw.1]
    exact rk_XM R hi hj es en
  · have e : w.1 = rKw (bwM m i) (bwM m j) n s := hw.1
    rw [e]
    omega
/-- find, whatever was found: what it then holds -/
theorem find_s {x m : Hp} (R : RS x m) (C : RC x m) {i k : Nat} (hi : (i : Int) < m 150 5) (hk : k < 8) (hl : 1 ≤ m 156 k) : OK (X1_find (i : Int) (k : Int) x) (fun z => (z 56 (8 * i + k), z 57 (8 * i + k), z 58 (8 * i + k)) = neM m i k ∧ RC z m ∧ (∀ a, a ≠ 54 → ¬ (55 ≤ a ∧ a ≤ 58) → z a = x a)) := by
  obtain ⟨⟨⟨-, -, -, e311⟩, ⟨-, -, -, -, e8, e9, -, -⟩, ⟨-, -, -, -, e16⟩, e17, b17⟩, SBm⟩ := id R
  obtain ⟨⟨-, -, -, b5⟩, -, ⟨b156, b157, -, -⟩, -, ⟨b164, b165⟩, ⟨bb, -, -⟩⟩ := SBm
  have b1 := b164 i
  have b2 := b156 k
  have b3 := (bb i hi).1
  obtain ⟨s, es⟩ := Int.eq_ofNat_of_zero_le b1.1
  obtain ⟨L, eL⟩ := Int.eq_ofNat_of_zero_le b2.1
  obtain ⟨c1, c2⟩ := C i k (by omega) hk
  have eN : nNr (fun p => x 17 (8 * i + p)) (fun p => x 9 (40 * k + p)) s L = neM m i k := by
    unfold neM
    rw [es, eL]
    exact nNr_cg (fun p hp => e17 i p hi (by omega)) (fun q hq => by rw [e9]; rfl)
  rcases c1 with c1 | ⟨a, b, c, d⟩
  · refine OK_mono (find_new (s := s) (L := L) (by omega) hk (by omega) (by omega) (by rw [e16]; exact es) (by rw [e8]; exact eL) b17 (by rw [e9]; exact b157) c1 c2) (fun z hz => ?_)
    obtain ⟨z1, z2, z3⟩ := hz
    rw [eN] at z2
    have ff : ∀ a, a ≠ 54 → ¬ (55 ≤ a ∧ a ≤ 58) → z a = x a := fun a h1 h2 => funext fun j => z3 a j h1 (by omega)
    refine ⟨z2, fun i' k' hi' hk' => ?_, ff⟩
    by_cases e : 8 * i' + k' = 8 * i + k
    · have e1 : i' = i := by omega
      have e2 : k' = k := by omega
      subst e1
      subst e2
      refine ⟨Or.inr ⟨z1, hi, hl, z2⟩, ?_⟩
      have h57 : z 57 (8 * i' + k') = (neM m i' k').2.1 := by rw [← z2]
      have bd := nNr_gd (bwM m i') (wwM m k') (m 164 i').toNat (m 156 k').toNat (by omega) (by omega) (by omega)
      unfold nGo at bd
      rw [h57]
      unfold neM
      omega
    · rw [z3 55 _ (by decide) (by omega), z3 56 _ (by decide) (by omega), z3 57 _ (by decide) (by omega), z3 58 _ (by decide) (by omega)]
      exact C i' k' hi' hk'
  · unfold X1_find
    have e0 : (i : Int) * 8 + (k : Int) = ((8 * i + k : Nat) : Int) := by omega
    rw [e0]
    simp (disch := omega) only [↓if_inb, w32_id, tn, a]
    refine OK_gn (by omega) (OK_gn (by omega) (OK_gn (by decide) ?_))
    exact ⟨d, C, fun a _ _ => rfl⟩
/-- a number that the machine keeps as it is -/
def I32 (z : Int) : Prop := -2147483648 ≤ z ∧ z < 2147483648
theorem I32_w {z : Int} (h : I32 z) : w32 z = z := w32_id h.1 h.2
theorem apart_b {x m : Hp} (R : RS x m) {a b : Int} (ha : I32 a) (hb : I32 b) : OK (X11_apart a b x) (fun z => OK (X12_apart a b m) (fun w => z.1 = w.1 ∧ (∀ c, c ≠ 54 → z.2 c = x c) ∧ (∀ c, c ≠ 182 → w.2 c = m c))) := by
  obtain ⟨⟨⟨-, -, -, e311⟩, -⟩, ⟨⟨-, -, -, b5⟩, -⟩⟩ := id R
  unfold X11_apart X12_apart
  simp only [x_isB (h := x) (by omega) (by omega), m_isB (h := m) (by omega) (by omega), e311, I32_w ha, I32_w hb, OK_bindE, OK_some]
  by_cases c : 0 ≤ a ∧ a < m 150 5
  · by_cases d : 0 ≤ b ∧ b < m 150 5
    · simp only [if_pos c, if_pos d, q0, q1, qn0, qn1, i10, i00, in10, in00, if_true, if_false, OK_bindE, OK_some, Option.bind_some]
      obtain ⟨i, rfl⟩ := Int.eq_ofNat_of_zero_le c.1
      obtain ⟨j, rfl⟩ := Int.eq_ofNat_of_zero_le d.1
      exact OK_mono (far_both R c.2 d.2) (fun z hz => OK_mono hz (fun w hw => ⟨hw.1, hw.2.2⟩))
    · simp only [if_pos c, if_neg d, q0, q1, qn0, qn1, i10, i00, in10, in00, if_true, if_false, OK_bindE, OK_some, Option.bind_some]
      first | exact ⟨rfl, fun _ _ => rfl, fun _ _ => rfl⟩ | simp
  · simp only [if_neg c, q0, q1, qn0, qn1, i10, i00, in10, in00, if_true, if_false, OK_bindE, OK_some, Option.bind_some]
    first | exact ⟨rfl, fun _ _ => rfl, fun _ _ => rfl⟩ | simp
theorem x_left {x m : Hp} (R : RS x m) {k : Int} (hk : I32 k) : X7_isLeft k x = some (if 0 ≤ k ∧ k < m 150 3 ∧ 0 < m 156 k.toNat then 1 else 0) := by
  obtain ⟨⟨⟨-, e33, -, -⟩, ⟨-, -, -, -, e8, -⟩, -⟩, ⟨⟨-, b3, -, -⟩, -, ⟨b156, -⟩, -⟩⟩ := id R
  unfold X7_isLeft
  simp only [x_isK (h := x) (by omega) (by omega), e33, I32_w hk]
  by_cases c : 0 ≤ k ∧ k < m 150 3
  · have b := b156 k.toNat
    simp only [if_pos c, q0, q1, qn0, qn1, i10, i00, in10, in00, if_true, if_false, OK_bindE, OK_some, Option.bind_some, at_in (a := 8) (n := 8) (h := x) c.1 (by omega) (by omega), e8, w32_id (z := m 156 k.toNat) (by omega) (by omega)]
    by_cases d : m 156 k.toNat ≤ 0
    · rw [if_pos d, if_neg (by omega)]
    · rw [if_neg d, if_pos (by omega)]
  · simp only [if_neg c, q0, q1, qn0, qn1, i10, i00, in10, in00, if_true, if_false, OK_bindE, OK_some, Option.bind_some]
    rw [if_neg (by omega)]
theorem m_left {m : Hp} (S : SB m) {k : Int} (hk : I32 k) : X12_isLeft k m = some (if 0 ≤ k ∧ k < m 150 3 ∧ 0 < m 156 k.toNat then 1 else 0) := by
  obtain ⟨⟨-, b3, -, -⟩, -, ⟨b156, -⟩, -⟩ := id S
  unfold X12_isLeft
  simp only [m_isK (h := m) (by omega) (by omega), I32_w hk]
  by_cases c : 0 ≤ k ∧ k < m 150 3
  · have b := b156 k.toNat
    simp only [if_pos c, q0, q1, qn0, qn1, i10, i00, in10, in00, if_true, if_false, OK_bindE, OK_some, Option.bind_some, if_inb (v := k) (n := 8) c.1 (by omega) (by omega), w32_id (z := m 156 k.toNat) (by omega) (by omega)]
    by_cases d : m 156 k.toNat ≤ 0
    · rw [if_pos d, if_neg (by omega)]
    · rw [if_neg d, if_pos (by omega)]
  · simp only [if_neg c, q0, q1, qn0, qn1, i10, i00, in10, in00, if_true, if_false, OK_bindE, OK_some, Option.bind_some]
    rw [if_neg (by omega)]
