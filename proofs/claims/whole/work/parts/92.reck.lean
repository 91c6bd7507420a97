/-! the model's steps -/
def lvM (m : Hp) (c : Int) : Int := if c = 98 then m 150 44 else if c = 99 then m 150 45 else if c = 105 then m 150 46 else if c = 107 then m 150 47 else if c = 108 then m 150 48 else if c = 109 then m 150 49 else if c = 110 then m 150 50 else if c = 112 then m 150 51 else if c = 115 then m 150 52 else if c = 116 then m 150 53 else if c = 119 then m 150 54 else if c = 120 then m 150 55 else if c = 121 then m 150 56 else m 150 57
theorem valueOf_s {m : Hp} {c : Int} (hc : -2147483648 ≤ c ∧ c < 2147483648) : X12_valueOf c m = some (lvM m c) := by
  unfold X12_valueOf lvM
  simp only [w32_id hc.1 hc.2]
  by_cases k98 : c = 98
  · simp only [if_pos k98]
  simp only [if_neg k98]
  by_cases k99 : c = 99
  · simp only [if_pos k99]
  simp only [if_neg k99]
  by_cases k105 : c = 105
  · simp only [if_pos k105]
  simp only [if_neg k105]
  by_cases k107 : c = 107
  · simp only [if_pos k107]
  simp only [if_neg k107]
  by_cases k108 : c = 108
  · simp only [if_pos k108]
  simp only [if_neg k108]
  by_cases k109 : c = 109
  · simp only [if_pos k109]
  simp only [if_neg k109]
  by_cases k110 : c = 110
  · simp only [if_pos k110]
  simp only [if_neg k110]
  by_cases k112 : c = 112
  · simp only [if_pos k112]
  simp only [if_neg k112]
  by_cases k115 : c = 115
  · simp only [if_pos k115]
  simp only [if_neg k115]
  by_cases k116 : c = 116
  · simp only [if_pos k116]
  simp only [if_neg k116]
  by_cases k119 : c = 119
  · simp only [if_pos k119]
  simp only [if_neg k119]
  by_cases k120 : c = 120
  · simp only [if_pos k120]
  simp only [if_neg k120]
  by_cases k121 : c = 121
  · simp only [if_pos k121]
  simp only [if_neg k121]
def mwk (c a b : Int) : Int := if c = 37 then (if b ≠ 0 then rem32 a b else 0) else if c = 42 then w32 (a * b) else if c = 43 then w32 (a + b) else if c = 45 then w32 (a - b) else if c = 47 then (if b ≠ 0 then div32 a b else 0) else if c = 60 then (if b ≤ a then 0 else 1) else if c = 62 then (if a ≤ b then 0 else 1) else if a ≠ b then 0 else 1
theorem worked_s {c a b : Int} (hc : -2147483648 ≤ c ∧ c < 2147483648) (ha : -2147483648 ≤ a ∧ a < 2147483648) (hb : -2147483648 ≤ b ∧ b < 2147483648) : X12_worked c a b = some (mwk c a b) := by
  unfold X12_worked mwk
  rw [w32_id hc.1 hc.2, w32_id ha.1 ha.2, w32_id hb.1 hb.2]
  by_cases k1 : c = 37
  · simp only [if_pos k1]
    by_cases e : b ≠ 0
    · simp only [if_pos e]
    · simp only [if_neg e]
  simp only [if_neg k1]
  by_cases k2 : c = 42
  · simp only [if_pos k2]
  simp only [if_neg k2]
  by_cases k3 : c = 43
  · simp only [if_pos k3]
  simp only [if_neg k3]
  by_cases k4 : c = 45
  · simp only [if_pos k4]
  simp only [if_neg k4]
  by_cases k5 : c = 47
  · simp only [if_pos k5]
    by_cases e : b ≠ 0
    · simp only [if_pos e]
    · simp only [if_neg e]
  simp only [if_neg k5]
  by_cases k6 : c = 60
  · simp only [if_pos k6]
    split <;> rfl
  simp only [if_neg k6]
  by_cases k7 : c = 62
  · simp only [if_pos k7]
    split <;> rfl
  simp only [if_neg k7]
  split <;> rfl
theorem mwk_bd (c a b : Int) : -2147483648 ≤ mwk c a b ∧ mwk c a b < 2147483648 := by
  have w1 := w32_ge (a * b)
  have w2 := w32_lt' (a * b)
  have w3 := w32_ge (a + b)
  have w4 := w32_lt' (a + b)
  have w5 := w32_ge (a - b)
  have w6 := w32_lt' (a - b)
  have w7 := div32_bd a b
  have w8 := rem32_bd a b
  unfold mwk
  repeat' split
  all_goals omega
def mdo (c : Int) (a b : Int × Bool) : Int × Bool := if c = 38 ∨ c = 124 then (if a.2 = true ∨ a.1 ≠ (if c = 38 then 1 else 0) then a else b) else (mwk c a.1 b.1, a.2 || b.2 || decide ((c = 47 ∨ c = 37) ∧ b.1 = 0))
def mst (cd ar : Nat → Int) (ρ : Int → Int) (p : Nat) (st : List (Int × Bool)) : Option (List (Int × Bool)) :=
  if cd p = 0 then some ((ar p, false) :: st)
  else if cd p = 1 then some ((ρ (ar p), false) :: st)
  else if cd p = 2 then (match st with
    | a :: r => if a.1 = 0 ∨ a.1 = 1 then some ((1 - a.1, a.2) :: r) else none
    | [] => none)
  else (match st with
    | b :: a :: r => some (mdo (cd p) a b :: r)
    | _ => none)
def mrn (cd ar : Nat → Int) (ρ : Int → Int) : Nat → Nat → List (Int × Bool) → Option (List (Int × Bool))
  | 0, _, st => some st
  | n + 1, p, st => (mst cd ar ρ p st).bind (mrn cd ar ρ n (p + 1))
def bI (r : Bool) : Int := if r then 1 else 0
def SMx (h : Hp) : List (Int × Bool) → Prop
  | [] => True
  | a :: r => (h 180 r.length = a.1 ∧ h 181 r.length = bI a.2) ∧ SMx h r
theorem SMx_cg {h h' : Hp} : ∀ st : List (Int × Bool), (∀ j, j < st.length → h' 180 j = h 180 j ∧ h' 181 j = h 181 j) → SMx h st → SMx h' st
  | [], _, _ => trivial
  | z :: r, he, hs => ⟨⟨((he r.length (by simp)).1).trans hs.1.1, ((he r.length (by simp)).2).trans hs.1.2⟩, SMx_cg r (fun j hj => he j (by simp; omega)) hs.2⟩
theorem z1_0 : z1 0 = 0 := by decide
theorem z1_b (r : Bool) : z1 (bI r) = bI r := by cases r <;> decide
theorem bI_w (r : Bool) : w32 (bI r) = bI r := by cases r <;> decide
theorem does_s {m h : Hp} {c : Int} {a b : Int × Bool} {r : List (Int × Bool)} (hc : 0 ≤ c ∧ c ≤ 255) (hn : r.length + 2 ≤ 200) (ha : -2147483648 ≤ a.1 ∧ a.1 < 2147483648) (hb : -2147483648 ≤ b.1 ∧ b.1 < 2147483648) (g : SMx h (b :: a :: r)) (fr : ∀ c, c ≠ 180 → c ≠ 181 → h c = m c) : OK (X12_does c (r.length : Int) h) (fun h' => SMx h' (mdo c a b :: r) ∧ ∀ c, c ≠ 180 → c ≠ 181 → h' c = m c) := by
  obtain ⟨⟨b1, b2⟩, ⟨a1, a2⟩, gr⟩ := g
  have b1' : h 180 (r.length + 1) = b.1 := b1
  have b2' : h 181 (r.length + 1) = bI b.2 := b2
  have i1 : inb (r.length : Int) 200 := inb_t (by omega) (by omega) (by omega)
  have i2 : inb ((r.length : Int) + 1) 200 := inb_t (by omega) (by omega) (by omega)
  have n2 : (w32 ((r.length : Int) + 1)).toNat = r.length + 1 := wtn _ (by omega) (by omega)
  have n1 : (w32 (r.length : Int)).toNat = r.length := wtn _ rfl (by omega)
  have keep : SMx h (a :: r) := ⟨⟨a1, a2⟩, gr⟩
  -- & and |
  have J : (c = 38 ∨ c = 124) → OK (X12_does_j10 c (r.length : Int) ((r.length : Int) + 1) h) (fun h' => SMx h' (mdo c a b :: r) ∧ ∀ c, c ≠ 180 → c ≠ 181 → h' c = m c) := by
    intro hk
    have em : mdo c a b = if a.2 = true ∨ a.1 ≠ (if c = 38 then 1 else 0) then a else b := by
      unfold mdo
      rw [if_pos hk]
    rw [em]
    unfold X12_does_j10
    refine OK_gd i1 ?_
    rw [n1, a2, bI_w]
    cases ea : a.2 with
    | true =>
      refine OK_gd (by decide) ?_
      rw [if_pos (Or.inl rfl)]
      rw [OK_some]
      exact ⟨keep, fr⟩
    | false =>
      refine OK_gn (by decide) (OK_gd i1 ?_)
      have J2 : ∀ s1 : Int, s1 = (if c = 38 then 1 else 0) → OK (X12_does_j25 (r.length : Int) ((r.length : Int) + 1) (h 180 r.length) s1 h) (fun h' => SMx h' ((if false = true ∨ a.1 ≠ (if c = 38 then 1 else 0) then a else b) :: r) ∧ ∀ c, c ≠ 180 → c ≠ 181 → h' c = m c) := by
        intro s1 hs
        unfold X12_does_j25
        rw [a1, w32_id (z := s1) (by split at hs <;> omega) (by split at hs <;> omega), w32_id ha.1 ha.2]
        refine OK_if (fun e => ?_) (fun e => ?_)
        · refine OK_gd i2 (OK_gd i1 (OK_gd i2 (OK_gd i1 ?_)))
          rw [if_neg (by rw [← hs]; simp [e]), OK_some, n1, n2]
          refine ⟨⟨⟨?_, ?_⟩, SMx_cg _ (fun j hj => ?_) gr⟩, fun c h1 h2 => ?_⟩
          · rw [setH_o (by decide), setH_s]
            exact b1'
          · rw [setH_s, b2', z1_b]
          · rw [setH_o (by decide), setH_n (by omega), setH_n (by omega), setH_o (by decide)]
            exact ⟨rfl, rfl⟩
          · rw [setH_o h2, setH_o h1]
            exact fr c h1 h2
        · rw [if_pos (Or.inr (by rw [← hs]; exact e)), OK_some]
          exact ⟨keep, fr⟩
      rw [w32_id (z := c) (by omega) (by omega), show w32 38 = 38 from rfl]
      exact OK_if (fun e => J2 0 (by rw [if_neg e])) (fun e => J2 1 (by rw [if_pos (by omega)]))
  -- the others
  have K : ¬ (c = 38 ∨ c = 124) → ∀ s2 : Int, s2 = bI (a.2 || b.2 || decide ((c = 47 ∨ c = 37) ∧ b.1 = 0)) → OK (X12_does_j71 c (r.length : Int) ((r.length : Int) + 1) (r.length : Int) s2 h) (fun h' => SMx h' (mdo c a b :: r) ∧ ∀ c, c ≠ 180 → c ≠ 181 → h' c = m c) := by
    intro hk s2 hs
    have em : mdo c a b = (mwk c a.1 b.1, a.2 || b.2 || decide ((c = 47 ∨ c = 37) ∧ b.1 = 0)) := by
      unfold mdo
      rw [if_neg hk]
    unfold X12_does_j71
    refine OK_gd i1 (OK_gd i1 (OK_gd i2 ?_))
    rw [n1, n2, a1, b1', worked_s (by omega) ha hb, OK_bindE, OK_some]
    refine OK_gd i1 ?_
    rw [OK_some, em]
    refine ⟨⟨⟨?_, ?_⟩, SMx_cg _ (fun j hj => ?_) gr⟩, fun c h1 h2 => ?_⟩
    · rw [setH_s]
    · rw [setH_o (by decide), setH_s, hs, z1_b]
    · rw [setH_n (by omega), setH_o (by decide), setH_o (by decide), setH_n (by omega)]
      exact ⟨rfl, rfl⟩
    · rw [setH_o h1, setH_o h2]
      exact fr c h1 h2
  unfold X12_does X12_does_j68 X12_does_j63 X12_does_j70
  simp only [w32_id (z := c) (by omega) (by omega), show w32 38 = 38 from rfl, show w32 124 = 124 from rfl, show w32 47 = 47 from rfl, show w32 37 = 37 from rfl]
  refine OK_if (fun k => J (Or.inl k)) (fun k => OK_if (fun k2 => ?_) (fun k2 => J (Or.inr (by omega))))
  have hk : ¬ (c = 38 ∨ c = 124) := fun q => q.elim k k2
  refine OK_gd i1 ?_
  rw [n1, a2, bI_w, n2, b2', bI_w, b1', w32_id hb.1 hb.2]
  cases ea : a.2 with
  | true =>
    refine OK_gd (by decide) (K hk 1 (by rw [ea]; rfl))
  | false =>
    refine OK_gn (by decide) (OK_gd i2 ?_)
    cases eb : b.2 with
    | true => exact OK_gd (by decide) (K hk 1 (by rw [ea, eb]; rfl))
    | false =>
      refine OK_gn (by decide) ?_
      have fin : ((c = 47 ∨ c = 37) → OK (if inb ((r.length : Int) + 1) 200 then if b.1 ≠ 0 then X12_does_j71 c (r.length : Int) ((r.length : Int) + 1) (r.length : Int) 0 h else X12_does_j71 c (r.length : Int) ((r.length : Int) + 1) (r.length : Int) 1 h else none) (fun h' => SMx h' (mdo c a b :: r) ∧ ∀ c, c ≠ 180 → c ≠ 181 → h' c = m c)) := by
        intro hq
        refine OK_gd i2 (OK_if (fun e => K hk 0 ?_) (fun e => K hk 1 ?_))
        · rw [ea, eb]
          have : decide ((c = 47 ∨ c = 37) ∧ b.1 = 0) = false := decide_eq_false (fun q => e q.2)
          rw [this]
          rfl
        · rw [ea, eb]
          have : decide ((c = 47 ∨ c = 37) ∧ b.1 = 0) = true := decide_eq_true ⟨hq, by omega⟩
          rw [this]
          rfl
      refine OK_if (fun k3 => fin (Or.inl k3)) (fun k3 => OK_if (fun k4 => K hk 0 ?_) (fun k4 => fin (Or.inr (by omega))))
      rw [ea, eb]
      have : decide ((c = 47 ∨ c = 37) ∧ b.1 = 0) = false := decide_eq_false (fun q => q.1.elim k3 k4)
      rw [this]
      rfl
