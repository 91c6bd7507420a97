/-! TEXTS: what steps come to, on either side. The one side's steps jump; the model's go straight on. -/
def jnO (k a b : Int) : Option Int := if k = 42 then some (w32 (a * b)) else if k = 43 then some (w32 (a + b)) else if k = 45 then some (w32 (a - b)) else if k = 60 then some (if b ≤ a then 0 else 1) else if k = 61 then some (if a = b then 1 else 0) else if k = 62 then some (if a ≤ b then 0 else 1) else if b = 0 then none else if k = 47 then some (div32 a b) else some (rem32 a b)
def psh (z : Int) (st : List Int) : List Int := if st.length < 64 then z :: st else st
/-- a step: none if it is refused -/
def xst (kd op ρ : Nat → Int) (s : Nat × List Int) : Option (Nat × List Int) :=
  if kd s.1 = 1 then some (s.1 + 1, psh (op s.1) s.2)
  else if kd s.1 = 2 then some (s.1 + 1, psh (ρ (op s.1).toNat) s.2)
  else if kd s.1 = 33 then some (s.1 + 1, psh (if s.2.headD 0 = 0 then 1 else 0) s.2.tail)
  else if kd s.1 = 38 then (if s.2.headD 0 = 0 then some ((op s.1).toNat, s.2) else some (s.1 + 1, s.2.tail))
  else if kd s.1 = 124 then (if s.2 = [] ∨ s.2.headD 0 ≠ 0 then some ((op s.1).toNat, s.2) else some (s.1 + 1, s.2.tail))
  else (jnO (kd s.1) (s.2.tail.headD 0) (s.2.headD 0)).map (fun z => (s.1 + 1, psh z s.2.tail.tail))
def xrn (kd op ρ : Nat → Int) (e : Nat) : Nat → Nat × List Int → Option (List Int)
  | 0, s => some s.2
  | n + 1, s => if e ≤ s.1 then some s.2 else (xst kd op ρ s).bind (xrn kd op ρ e n)
/-- the steps' numbers are of their kinds -/
def CKx (kd op : Nat → Int) (n : Nat) : Prop := ∀ p, p < n → (0 ≤ kd p ∧ kd p ≤ 255) ∧ (0 ≤ op p ∧ op p ≤ 99999) ∧ (kd p = 2 → op p < 26) ∧ (kd p = 38 ∨ kd p = 124 → op p ≤ 160)
/-- the stack in its cell -/
def SKx (h : Hp) (c : Nat) : List Int → Prop
  | [] => True
  | z :: r => h c r.length = z ∧ SKx h c r
theorem SKx_cg {h h' : Hp} {c : Nat} : ∀ st : List Int, (∀ j, j < st.length → h' c j = h c j) → SKx h c st → SKx h' c st
  | [], _, _ => trivial
  | z :: r, he, hs => ⟨(he r.length (by simp)).trans hs.1, SKx_cg r (fun j hj => he j (by simp; omega)) hs.2⟩
theorem SKx_hd {h : Hp} {c : Nat} {st : List Int} (hs : SKx h c st) (hn : 0 < st.length) : h c (st.length - 1) = st.headD 0 := by
  cases st with
  | nil => simp at hn
  | cons z r => exact hs.1
theorem SKx_tl {h : Hp} {c : Nat} {st : List Int} (hs : SKx h c st) : SKx h c st.tail := by
  cases st with
  | nil => trivial
  | cons z r => exact hs.2
/-- where a text stands while it runs -/
def XG (x h : Hp) (t : Nat) (st : List Int) : Prop := h t 9 = (st.length : Int) ∧ st.length ≤ 64 ∧ SKx h (t + 7) st ∧ (∀ z ∈ st, -2147483648 ≤ z ∧ z < 2147483648) ∧ (∀ c j, ¬ (c = t ∧ (j = 9 ∨ j = 10)) → c ≠ t + 7 → h c j = x c j)
theorem pop_s {x h : Hp} {t : Nat} {st : List Int} (g : XG x h t st) : OK (X10_pop t h) (fun z => z.1 = st.headD 0 ∧ XG x z.2 t st.tail ∧ z.2 t 10 = h t 10) := by
  obtain ⟨g1, g2, g3, g4, g5⟩ := g
  unfold X10_pop
  simp only [g1, w32_id (z := (st.length : Int)) (by omega) (by omega), w32_1, show w32 64 = 64 from rfl]
  by_cases c : st.length < 1
  · refine OK_gd (by omega) ?_
    have e : st = [] := List.eq_nil_of_length_eq_zero (by omega)
    subst e
    exact ⟨rfl, ⟨g1, g2, g3, g4, g5⟩, rfl⟩
  · refine OK_gn (by omega) (OK_gd (by omega) ?_)
    rw [setH_s]
    refine OK_gi (by omega) (by omega) (by omega) ?_
    rw [wtn (v := (st.length : Int) - 1) (st.length - 1) (by omega) (by omega), OK_some]
    refine ⟨?_, ⟨?_, ?_, ?_, ?_, ?_⟩, ?_⟩
    · show setH h t 9 ((st.length : Int) - 1) (t + 7) (st.length - 1) = _
      rw [setH_o (by omega)]
      exact SKx_hd g3 (by omega)
    · show setH h t 9 ((st.length : Int) - 1) t 9 = _
      rw [setH_s, List.length_tail]
      omega
    · rw [List.length_tail]
      omega
    · exact SKx_cg _ (fun j _ => setH_f (by omega)) (SKx_tl g3)
    · exact fun z hz => g4 z (List.mem_of_mem_tail hz)
    · exact fun c j h1 h2 => (setH_f (by omega)).trans (g5 c j h1 h2)
    · exact setH_f (by omega)
theorem push_s {x h : Hp} {t : Nat} {st : List Int} {z : Int} (hz : -2147483648 ≤ z ∧ z < 2147483648) (g : XG x h t st) : OK (X10_push t z h) (fun h' => XG x h' t (psh z st) ∧ h' t 10 = h t 10) := by
  obtain ⟨g1, g2, g3, g4, g5⟩ := g
  unfold X10_push psh
  simp only [g1, w32_id (z := (st.length : Int)) (by omega) (by omega), show w32 64 = 64 from rfl]
  refine OK_gn (by omega) ?_
  by_cases c : st.length < 64
  · refine OK_gn (by omega) ?_
    refine OK_gi (by omega) (by omega) (by omega) ?_
    rw [tn, if_pos c, OK_some, setH_o (show t ≠ t + 7 by omega), g1]
    refine ⟨⟨?_, ?_, ⟨?_, ?_⟩, ?_, ?_⟩, ?_⟩
    · rw [setH_s]
      rfl
    · simp
      omega
    · rw [setH_o (by omega), setH_s]
    · exact SKx_cg _ (fun j hj => (setH_f (by omega)).trans (setH_f (by omega))) g3
    · intro y hy
      rcases List.mem_cons.mp hy with e | e
      · rw [e]
        exact hz
      · exact g4 y e
    · exact fun c j h1 h2 => (setH_f (by omega)).trans ((setH_f (by omega)).trans (g5 c j h1 h2))
    · rw [setH_n (by decide), setH_o (by omega)]
  · refine OK_gd (by omega) ?_
    rw [if_neg c]
    exact ⟨⟨g1, g2, g3, g4, g5⟩, rfl⟩
theorem hd_bd {st : List Int} (g : ∀ z ∈ st, -2147483648 ≤ z ∧ z < 2147483648) : -2147483648 ≤ st.headD 0 ∧ st.headD 0 < 2147483648 := by
  cases st with
  | nil => show (-2147483648 : Int) ≤ 0 ∧ (0 : Int) < 2147483648; omega
  | cons z r => exact g z List.mem_cons_self
theorem div32_bd (a b : Int) : -2147483648 ≤ div32 a b ∧ div32 a b < 2147483648 := by
  have h1 := Int32.le_toInt (Int32.ofInt a / Int32.ofInt b)
  have h2 := Int32.toInt_lt (Int32.ofInt a / Int32.ofInt b)
  unfold div32
  omega
theorem rem32_bd (a b : Int) : -2147483648 ≤ rem32 a b ∧ rem32 a b < 2147483648 := by
  have h1 := Int32.le_toInt (Int32.ofInt a - Int32.ofInt a / Int32.ofInt b * Int32.ofInt b)
  have h2 := Int32.toInt_lt (Int32.ofInt a - Int32.ofInt a / Int32.ofInt b * Int32.ofInt b)
  unfold rem32
  omega
theorem jnO_bd {k a b z : Int} (h : jnO k a b = some z) : -2147483648 ≤ z ∧ z < 2147483648 := by
  have w1 := w32_ge (a * b)
  have w2 := w32_lt' (a * b)
  have w3 := w32_ge (a + b)
  have w4 := w32_lt' (a + b)
  have w5 := w32_ge (a - b)
  have w6 := w32_lt' (a - b)
  have w7 := div32_bd a b
  have w8 := rem32_bd a b
  unfold jnO at h
  repeat' split at h
  all_goals first | (cases h; omega) | (cases h) | (injection h with h; subst h; omega)
theorem joined_s {t : Nat} {k a b : Int} {h : Hp} (hk : 0 ≤ k ∧ k ≤ 255) (ha : -2147483648 ≤ a ∧ a < 2147483648) (hb : -2147483648 ≤ b ∧ b < 2147483648) : X10_joined t k a b h = match jnO k a b with | some z => some (z, h) | none => some (0, setH h t 10 1) := by
  unfold X10_joined jnO
  rw [w32_id (z := k) (by omega) (by omega), w32_id ha.1 ha.2, w32_id hb.1 hb.2, show w32 47 = 47 from rfl]
  by_cases k1 : k = 42
  · simp only [if_pos k1]
  simp only [if_neg k1]
  by_cases k2 : k = 43
  · simp only [if_pos k2]
  simp only [if_neg k2]
  by_cases k3 : k = 45
  · simp only [if_pos k3]
  simp only [if_neg k3]
  by_cases k4 : k = 60
  · simp only [if_pos k4]
    split <;> rfl
  simp only [if_neg k4]
  by_cases k5 : k = 61
  · simp only [if_pos k5]
    by_cases e : a = b
    · rw [if_neg (fun q => q e), if_pos e]
    · rw [if_pos e, if_neg e]
  simp only [if_neg k5]
  by_cases k6 : k = 62
  · simp only [if_pos k6]
    split <;> rfl
  simp only [if_neg k6]
  by_cases e : b = 0
  · rw [if_neg (fun q => q e), if_pos e]
  · rw [if_pos e, if_neg e]
    by_cases k7 : k = 47
    · rw [if_neg (fun q => q k7), if_pos k7, if_pos e]
    · rw [if_pos k7, if_neg k7, if_pos e]
