/-- the letters' places from a on -/
def isLt (j : Nat) : Prop := j = 1 ∨ j = 2 ∨ j = 8 ∨ j = 10 ∨ j = 11 ∨ j = 12 ∨ j = 13 ∨ j = 15 ∨ j = 18 ∨ j = 19 ∨ j = 22 ∨ j = 23 ∨ j = 24 ∨ j = 25
theorem mrn_add {cd ar : Nat → Int} {ρ : Int → Int} : ∀ (n k p : Nat) (st : List (Int × Bool)), mrn cd ar ρ (n + k) p st = (mrn cd ar ρ n p st).bind (mrn cd ar ρ k (p + n))
  | 0, k, p, st => by rw [Nat.zero_add]; rfl
  | n + 1, k, p, st => by
    rw [show n + 1 + k = (n + k) + 1 by omega]
    show (mst cd ar ρ p st).bind (mrn cd ar ρ (n + k) (p + 1)) = ((mst cd ar ρ p st).bind (mrn cd ar ρ n (p + 1))).bind (mrn cd ar ρ k (p + (n + 1)))
    cases mst cd ar ρ p st with
    | none => rfl
    | some s =>
      show mrn cd ar ρ (n + k) (p + 1) s = (mrn cd ar ρ n (p + 1) s).bind (mrn cd ar ρ k (p + (n + 1)))
      rw [mrn_add n k (p + 1) s, show p + 1 + n = p + (n + 1) by omega]
/-- from a to b the model's steps come to v; where it is a C, to 0 or 1 -/
def MS (cd ar : Nat → Int) (a b : Nat) (v : Den) (isC : Prop) : Prop := a ≤ b ∧ ∀ cd' ar' : Nat → Int, (∀ p, a ≤ p → p < b → cd' p = cd p ∧ ar' p = ar p) → ∀ (ρ : Int → Int) (ρX : Nat → Int) (st : List (Int × Bool)), (∀ j, isLt j → ρX j = ρ (97 + (j : Int))) → ∃ z r, mrn cd' ar' ρ (b - a) a st = some ((z, r) :: st) ∧ ((r = false ∧ v ρX = some z) ∨ (r = true ∧ v ρX = none)) ∧ (isC → z = 0 ∨ z = 1)
theorem MS_cg {cd ar cd' ar' : Nat → Int} {a b : Nat} {v : Den} {C : Prop} (h : ∀ p, a ≤ p → p < b → cd' p = cd p ∧ ar' p = ar p) (s : MS cd ar a b v C) : MS cd' ar' a b v C :=
  ⟨s.1, fun kd2 op2 h2 => s.2 kd2 op2 (fun p h3 h4 => ⟨(h2 p h3 h4).1.trans (h p h3 h4).1, (h2 p h3 h4).2.trans (h p h3 h4).2⟩)⟩
theorem mrn_1 {cd ar : Nat → Int} {ρ : Int → Int} {p : Nat} {st : List (Int × Bool)} : mrn cd ar ρ 1 p st = mst cd ar ρ p st := by
  show (mst cd ar ρ p st).bind (mrn cd ar ρ 0 (p + 1)) = _
  cases mst cd ar ρ p st <;> rfl
theorem MS_num {cd ar : Nat → Int} {a : Nat} {z : Int} (h1 : cd a = 0) (h2 : ar a = z) : MS cd ar a (a + 1) (fun _ => some z) False := by
  refine ⟨by omega, fun cd' ar' h ρ ρX st hρ => ⟨z, false, ?_, Or.inl ⟨rfl, rfl⟩, fun q => q.elim⟩⟩
  obtain ⟨k1, k2⟩ := h a (Nat.le_refl _) (by omega)
  rw [show a + 1 - a = 1 by omega, mrn_1]
  unfold mst
  rw [if_pos (by rw [k1, h1]), k2, h2]
theorem MS_let {cd ar : Nat → Int} {a j : Nat} (hj : isLt j) (h1 : cd a = 1) (h2 : ar a = 97 + (j : Int)) : MS cd ar a (a + 1) (fun ρ => some (ρ j)) False := by
  refine ⟨by omega, fun cd' ar' h ρ ρX st hρ => ⟨ρX j, false, ?_, Or.inl ⟨rfl, rfl⟩, fun q => q.elim⟩⟩
  obtain ⟨k1, k2⟩ := h a (Nat.le_refl _) (by omega)
  rw [show a + 1 - a = 1 by omega, mrn_1]
  unfold mst
  rw [if_neg (by omega), if_pos (by rw [k1, h1]), k2, h2, hρ j hj]
def isOp (k : Int) : Prop := k = 42 ∨ k = 43 ∨ k = 45 ∨ k = 47 ∨ k = 37 ∨ k = 60 ∨ k = 61 ∨ k = 62
theorem jn_mw {k x y : Int} (hk : isOp k) : (jnO k x y = none ∧ (k = 47 ∨ k = 37) ∧ y = 0) ∨ (jnO k x y = some (mwk k x y) ∧ ¬ ((k = 47 ∨ k = 37) ∧ y = 0)) := by
  unfold isOp at hk
  rcases hk with e | e | e | e | e | e | e | e <;> subst e
  · exact Or.inr ⟨rfl, by omega⟩
  · exact Or.inr ⟨rfl, by omega⟩
  · exact Or.inr ⟨rfl, by omega⟩
  · by_cases q : y = 0
    · exact Or.inl ⟨by unfold jnO; simp [q], Or.inl rfl, q⟩
    · exact Or.inr ⟨by unfold jnO mwk; simp [q], fun z => q z.2⟩
  · by_cases q : y = 0
    · exact Or.inl ⟨by unfold jnO; simp [q], Or.inr rfl, q⟩
    · exact Or.inr ⟨by unfold jnO mwk; simp [q], fun z => q z.2⟩
  · exact Or.inr ⟨rfl, by omega⟩
  · exact Or.inr ⟨by unfold jnO mwk; by_cases q : x = y <;> simp [q], by omega⟩
  · exact Or.inr ⟨rfl, by omega⟩
theorem mw_01 {k x y : Int} (hk : k = 60 ∨ k = 61 ∨ k = 62) : mwk k x y = 0 ∨ mwk k x y = 1 := by
  rcases hk with e | e | e <;> subst e
  · show (if y ≤ x then (0 : Int) else 1) = 0 ∨ (if y ≤ x then (0 : Int) else 1) = 1
    split <;> simp
  · show (if x ≠ y then (0 : Int) else 1) = 0 ∨ (if x ≠ y then (0 : Int) else 1) = 1
    split <;> simp
  · show (if x ≤ y then (0 : Int) else 1) = 0 ∨ (if x ≤ y then (0 : Int) else 1) = 1
    split <;> simp
theorem MS_bin {cd ar : Nat → Int} {a b q : Nat} {v w : Den} {C1 C2 C : Prop} (s1 : MS cd ar a b v C1) (s2 : MS cd ar b q w C2) (hk : isOp (cd q)) (hC : C → (cd q = 60 ∨ cd q = 61 ∨ cd q = 62)) : MS cd ar a (q + 1) (vBin (cd q) v w) C := by
  have l1 := s1.1
  have l2 := s2.1
  refine ⟨by omega, fun cd' ar' h ρ ρX st hρ => ?_⟩
  obtain ⟨x, r1, m1, d1, -⟩ := s1.2 cd' ar' (fun p h1 h2 => h p h1 (by omega)) ρ ρX st hρ
  obtain ⟨y, r2, m2, d2, -⟩ := s2.2 cd' ar' (fun p h1 h2 => h p (by omega) (by omega)) ρ ρX ((x, r1) :: st) hρ
  obtain ⟨k1, k2⟩ := h q (by omega) (by omega)
  have hk' := hk
  unfold isOp at hk'
  refine ⟨mwk (cd q) x y, r1 || r2 || decide ((cd q = 47 ∨ cd q = 37) ∧ y = 0), ?_, ?_, fun c => mw_01 (hC c)⟩
  · rw [show q + 1 - a = (b - a) + ((q - b) + 1) by omega, mrn_add, m1]
    show mrn cd' ar' ρ (q - b + 1) (a + (b - a)) ((x, r1) :: st) = _
    rw [show a + (b - a) = b by omega, mrn_add, m2]
    show mrn cd' ar' ρ 1 (b + (q - b)) ((y, r2) :: (x, r1) :: st) = _
    rw [show b + (q - b) = q by omega, mrn_1]
    unfold mst
    rw [k1, if_neg (by omega), if_neg (by omega), if_neg (by omega)]
    show some (mdo (cd q) (x, r1) (y, r2) :: st) = _
    unfold mdo
    rw [if_neg (by omega)]
  · rcases d1 with ⟨e1, f1⟩ | ⟨e1, f1⟩
    · rcases d2 with ⟨e2, f2⟩ | ⟨e2, f2⟩
      · have ev : vBin (cd q) v w ρX = jnO (cd q) x y := by
          unfold vBin
          rw [f1]
          dsimp only
          rw [f2]
        rw [e1, e2, ev]
        rcases jn_mw (x := x) (y := y) hk with ⟨j1, j2⟩ | ⟨j1, j2⟩
        · exact Or.inr ⟨by simp [j2], j1⟩
        · refine Or.inl ⟨?_, j1⟩
          rw [decide_eq_false j2]
          rfl
      · refine Or.inr ⟨by rw [e2]; simp, ?_⟩
        unfold vBin
        rw [f1]
        dsimp only
        rw [f2]
    · refine Or.inr ⟨by rw [e1]; simp, ?_⟩
      unfold vBin
      rw [f1]
theorem MS_not {cd ar : Nat → Int} {a b : Nat} {v : Den} (s1 : MS cd ar a b v True) (hk : cd b = 2) : MS cd ar a (b + 1) (vNot v) True := by
  have l1 := s1.1
  refine ⟨by omega, fun cd' ar' h ρ ρX st hρ => ?_⟩
  obtain ⟨x, r1, m1, d1, c1⟩ := s1.2 cd' ar' (fun p h1 h2 => h p h1 (by omega)) ρ ρX st hρ
  obtain ⟨k1, k2⟩ := h b (by omega) (by omega)
  have hx := c1 trivial
  refine ⟨1 - x, r1, ?_, ?_, fun _ => by omega⟩
  · rw [show b + 1 - a = (b - a) + 1 by omega, mrn_add, m1]
    show mrn cd' ar' ρ 1 (a + (b - a)) ((x, r1) :: st) = _
    rw [show a + (b - a) = b by omega, mrn_1]
    unfold mst
    rw [k1, hk, if_neg (by decide), if_neg (by decide), if_pos rfl]
    show (if x = 0 ∨ x = 1 then some ((1 - x, r1) :: st) else none) = _
    rw [if_pos hx]
  · rcases d1 with ⟨e1, f1⟩ | ⟨e1, f1⟩
    · refine Or.inl ⟨e1, ?_⟩
      unfold vNot
      rw [f1]
      show some (if x = 0 then (1 : Int) else 0) = some (1 - x)
      rcases hx with e | e <;> subst e <;> rfl
    · refine Or.inr ⟨e1, ?_⟩
      unfold vNot
      rw [f1]
      rfl
theorem MS_and {cd ar : Nat → Int} {a b q : Nat} {v w : Den} (s1 : MS cd ar a b v True) (s2 : MS cd ar b q w True) (hk : cd q = 38) : MS cd ar a (q + 1) (vAnd v w) True := by
  have l1 := s1.1
  have l2 := s2.1
  refine ⟨by omega, fun cd' ar' h ρ ρX st hρ => ?_⟩
  obtain ⟨x, r1, m1, d1, c1⟩ := s1.2 cd' ar' (fun p h1 h2 => h p h1 (by omega)) ρ ρX st hρ
  obtain ⟨y, r2, m2, d2, c2⟩ := s2.2 cd' ar' (fun p h1 h2 => h p (by omega) (by omega)) ρ ρX ((x, r1) :: st) hρ
  obtain ⟨k1, k2⟩ := h q (by omega) (by omega)
  have hx := c1 trivial
  have hy := c2 trivial
  have em : mrn cd' ar' ρ (q + 1 - a) a st = some ((if r1 = true ∨ x ≠ 1 then (x, r1) else (y, r2)) :: st) := by
    rw [show q + 1 - a = (b - a) + ((q - b) + 1) by omega, mrn_add, m1]
    show mrn cd' ar' ρ (q - b + 1) (a + (b - a)) ((x, r1) :: st) = _
    rw [show a + (b - a) = b by omega, mrn_add, m2]
    show mrn cd' ar' ρ 1 (b + (q - b)) ((y, r2) :: (x, r1) :: st) = _
    rw [show b + (q - b) = q by omega, mrn_1]
    unfold mst
    rw [k1, hk, if_neg (by decide), if_neg (by decide), if_neg (by decide)]
    rfl
  rcases d1 with ⟨e1, f1⟩ | ⟨e1, f1⟩
  · rcases hx with ex | ex
    · refine ⟨x, r1, by rw [em, if_pos (Or.inr (by omega))], Or.inl ⟨e1, ?_⟩, fun _ => Or.inl ex⟩
      unfold vAnd
      rw [f1]
      exact if_pos ex
    · refine ⟨y, r2, by rw [em, if_neg (by rw [e1, ex]; simp)], ?_, fun _ => hy⟩
      have ev : vAnd v w ρX = w ρX := by
        unfold vAnd
        rw [f1]
        exact if_neg (by omega)
      rw [ev]
      exact d2
  · refine ⟨x, r1, by rw [em, if_pos (Or.inl e1)], Or.inr ⟨e1, ?_⟩, fun _ => hx⟩
    unfold vAnd
    rw [f1]
theorem MS_or {cd ar : Nat → Int} {a b q : Nat} {v w : Den} (s1 : MS cd ar a b v True) (s2 : MS cd ar b q w True) (hk : cd q = 124) : MS cd ar a (q + 1) (vOr v w) True := by
  have l1 := s1.1
  have l2 := s2.1
  refine ⟨by omega, fun cd' ar' h ρ ρX st hρ => ?_⟩
  obtain ⟨x, r1, m1, d1, c1⟩ := s1.2 cd' ar' (fun p h1 h2 => h p h1 (by omega)) ρ ρX st hρ
  obtain ⟨y, r2, m2, d2, c2⟩ := s2.2 cd' ar' (fun p h1 h2 => h p (by omega) (by omega)) ρ ρX ((x, r1) :: st) hρ
  obtain ⟨k1, k2⟩ := h q (by omega) (by omega)
  have hx := c1 trivial
  have hy := c2 trivial
  have em : mrn cd' ar' ρ (q + 1 - a) a st = some ((if r1 = true ∨ x ≠ 0 then (x, r1) else (y, r2)) :: st) := by
    rw [show q + 1 - a = (b - a) + ((q - b) + 1) by omega, mrn_add, m1]
    show mrn cd' ar' ρ (q - b + 1) (a + (b - a)) ((x, r1) :: st) = _
    rw [show a + (b - a) = b by omega, mrn_add, m2]
    show mrn cd' ar' ρ 1 (b + (q - b)) ((y, r2) :: (x, r1) :: st) = _
    rw [show b + (q - b) = q by omega, mrn_1]
    unfold mst
    rw [k1, hk, if_neg (by decide), if_neg (by decide), if_neg (by decide)]
    rfl
  rcases d1 with ⟨e1, f1⟩ | ⟨e1, f1⟩
  · rcases hx with ex | ex
    · refine ⟨y, r2, by rw [em, if_neg (by rw [e1, ex]; simp)], ?_, fun _ => hy⟩
      have ev : vOr v w ρX = w ρX := by
        unfold vOr
        rw [f1]
        exact if_neg (by omega)
      rw [ev]
      exact d2
    · refine ⟨x, r1, by rw [em, if_pos (Or.inr (by omega))], Or.inl ⟨e1, ?_⟩, fun _ => Or.inr ex⟩
      unfold vOr
      rw [f1]
      exact if_pos (by omega)
  · refine ⟨x, r1, by rw [em, if_pos (Or.inl e1)], Or.inr ⟨e1, ?_⟩, fun _ => hx⟩
    unfold vOr
    rw [f1]
