/-! SURE: whether as many rows are best with one more pair -/
/-- what is reached by best steps -/
def brP (N : Nat) (A : Nat → Nat → Bool) (g : Nat → Nat → Int) (s l : Nat) : Prop := ∀ Q : Nat → Nat → Prop, Q 0 10 → (∀ s l a, Q s l → a < N → (cdV N A g (VV N A g) s l a).2 ≠ 0 → (cdV N A g (VV N A g) s l a).1 = (VV N A g s l).1 → Q (s ||| 2 ^ a) a) → Q s l
theorem brP_0 (N : Nat) (A : Nat → Nat → Bool) (g : Nat → Nat → Int) : brP N A g 0 10 := fun _ h _ => h
theorem brP_s {N : Nat} {A : Nat → Nat → Bool} {g : Nat → Nat → Int} {s l a : Nat} (h : brP N A g s l) (ha : a < N) (h1 : (cdV N A g (VV N A g) s l a).2 ≠ 0) (h2 : (cdV N A g (VV N A g) s l a).1 = (VV N A g s l).1) : brP N A g (s ||| 2 ^ a) a := fun Q q0 q1 => q1 s l a (h Q q0 q1) ha h1 h2
def morA (A : Nat → Nat → Bool) (x y : Nat) : Nat → Nat → Bool := fun a b => A a b || (decide (a = y) && decide (b = x))
theorem mayB_mor {N : Nat} {A : Nat → Nat → Bool} {x y s a : Nat} (hx : x < N) : mayB N (morA A x y) s a = true ↔ mayB N A s a = true ∧ (a = y → s.testBit x = true) := by
  rw [mayB_iff, mayB_iff]
  constructor
  · intro ⟨h1, h2⟩
    refine ⟨⟨h1, fun b hb hA => h2 b hb ?_⟩, fun e => h2 x hx ?_⟩
    · unfold morA
      rw [hA, Bool.true_or]
    · unfold morA
      rw [decide_eq_true e, decide_eq_true (show x = x from rfl), Bool.and_self, Bool.or_true]
  · intro ⟨⟨h1, h2⟩, h3⟩
    refine ⟨h1, fun b hb hA => ?_⟩
    unfold morA at hA
    rw [Bool.or_eq_true, Bool.and_eq_true, decide_eq_true_iff, decide_eq_true_iff] at hA
    rcases hA with hA | hA
    · exact h2 b hb hA
    · rw [hA.2]
      exact h3 hA.1
theorem remN_k {N s f a : Nat} (h : remN N s = f + 1) (ha : a < N) (hb : s.testBit a = false) : remN N (s ||| 2 ^ a) = f := by
  have := remN_s ha hb
  omega
theorem VV_mono {N : Nat} {A : Nat → Nat → Bool} {g : Nat → Nat → Int} {x y : Nat} (hx : x < N) : ∀ f s l, remN N s = f → (VV N (morA A x y) g s l).2 ≠ 0 → (VV N A g s l).2 ≠ 0 ∧ (VV N (morA A x y) g s l).1 ≤ (VV N A g s l).1 ∧ ((VV N (morA A x y) g s l).1 = (VV N A g s l).1 → (VV N (morA A x y) g s l).2 ≤ (VV N A g s l).2) := by
  intro f
  induction f with
  | zero =>
    intro s l h hne
    rw [VV_0 h, VV_0 h]
    exact ⟨by decide, Int.le_refl _, fun _ => Nat.le_refl _⟩
  | succ f ih =>
    intro s l h hne
    have hc : ∀ a, a < N → (cdV N (morA A x y) g (VV N (morA A x y) g) s l a).2 ≠ 0 → (cdV N A g (VV N A g) s l a).2 ≠ 0 ∧ (cdV N (morA A x y) g (VV N (morA A x y) g) s l a).1 ≤ (cdV N A g (VV N A g) s l a).1 ∧ ((cdV N (morA A x y) g (VV N (morA A x y) g) s l a).1 = (cdV N A g (VV N A g) s l a).1 → (cdV N (morA A x y) g (VV N (morA A x y) g) s l a).2 ≤ (cdV N A g (VV N A g) s l a).2) := by
      intro a ha q
      obtain ⟨q1, q2⟩ := cdV_nz.mp q
      have o := (mayB_mor hx).mp q1
      have e := remN_k h ha (mayB_nb q1)
      obtain ⟨i1, i2, i3⟩ := ih (s ||| 2 ^ a) a e q2
      rw [cdV_p q1, cdV_p o.1]
      exact ⟨i1, by dsimp only; omega, fun r => i3 (by dsimp only at r; omega)⟩
    have hr : remN N s ≠ 0 := by omega
    rw [VV_s (A := morA A x y) hr] at hne ⊢
    rw [VV_s (A := A) hr]
    rcases foV_m (cdV N (morA A x y) g (VV N (morA A x y) g) s l) N with ⟨h1, -, -⟩ | ⟨h1, ⟨a, h2, h3, h4⟩, h5, h6⟩
    · exact absurd h1 hne
    · obtain ⟨k1, k2, k3⟩ := hc a h2 h3
      rcases foV_m (cdV N A g (VV N A g) s l) N with ⟨g1, -, g3⟩ | ⟨g1, -, g5, g6⟩
      · exact absurd (g3 a h2) k1
      · have m1 := g5 a h2 k1
        refine ⟨g1, by omega, fun e => ?_⟩
        rw [h6, g6]
        refine suN_le N (fun b hb => ?_)
        unfold seV
        by_cases c : (cdV N (morA A x y) g (VV N (morA A x y) g) s l b).2 ≠ 0 ∧ (cdV N (morA A x y) g (VV N (morA A x y) g) s l b).1 = (foV (cdV N (morA A x y) g (VV N (morA A x y) g) s l) N).1
        · obtain ⟨j1, j2, j3⟩ := hc b hb c.1
          have m2 := g5 b hb j1
          have c2 := c.2
          rw [if_pos c, if_pos ⟨j1, by omega⟩]
          exact j3 (by omega)
        · rw [if_neg c]
          exact Nat.zero_le _
/-- less in points or in rows -/
def SLs (N : Nat) (A : Nat → Nat → Bool) (g : Nat → Nat → Int) (x y s l : Nat) : Prop := (VV N (morA A x y) g s l).2 = 0 ∨ (VV N (morA A x y) g s l).1 < (VV N A g s l).1 ∨ (VV N (morA A x y) g s l).2 < (VV N A g s l).2
theorem SLs_up {N : Nat} {A : Nat → Nat → Bool} {g : Nat → Nat → Int} {x y s l a : Nat} (hx : x < N) (h : remN N s ≠ 0) (ha : a < N) (h1 : (cdV N A g (VV N A g) s l a).2 ≠ 0) (h2 : (cdV N A g (VV N A g) s l a).1 = (VV N A g s l).1) (h3 : ¬ mayB N (morA A x y) s a = true ∨ SLs N A g x y (s ||| 2 ^ a) a) : SLs N A g x y s l := by
  refine Classical.byContradiction (fun q => ?_)
  unfold SLs at q
  have q1 : (VV N (morA A x y) g s l).2 ≠ 0 := fun r => q (Or.inl r)
  obtain ⟨m1, m2, m3⟩ := VV_mono hx _ s l rfl q1
  have q2 : (VV N (morA A x y) g s l).1 = (VV N A g s l).1 := by
    by_cases r : (VV N (morA A x y) g s l).1 < (VV N A g s l).1
    · exact absurd (Or.inr (Or.inl r)) q
    · omega
  refine q (Or.inr (Or.inr ?_))
  obtain ⟨f, hf⟩ : ∃ f, remN N s = f + 1 := ⟨remN N s - 1, by omega⟩
  have hm := VV_mono (A := A) (g := g) (y := y) hx
  rw [VV_s (A := morA A x y) h] at q1 q2 ⊢
  rw [VV_s (A := A) h] at q2 h2 m1 ⊢
  rcases foV_m (cdV N (morA A x y) g (VV N (morA A x y) g) s l) N with ⟨k1, -, -⟩ | ⟨-, -, -, k6⟩
  · exact absurd k1 q1
  rcases foV_m (cdV N A g (VV N A g) s l) N with ⟨g1, -, -⟩ | ⟨-, -, g5, g6⟩
  · exact absurd g1 m1
  rw [k6, g6]
  refine suN_lt N (fun b hb => ?_) ⟨a, ha, ?_⟩
  · unfold seV
    by_cases c : (cdV N (morA A x y) g (VV N (morA A x y) g) s l b).2 ≠ 0 ∧ (cdV N (morA A x y) g (VV N (morA A x y) g) s l b).1 = (foV (cdV N (morA A x y) g (VV N (morA A x y) g) s l) N).1
    · obtain ⟨j1, j2⟩ := cdV_nz.mp c.1
      have o := (mayB_mor hx).mp j1
      obtain ⟨i1, i2, i3⟩ := hm f (s ||| 2 ^ b) b (remN_k hf hb (mayB_nb j1)) j2
      have n1 : (cdV N A g (VV N A g) s l b).2 ≠ 0 := cdV_nz.mpr ⟨o.1, i1⟩
      have n2 := g5 b hb n1
      have c2 := c.2
      rw [if_pos c]
      rw [cdV_p j1] at c2 ⊢
      rw [cdV_p o.1] at n1 n2 ⊢
      dsimp only at c2 n2 ⊢
      rw [if_pos ⟨n1, by omega⟩]
      exact i3 (by omega)
    · rw [if_neg c]
      exact Nat.zero_le _
  · have e : seV (cdV N A g (VV N A g) s l) (foV (cdV N A g (VV N A g) s l) N).1 a = (cdV N A g (VV N A g) s l a).2 := if_pos ⟨h1, h2⟩
    rw [e]
    unfold seV
    by_cases c : (cdV N (morA A x y) g (VV N (morA A x y) g) s l a).2 ≠ 0 ∧ (cdV N (morA A x y) g (VV N (morA A x y) g) s l a).1 = (foV (cdV N (morA A x y) g (VV N (morA A x y) g) s l) N).1
    · obtain ⟨j1, j2⟩ := cdV_nz.mp c.1
      have o := (mayB_mor hx).mp j1
      have c2 := c.2
      rw [if_pos c]
      rw [cdV_p j1] at c2 ⊢
      rw [cdV_p o.1] at h2 h1 ⊢
      dsimp only at c2 h2 h1 ⊢
      rcases h3 with h3 | h3 | h3 | h3
      · exact absurd j1 h3
      · exact absurd h3 j2
      · omega
      · exact h3
    · rw [if_neg c]
      omega
theorem sure_no {N : Nat} {A : Nat → Nat → Bool} {g : Nat → Nat → Int} {x y t : Nat} (hx : x < N) (h0 : (VV N A g 0 10).2 ≠ 0) (hb : brP N A g t y) (hy : y ≠ 10) (ht : t.testBit x = false) : SLs N A g x y 0 10 := by
  have key := hb (fun s l => (VV N A g s l).2 ≠ 0 ∧ (SLs N A g x y s l → SLs N A g x y 0 10) ∧ (l = y → s.testBit x = false → SLs N A g x y 0 10)) ⟨h0, fun h => h, fun h => absurd h.symm hy⟩ (fun s l a ⟨q1, q2, q3⟩ ha h1 h2 => by
    obtain ⟨o, w⟩ := cdV_nz.mp h1
    have hr : remN N s ≠ 0 := by
      have := remN_s ha (mayB_nb o)
      omega
    refine ⟨w, fun h => q2 (SLs_up hx hr ha h1 h2 (Or.inr h)), fun e hxs => q2 (SLs_up hx hr ha h1 h2 (Or.inl (fun r => ?_)))⟩
    have := ((mayB_mor hx).mp r).2 e
    rw [tb_or2, this] at hxs
    cases hxs)
  exact key.2.2 rfl ht
theorem sure_yes {N : Nat} {A : Nat → Nat → Bool} {g : Nat → Nat → Int} {x y : Nat} (hx : x < N) (hxy : x ≠ y) (hG : ∀ t, brP N A g t y → t.testBit x = true) : ∀ f s l, remN N s = f → brP N A g s l → (VV N A g s l).2 ≠ 0 → VV N (morA A x y) g s l = VV N A g s l := by
  intro f
  induction f with
  | zero =>
    intro s l h _ _
    rw [VV_0 h, VV_0 h]
  | succ f ih =>
    intro s l h hb hne
    have hr : remN N s ≠ 0 := by omega
    have hm := VV_mono (A := A) (g := g) (y := y) hx
    have best : ∀ a, a < N → (cdV N A g (VV N A g) s l a).2 ≠ 0 → (cdV N A g (VV N A g) s l a).1 = (VV N A g s l).1 → cdV N (morA A x y) g (VV N (morA A x y) g) s l a = cdV N A g (VV N A g) s l a := by
      intro a ha h1 h2
      obtain ⟨o, w⟩ := cdV_nz.mp h1
      have hb2 := brP_s hb ha h1 h2
      have o2 : mayB N (morA A x y) s a = true := (mayB_mor hx).mpr ⟨o, fun e => by
        have := hG _ (e ▸ hb2)
        rw [tb_or2, decide_eq_false (show ¬ x = y from hxy), Bool.or_false] at this
        exact this⟩
      rw [cdV_p o2, cdV_p o, ih (s ||| 2 ^ a) a (remN_k h ha (mayB_nb o)) hb2 w]
    have low : ∀ a, a < N → (cdV N (morA A x y) g (VV N (morA A x y) g) s l a).2 ≠ 0 → (cdV N A g (VV N A g) s l a).2 ≠ 0 ∧ (cdV N (morA A x y) g (VV N (morA A x y) g) s l a).1 ≤ (cdV N A g (VV N A g) s l a).1 := by
      intro a ha q
      obtain ⟨q1, q2⟩ := cdV_nz.mp q
      have o := (mayB_mor hx).mp q1
      obtain ⟨i1, i2, i3⟩ := hm f (s ||| 2 ^ a) a (remN_k h ha (mayB_nb q1)) q2
      rw [cdV_p q1, cdV_p o.1]
      exact ⟨i1, by dsimp only; omega⟩
    rw [VV_s (A := A) hr] at best hne ⊢
    rw [VV_s (A := morA A x y) hr]
    rcases foV_m (cdV N A g (VV N A g) s l) N with ⟨g1, -, -⟩ | ⟨-, ⟨a, g2, g3, g4⟩, g5, g6⟩
    · exact absurd g1 hne
    have ba := best a g2 g3 g4
    rcases foV_m (cdV N (morA A x y) g (VV N (morA A x y) g) s l) N with ⟨k1, -, k3⟩ | ⟨k1, ⟨b, k2, k3, k4⟩, k5, k6⟩
    · have := k3 a g2
      rw [ba] at this
      exact absurd this g3
    have m1 := k5 a g2 (by rw [ba]; exact g3)
    rw [ba] at m1
    obtain ⟨n1, n2⟩ := low b k2 k3
    have m2 := g5 b k2 n1
    have e1 : (foV (cdV N (morA A x y) g (VV N (morA A x y) g) s l) N).1 = (foV (cdV N A g (VV N A g) s l) N).1 := by omega
    refine Prod.ext e1 ?_
    rw [k6, g6, e1]
    refine suN_eq N (fun c hc => ?_)
    unfold seV
    by_cases d : (cdV N A g (VV N A g) s l c).2 ≠ 0 ∧ (cdV N A g (VV N A g) s l c).1 = (foV (cdV N A g (VV N A g) s l) N).1
    · rw [best c hc d.1 d.2]
    · rw [if_neg d, if_neg (fun r => by
        obtain ⟨p1, p2⟩ := low c hc r.1
        have p3 := g5 c hc p1
        have p4 := r.2
        exact d ⟨p1, by omega⟩)]
/-- both ways of being sure -/
theorem sure_eq {N : Nat} {A : Nat → Nat → Bool} {g : Nat → Nat → Int} {x y : Nat} (hx : x < N) (hxy : x ≠ y) (hy : y ≠ 10) (h0 : (VV N A g 0 10).2 ≠ 0) : (∀ t, brP N A g t y → t.testBit x = true) ↔ ((VV N (morA A x y) g 0 10).2 ≠ 0 ∧ (VV N (morA A x y) g 0 10).1 = (VV N A g 0 10).1 ∧ (VV N (morA A x y) g 0 10).2 = (VV N A g 0 10).2) := by
  constructor
  · intro h
    have e := sure_yes hx hxy h _ 0 10 rfl (brP_0 N A g) h0
    rw [e]
    exact ⟨h0, rfl, rfl⟩
  · intro ⟨h1, h2, h3⟩ t ht
    cases q : t.testBit x with
    | true => rfl
    | false =>
      rcases sure_no hx h0 ht hy q with r | r | r
      · exact absurd r h1
      · omega
      · omega
