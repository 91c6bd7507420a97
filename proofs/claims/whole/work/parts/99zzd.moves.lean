/-! MOVES: the rest behind one that lies there from the start -/
def skF (i a : Nat) : Nat := if a < i then a else a + 1
theorem foV_skip {c : Nat → Int × Nat} {i : Nat} (hc : (c i).2 = 0) : ∀ d, foV c (i + d + 1) = foV (fun a => c (skF i a)) (i + d) := by
  intro d
  induction d with
  | zero =>
    rw [Nat.add_zero, foV_s]
    have e : joV (foV c i) (c i) = foV c i := if_pos hc
    rw [e]
    exact foV_cg i (fun a ha => by unfold skF; rw [if_pos ha])
  | succ d ih =>
    show joV (foV c (i + d + 1)) (c (i + d + 1)) = joV (foV (fun a => c (skF i a)) (i + d)) (c (skF i (i + d)))
    rw [ih]
    unfold skF
    rw [if_neg (show ¬ i + d < i by omega)]
def lesA (A : Nat → Nat → Bool) (i : Nat) : Nat → Nat → Bool := fun a b => A (skF i a) (skF i b)
def lesG (g : Nat → Nat → Int) (i : Nat) : Nat → Nat → Int := fun l a => if l = 10 then 0 else g (skF i l) (skF i a)
def relS (N i s' s : Nat) : Prop := s.testBit i = true ∧ ∀ b, b < N → s.testBit (skF i b) = s'.testBit b
theorem skF_inj {i a b : Nat} (h : skF i a = skF i b) : a = b := by
  unfold skF at h
  split at h <;> split at h <;> omega
theorem skF_ne (i a : Nat) : skF i a ≠ i := by
  unfold skF
  split <;> omega
theorem skF_lt {N i a : Nat} (ha : a < N) : skF i a < N + 1 := by
  unfold skF
  split <;> omega
theorem skF_on {N i b : Nat} (hi : i ≤ N) (hb : b < N + 1) (hne : b ≠ i) : ∃ a, a < N ∧ skF i a = b := by
  by_cases c : b < i
  · exact ⟨b, by omega, by unfold skF; rw [if_pos c]⟩
  · exact ⟨b - 1, by omega, by unfold skF; rw [if_neg (by omega)]; omega⟩
theorem cnBt_skip {f : Nat → Bool} {i : Nat} (hf : f i = false) : ∀ d, cnBt f (i + d + 1) = cnBt (fun a => f (skF i a)) (i + d) := by
  intro d
  induction d with
  | zero =>
    rw [Nat.add_zero, cnBt_n hf]
    exact cnBt_cg i (fun a ha => by unfold skF; rw [if_pos ha])
  | succ d ih =>
    show cnBt f (i + d + 1) + (if f (i + d + 1) = true then 1 else 0) = cnBt (fun a => f (skF i a)) (i + d) + (if f (skF i (i + d)) = true then 1 else 0)
    rw [ih, show skF i (i + d) = i + d + 1 from by unfold skF; rw [if_neg (by omega)]]
theorem relS_r {N i s' s : Nat} (hi : i ≤ N) (R : relS N i s' s) : remN (N + 1) s = remN N s' := by
  unfold remN
  have := cnBt_skip (f := fun a => !s.testBit a) (i := i) (by rw [R.1]; rfl) (N - i)
  rw [show i + (N - i) + 1 = N + 1 from by omega, show i + (N - i) = N from by omega] at this
  rw [this]
  exact cnBt_cg N (fun a ha => by rw [R.2 a ha])
theorem relS_o {N i s' s a : Nat} (ha : a < N) (R : relS N i s' s) : relS N i (s' ||| 2 ^ a) (s ||| 2 ^ (skF i a)) := by
  refine ⟨by rw [tb_or2, R.1, Bool.true_or], fun b hb => ?_⟩
  rw [tb_or2, tb_or2, R.2 b hb]
  congr 1
  rw [decide_eq_decide]
  exact ⟨fun q => skF_inj q, fun q => by rw [q]⟩
theorem relS_m {N i s' s a : Nat} {A : Nat → Nat → Bool} (hi : i ≤ N) (ha : a < N) (R : relS N i s' s) : mayB (N + 1) A s (skF i a) = mayB N (lesA A i) s' a := by
  rw [Bool.eq_iff_iff, mayB_iff, mayB_iff, R.2 a ha]
  refine ⟨fun ⟨h1, h2⟩ => ⟨h1, fun b hb hA => ?_⟩, fun ⟨h1, h2⟩ => ⟨h1, fun b hb hA => ?_⟩⟩
  · rw [← R.2 b hb]
    exact h2 _ (skF_lt hb) hA
  · by_cases e : b = i
    · rw [e]
      exact R.1
    · obtain ⟨c, hc, rfl⟩ := skF_on hi hb e
      rw [R.2 c hc]
      exact h2 c hc hA
theorem moves_v {N i : Nat} {A : Nat → Nat → Bool} {g : Nat → Nat → Int} (hi : i ≤ N) (hN : N < 10) (hg : ∀ a, g 10 a = 0) : ∀ f s' s l' l, remN N s' = f → relS N i s' s → ((l' = 10 ∧ l = 10) ∨ (l' < N ∧ l = skF i l')) → VV N (lesA A i) (lesG g i) s' l' = VV (N + 1) A g s l := by
  intro f
  induction f with
  | zero =>
    intro s' s l' l h R _
    rw [VV_0 h, VV_0 (by rw [relS_r hi R, h])]
  | succ f ih =>
    intro s' s l' l h R hl
    rw [VV_s (N := N) (by omega), VV_s (N := N + 1) (by rw [relS_r hi R]; omega)]
    have h0 : (cdV (N + 1) A g (VV (N + 1) A g) s l i).2 = 0 := by
      have : ¬ mayB (N + 1) A s i = true := fun q => by
        have := mayB_nb q
        rw [R.1] at this
        cases this
      rw [cdV_n this]
    have sk := foV_skip h0 (N - i)
    rw [show i + (N - i) + 1 = N + 1 from by omega, show i + (N - i) = N from by omega] at sk
    rw [sk]
    refine foV_cg N (fun a ha => ?_)
    have em := relS_m (A := A) hi ha R
    by_cases c : mayB N (lesA A i) s' a = true
    · rw [cdV_p c, cdV_p (by rw [em]; exact c), ih _ _ a (skF i a) (remN_k h ha (mayB_nb c)) (relS_o ha R) (Or.inr ⟨ha, rfl⟩)]
      have eg : lesG g i l' a = g l (skF i a) := by
        unfold lesG
        rcases hl with ⟨h1, h2⟩ | ⟨h1, h2⟩
        · rw [if_pos h1, h2, hg]
        · rw [if_neg (by omega), h2]
      rw [eg]
    · rw [cdV_n c, cdV_n (by rw [em]; exact c)]
theorem VV_any {N : Nat} {A : Nat → Nat → Bool} {g : Nat → Nat → Int} {s l l2 : Nat} (h : (VV N A g s l).2 ≠ 0) : (VV N A g s l2).2 ≠ 0 := by
  by_cases c : remN N s = 0
  · rw [VV_0 c]
    decide
  · rw [VV_s c] at h ⊢
    obtain ⟨a, ha, h1⟩ := foV_nz.mp h
    exact foV_nz.mpr ⟨a, ha, cdV_nz.mpr (cdV_nz.mp h1)⟩
theorem VV_skip {N i : Nat} {A : Nat → Nat → Bool} {g : Nat → Nat → Int} (hi : i < N) : ∀ f s l, remN N s = f → (VV N A g s l).2 ≠ 0 → s.testBit i = false → ∀ l2, (VV N A g (s ||| 2 ^ i) l2).2 ≠ 0 := by
  intro f
  induction f with
  | zero =>
    intro s l h _ hb l2
    have := remN_s hi hb
    omega
  | succ f ih =>
    intro s l h hne hb l2
    rw [VV_s (by omega)] at hne
    obtain ⟨a, ha, h1⟩ := foV_nz.mp hne
    obtain ⟨o, w⟩ := cdV_nz.mp h1
    by_cases e : a = i
    · subst e
      exact VV_any w
    · have nb := mayB_nb o
      have k := ih (s ||| 2 ^ a) a (remN_k h ha nb) w (by rw [tb_or2, hb, decide_eq_false (fun q => e q.symm)]; rfl) a
      have ec : s ||| 2 ^ a ||| 2 ^ i = s ||| 2 ^ i ||| 2 ^ a := by
        rw [Nat.or_assoc, Nat.or_comm (2 ^ a), ← Nat.or_assoc]
      rw [ec] at k
      have o2 : mayB N A (s ||| 2 ^ i) a = true := by
        rw [mayB_iff] at o ⊢
        refine ⟨by rw [tb_or2, o.1, decide_eq_false e]; rfl, fun b hb2 hA => by rw [tb_or2, o.2 b hb2 hA, Bool.true_or]⟩
      have hr : remN N (s ||| 2 ^ i) ≠ 0 := by
        have := remN_s ha (mayB_nb o2)
        omega
      rw [VV_s hr]
      exact foV_nz.mpr ⟨a, ha, cdV_nz.mpr ⟨o2, k⟩⟩
/-- what the rest without one comes to -/
theorem moves_eq {N i : Nat} {A : Nat → Nat → Bool} {g : Nat → Nat → Int} (hi : i ≤ N) (hN : N < 10) (hg : ∀ a, g 10 a = 0) (h0 : (VV (N + 1) A g 0 10).2 ≠ 0) : VV N (lesA A i) (lesG g i) 0 10 = VV (N + 1) A g (2 ^ i) 10 ∧ (VV (N + 1) A g (2 ^ i) 10).2 ≠ 0 := by
  have k := VV_skip (i := i) (by omega) _ 0 10 rfl h0 (Nat.zero_testBit i) 10
  rw [Nat.zero_or] at k
  refine ⟨moves_v hi hN hg _ 0 (2 ^ i) 10 10 rfl ⟨Nat.testBit_two_pow_self, fun b hb => ?_⟩ (Or.inl ⟨rfl, rfl⟩), k⟩
  rw [Nat.zero_testBit, Nat.testBit_two_pow_of_ne (fun q => skF_ne i b q.symm)]
