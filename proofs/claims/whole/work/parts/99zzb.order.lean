/-! THE ORDER: most points of the rest, and how many rows have them -/
def suN (f : Nat → Nat) : Nat → Nat
  | 0 => 0
  | n + 1 => suN f n + f n
theorem suN_s (f : Nat → Nat) (n : Nat) : suN f (n + 1) = suN f n + f n := rfl
theorem suN_z {f : Nat → Nat} : ∀ n, (∀ a, a < n → f a = 0) → suN f n = 0 := by
  intro n
  induction n with
  | zero => intro _; rfl
  | succ n ih =>
    intro h
    rw [suN_s, ih (fun a ha => h a (by omega)), h n (by omega)]
theorem suN_le {f g : Nat → Nat} : ∀ n, (∀ a, a < n → f a ≤ g a) → suN f n ≤ suN g n := by
  intro n
  induction n with
  | zero => intro _; exact Nat.le_refl _
  | succ n ih =>
    intro h
    have := ih (fun a ha => h a (by omega))
    have := h n (by omega)
    rw [suN_s, suN_s]
    omega
theorem suN_eq {f g : Nat → Nat} (n : Nat) (h : ∀ a, a < n → f a = g a) : suN f n = suN g n := Nat.le_antisymm (suN_le n (fun a ha => Nat.le_of_eq (h a ha))) (suN_le n (fun a ha => Nat.le_of_eq (h a ha).symm))
theorem suN_lt {f g : Nat → Nat} : ∀ n, (∀ a, a < n → f a ≤ g a) → (∃ a, a < n ∧ f a < g a) → suN f n < suN g n := by
  intro n
  induction n with
  | zero => intro _ ⟨a, ha, _⟩; omega
  | succ n ih =>
    intro h ⟨a, ha, hl⟩
    rw [suN_s, suN_s]
    by_cases e : a = n
    · subst e
      have := suN_le a (fun b hb => h b (by omega))
      omega
    · have := ih (fun b hb => h b (by omega)) ⟨a, by omega, hl⟩
      have := h n (by omega)
      omega
theorem suN_cn {p : Nat → Bool} {B : Nat} : ∀ n, suN (fun a => if p a = true then B else 0) n = cnBt p n * B := by
  intro n
  induction n with
  | zero => exact (Nat.zero_mul _).symm
  | succ n ih =>
    rw [suN_s, ih]
    cases h : p n with
    | true => rw [cnBt_t h, Nat.succ_mul, if_pos rfl]
    | false => rw [cnBt_n h, if_neg (by decide), Nat.add_zero]
def joV (R C : Int × Nat) : Int × Nat := if C.2 = 0 then R else if R.2 = 0 ∨ R.1 < C.1 then C else if C.1 = R.1 then (R.1, R.2 + C.2) else R
def foV (c : Nat → Int × Nat) : Nat → Int × Nat
  | 0 => (0, 0)
  | a + 1 => joV (foV c a) (c a)
theorem foV_s (c : Nat → Int × Nat) (a : Nat) : foV c (a + 1) = joV (foV c a) (c a) := rfl
def seV (c : Nat → Int × Nat) (v : Int) (a : Nat) : Nat := if (c a).2 ≠ 0 ∧ (c a).1 = v then (c a).2 else 0
theorem foV_m (c : Nat → Int × Nat) : ∀ n, ((foV c n).2 = 0 ∧ (foV c n).1 = 0 ∧ ∀ a, a < n → (c a).2 = 0) ∨ ((foV c n).2 ≠ 0 ∧ (∃ a, a < n ∧ (c a).2 ≠ 0 ∧ (c a).1 = (foV c n).1) ∧ (∀ a, a < n → (c a).2 ≠ 0 → (c a).1 ≤ (foV c n).1) ∧ (foV c n).2 = suN (seV c (foV c n).1) n) := by
  intro n
  induction n with
  | zero => exact Or.inl ⟨rfl, rfl, fun a ha => by omega⟩
  | succ n ih =>
    rw [foV_s]
    unfold joV
    by_cases h0 : (c n).2 = 0
    · rw [if_pos h0]
      rcases ih with ⟨h1, h2, h3⟩ | ⟨h1, ⟨a, h2, h3, h4⟩, h5, h6⟩
      · left
        refine ⟨h1, h2, fun a ha => ?_⟩
        by_cases e : a = n
        · rw [e]
          exact h0
        · exact h3 a (by omega)
      · right
        refine ⟨h1, ⟨a, by omega, h3, h4⟩, fun b hb hne => ?_, ?_⟩
        · by_cases e : b = n
          · rw [e] at hne
            exact absurd h0 hne
          · exact h5 b (by omega) hne
        · rw [suN_s, show seV c (foV c n).1 n = 0 from if_neg (fun q => q.1 h0), Nat.add_zero]
          exact h6
    · rw [if_neg h0]
      right
      rcases ih with ⟨h1, h2, h3⟩ | ⟨h1, ⟨a, h2, h3, h4⟩, h5, h6⟩
      · rw [if_pos (Or.inl h1)]
        refine ⟨h0, ⟨n, by omega, h0, rfl⟩, fun b hb hne => ?_, ?_⟩
        · by_cases e : b = n
          · rw [e]
            exact Int.le_refl _
          · exact absurd (h3 b (by omega)) hne
        · rw [suN_s, suN_z (f := seV c (c n).1) n (fun b hb => if_neg (fun q => q.1 (h3 b hb))), show seV c (c n).1 n = (c n).2 from if_pos ⟨h0, rfl⟩, Nat.zero_add]
      · by_cases g1 : (foV c n).1 < (c n).1
        · rw [if_pos (Or.inr g1)]
          refine ⟨h0, ⟨n, by omega, h0, rfl⟩, fun b hb hne => ?_, ?_⟩
          · by_cases e : b = n
            · rw [e]
              exact Int.le_refl _
            · have := h5 b (by omega) hne
              omega
          · rw [suN_s, suN_z (f := seV c (c n).1) n (fun b hb => if_neg (fun q => by have := h5 b hb q.1; have := q.2; omega)), show seV c (c n).1 n = (c n).2 from if_pos ⟨h0, rfl⟩, Nat.zero_add]
        · rw [if_neg (fun q => by rcases q with q | q; exact h1 q; exact g1 q)]
          by_cases g2 : (c n).1 = (foV c n).1
          · rw [if_pos g2]
            refine ⟨by dsimp only; omega, ⟨a, by omega, h3, h4⟩, fun b hb hne => ?_, ?_⟩
            · by_cases e : b = n
              · rw [e]
                exact Int.le_of_eq g2
              · exact h5 b (by omega) hne
            · dsimp only
              rw [suN_s, show seV c (foV c n).1 n = (c n).2 from if_pos ⟨h0, g2⟩, ← h6]
          · rw [if_neg g2]
            refine ⟨h1, ⟨a, by omega, h3, h4⟩, fun b hb hne => ?_, ?_⟩
            · by_cases e : b = n
              · rw [e]
                omega
              · exact h5 b (by omega) hne
            · rw [suN_s, show seV c (foV c n).1 n = 0 from if_neg (fun q => g2 q.2), Nat.add_zero]
              exact h6
theorem foV_cg {c d : Nat → Int × Nat} : ∀ n, (∀ a, a < n → c a = d a) → foV c n = foV d n := by
  intro n
  induction n with
  | zero => intro _; rfl
  | succ n ih =>
    intro h
    rw [foV_s, foV_s, ih (fun a ha => h a (by omega)), h n (by omega)]
theorem foV_nz {c : Nat → Int × Nat} {n : Nat} : (foV c n).2 ≠ 0 ↔ ∃ a, a < n ∧ (c a).2 ≠ 0 := by
  rcases foV_m c n with ⟨h1, -, h3⟩ | ⟨h1, ⟨a, h2, h3, -⟩, -, -⟩
  · exact ⟨fun q => absurd h1 q, fun ⟨a, ha, hne⟩ => absurd (h3 a ha) hne⟩
  · exact ⟨fun _ => ⟨a, h2, h3⟩, fun _ => h1⟩
/-- may a come next behind s -/
def mayB (N : Nat) (A : Nat → Nat → Bool) (s a : Nat) : Bool := !s.testBit a && decide (cnBt (fun b => A a b && !s.testBit b) N = 0)
def remN (N s : Nat) : Nat := cnBt (fun a => !s.testBit a) N
theorem tb_or2 (s a i : Nat) : (s ||| 2 ^ a).testBit i = (s.testBit i || decide (i = a)) := by
  rw [Nat.testBit_or, Nat.testBit_two_pow]
  congr 1
  rw [decide_eq_decide]
  exact ⟨fun q => q.symm, fun q => q.symm⟩
theorem cnBt_one {f g : Nat → Bool} {a : Nat} : ∀ n, a < n → f a = true → g a = false → (∀ i, i ≠ a → f i = g i) → cnBt f n = cnBt g n + 1 := by
  intro n
  induction n with
  | zero => intro h; omega
  | succ n ih =>
    intro h hf hg he
    by_cases e : a = n
    · subst e
      rw [cnBt_t hf, cnBt_n hg, cnBt_cg a (fun i hi => he i (by omega))]
    · have := ih (by omega) hf hg he
      have q := he n (fun r => e r.symm)
      cases hfn : f n with
      | true => rw [cnBt_t hfn, cnBt_t (q ▸ hfn), this]
      | false => rw [cnBt_n hfn, cnBt_n (q ▸ hfn), this]
theorem remN_s {N s a : Nat} (ha : a < N) (h : s.testBit a = false) : remN N s = remN N (s ||| 2 ^ a) + 1 := by
  unfold remN
  refine cnBt_one N ha (by rw [h]; rfl) (by rw [tb_or2, decide_eq_true rfl, Bool.or_true]; rfl) (fun i hi => ?_)
  rw [tb_or2, decide_eq_false hi, Bool.or_false]
theorem mayB_nb {N : Nat} {A : Nat → Nat → Bool} {s a : Nat} (h : mayB N A s a = true) : s.testBit a = false := by
  unfold mayB at h
  rw [Bool.and_eq_true, Bool.not_eq_true'] at h
  exact h.1
theorem cnBt_0 {f : Nat → Bool} {n : Nat} : cnBt f n = 0 ↔ ∀ i, i < n → f i = false := by
  refine ⟨cnBt_z n, fun h => ?_⟩
  have := cnBt_ext (f := f) (n := 0) n (fun i _ h2 => h i (by omega))
  rw [Nat.zero_add] at this
  rw [this]
  rfl
theorem mayB_iff {N : Nat} {A : Nat → Nat → Bool} {s a : Nat} : mayB N A s a = true ↔ s.testBit a = false ∧ ∀ b, b < N → A a b = true → s.testBit b = true := by
  unfold mayB
  rw [Bool.and_eq_true, Bool.not_eq_true', decide_eq_true_iff, cnBt_0]
  refine ⟨fun h => ⟨h.1, fun b hb hA => ?_⟩, fun h => ⟨h.1, fun b hb => ?_⟩⟩
  · have := h.2 b hb
    rw [hA, Bool.true_and, Bool.not_eq_false'] at this
    exact this
  · cases hA : A a b with
    | false => rfl
    | true => rw [h.2 b hb hA]; rfl
def cdV (N : Nat) (A : Nat → Nat → Bool) (g : Nat → Nat → Int) (W : Nat → Nat → Int × Nat) (s l a : Nat) : Int × Nat := if mayB N A s a = true then ((W (s ||| 2 ^ a) a).1 + g l a, (W (s ||| 2 ^ a) a).2) else (0, 0)
def Vf (N : Nat) (A : Nat → Nat → Bool) (g : Nat → Nat → Int) : Nat → Nat → Nat → Int × Nat
  | 0 => fun _ _ => (0, 1)
  | f + 1 => fun s l => foV (cdV N A g (Vf N A g f) s l) N
def VV (N : Nat) (A : Nat → Nat → Bool) (g : Nat → Nat → Int) (s l : Nat) : Int × Nat := Vf N A g (remN N s) s l
theorem VV_0 {N : Nat} {A : Nat → Nat → Bool} {g : Nat → Nat → Int} {s l : Nat} (h : remN N s = 0) : VV N A g s l = (0, 1) := by
  unfold VV
  rw [h]
  rfl
theorem VV_s {N : Nat} {A : Nat → Nat → Bool} {g : Nat → Nat → Int} {s l : Nat} (h : remN N s ≠ 0) : VV N A g s l = foV (cdV N A g (VV N A g) s l) N := by
  obtain ⟨f, hf⟩ : ∃ f, remN N s = f + 1 := ⟨remN N s - 1, by omega⟩
  unfold VV
  rw [hf]
  show foV (cdV N A g (Vf N A g f) s l) N = _
  refine foV_cg N (fun a ha => ?_)
  unfold cdV
  by_cases c : mayB N A s a = true
  · have e : remN N (s ||| 2 ^ a) = f := by
      have := remN_s ha (mayB_nb c)
      omega
    rw [if_pos c, if_pos c]
    dsimp only
    rw [e]
  · rw [if_neg c, if_neg c]
theorem cdV_p {N : Nat} {A : Nat → Nat → Bool} {g : Nat → Nat → Int} {W : Nat → Nat → Int × Nat} {s l a : Nat} (h : mayB N A s a = true) : cdV N A g W s l a = ((W (s ||| 2 ^ a) a).1 + g l a, (W (s ||| 2 ^ a) a).2) := if_pos h
theorem cdV_n {N : Nat} {A : Nat → Nat → Bool} {g : Nat → Nat → Int} {W : Nat → Nat → Int × Nat} {s l a : Nat} (h : ¬ mayB N A s a = true) : cdV N A g W s l a = (0, 0) := if_neg h
theorem cdV_nz {N : Nat} {A : Nat → Nat → Bool} {g : Nat → Nat → Int} {W : Nat → Nat → Int × Nat} {s l a : Nat} : (cdV N A g W s l a).2 ≠ 0 ↔ mayB N A s a = true ∧ (W (s ||| 2 ^ a) a).2 ≠ 0 := by
  by_cases c : mayB N A s a = true
  · rw [cdV_p c]
    exact ⟨fun h => ⟨c, h⟩, fun h => h.2⟩
  · rw [cdV_n c]
    exact ⟨fun h => absurd rfl h, fun h => absurd h.1 c⟩
/-- bounds of what is reckoned -/
theorem VV_b {N : Nat} {A : Nat → Nat → Bool} {g : Nat → Nat → Int} (hg : ∀ l a, -1000 ≤ g l a ∧ g l a ≤ 1000) : ∀ f s l, remN N s = f → (VV N A g s l).2 ≤ fcl f ∧ -1000 * (f : Int) ≤ (VV N A g s l).1 ∧ (VV N A g s l).1 ≤ 1000 * (f : Int) := by
  intro f
  induction f with
  | zero =>
    intro s l h
    rw [VV_0 h]
    exact ⟨Nat.le_refl _, Int.le_refl _, Int.le_refl _⟩
  | succ f ih =>
    intro s l h
    rw [VV_s (by omega)]
    have hc : ∀ a, a < N → (cdV N A g (VV N A g) s l a).2 ≤ (if (!s.testBit a) = true then fcl f else 0) ∧ (-1000 * ((f + 1 : Nat) : Int) ≤ (cdV N A g (VV N A g) s l a).1 ∧ (cdV N A g (VV N A g) s l a).1 ≤ 1000 * ((f + 1 : Nat) : Int)) := by
      intro a ha
      by_cases c : mayB N A s a = true
      · have nb := mayB_nb c
        have e := remN_s ha nb
        have i := ih (s ||| 2 ^ a) a (by omega)
        have b := hg l a
        rw [cdV_p c, nb]
        refine ⟨i.1, ?_, ?_⟩
        · dsimp only
          omega
        · dsimp only
          omega
      · rw [cdV_n c]
        exact ⟨Nat.zero_le _, by dsimp only; omega, by dsimp only; omega⟩
    rcases foV_m (cdV N A g (VV N A g) s l) N with ⟨h1, h2, -⟩ | ⟨h1, ⟨a, h2, h3, h4⟩, h5, h6⟩
    · rw [h1, h2]
      exact ⟨Nat.zero_le _, by omega, by omega⟩
    · refine ⟨?_, ?_, ?_⟩
      · rw [h6]
        have q : suN (seV (cdV N A g (VV N A g) s l) (foV (cdV N A g (VV N A g) s l) N).1) N ≤ suN (fun a => if (!s.testBit a) = true then fcl f else 0) N := suN_le N (fun a ha => by
          have := (hc a ha).1
          unfold seV
          split
          · exact this
          · exact Nat.zero_le _)
        rw [suN_cn] at q
        have e : cnBt (fun a => !s.testBit a) N = f + 1 := h
        rw [e, ← fcl_s] at q
        exact q
      · rw [← h4]
        exact (hc a h2).2.1
      · rw [← h4]
        exact (hc a h2).2.2
