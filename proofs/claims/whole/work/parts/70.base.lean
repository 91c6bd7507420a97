/-! THE PURE GROUND: numbers as the machine keeps them, what a model says step by step, loops -/
theorem w32_id {z : Int} (h1 : -2147483648 ≤ z) (h2 : z < 2147483648) : w32 z = z := by
  unfold w32
  exact Int32.toInt_ofInt_of_le (by omega) (by omega)
theorem w64_id {z : Int} (h1 : -9223372036854775808 ≤ z) (h2 : z < 9223372036854775808) : w64 z = z := by
  unfold w64
  exact Int64.toInt_ofInt_of_le (by omega) (by omega)
theorem w32_ge (z : Int) : -2147483648 ≤ w32 z := by
  have := Int32.le_toInt (Int32.ofInt z)
  unfold w32
  omega
theorem w32_lt' (z : Int) : w32 z < 2147483648 := by
  have := Int32.toInt_lt (Int32.ofInt z)
  unfold w32
  omega
theorem w64_ge (z : Int) : -9223372036854775808 ≤ w64 z := by
  have := Int64.le_toInt (Int64.ofInt z)
  unfold w64
  omega
theorem w64_lt' (z : Int) : w64 z < 9223372036854775808 := by
  have := Int64.toInt_lt (Int64.ofInt z)
  unfold w64
  omega
theorem w32_w32 (z : Int) : w32 (w32 z) = w32 z := w32_id (w32_ge z) (w32_lt' z)
theorem w64_w64 (z : Int) : w64 (w64 z) = w64 z := w64_id (w64_ge z) (w64_lt' z)
theorem w64_w32 (z : Int) : w64 (w32 z) = w32 z := w64_id (by have := w32_ge z; omega) (by have := w32_lt' z; omega)
theorem w32_mod (z : Int) : (w32 z - z) % 4294967296 = 0 := by
  unfold w32
  rw [Int32.toInt_ofInt]
  simp only [Int32.size, Int.bmod]
  split <;> omega
theorem w32_1 : w32 1 = 1 := rfl
theorem w32_n1 : w32 (-1) = -1 := rfl
theorem q0 : (w32 0 = 0) = True := eq_true rfl
theorem q1 : (w32 1 = 0) = False := eq_false (by decide)
theorem qn0 : (w32 0 ≠ 0) = False := eq_false (fun q => q rfl)
theorem qn1 : (w32 1 ≠ 0) = True := eq_true (by decide)
theorem i10 : ((1 : Int) = 0) = False := eq_false (by decide)
theorem i00 : ((0 : Int) = 0) = True := eq_true rfl
theorem in10 : ((1 : Int) ≠ 0) = True := eq_true (by decide)
theorem in00 : ((0 : Int) ≠ 0) = False := eq_false (fun q => q rfl)
theorem cmp64_eq (x y : Int) : cmp64 x y = if w64 y < w64 x then 1 else if w64 x = w64 y then 0 else -1 := by
  unfold cmp64 lg_cmp w64
  simp only [gt_iff_lt, Int64.lt_iff_toInt_lt, ← Int64.toInt_inj]
  split
  · rfl
  · split <;> rfl
theorem OK_some {α : Type} {a : α} {P : α → Prop} : OK (some a) P = P a := rfl
theorem OK_none {α : Type} {P : α → Prop} : OK (none : Option α) P = False := rfl
theorem OK_bindE {α β : Type} {x : Option α} {f : α → Option β} {P : β → Prop} : OK (x.bind f) P = OK x (fun a => OK (f a) P) := by
  cases x <;> rfl
theorem OK_gd {α : Type} {c : Prop} {dc : Decidable c} {a b : Option α} {P : α → Prop} (hc : c) (hh : OK a P) : OK (ite c a b) P := by rwa [if_pos hc]
theorem OK_gn {α : Type} {c : Prop} {dc : Decidable c} {a b : Option α} {P : α → Prop} (hc : ¬ c) (hh : OK b P) : OK (ite c a b) P := by rwa [if_neg hc]
theorem OK_if {α : Type} {c : Prop} {dc : Decidable c} {a b : Option α} {P : α → Prop} (h1 : c → OK a P) (h2 : ¬ c → OK b P) : OK (ite c a b) P := by
  by_cases hc : c
  · exact OK_gd hc (h1 hc)
  · exact OK_gn hc (h2 hc)
theorem OK_ex {α : Type} {x : Option α} {P : α → Prop} (h : OK x P) : ∃ a, x = some a ∧ P a := by
  cases x with
  | none => exact False.elim h
  | some a => exact ⟨a, rfl, h⟩
theorem OK_of {α : Type} {x : Option α} {a : α} {P : α → Prop} (h : x = some a) (hp : P a) : OK x P := by
  rw [h]
  exact hp
theorem OK_and {α : Type} {x : Option α} {P Q : α → Prop} (h1 : OK x P) (h2 : OK x Q) : OK x (fun a => P a ∧ Q a) := by
  cases x with
  | none => exact False.elim h1
  | some a => exact ⟨h1, h2⟩
theorem inb_t {v : Int} {n : Nat} (h1 : 0 ≤ v) (h2 : v < n) (h3 : n < 2147483648) : inb v n := by
  unfold inb
  rw [w32_id (by omega) (by omega)]
  exact ⟨h1, h2⟩
theorem OK_gi {α : Type} {v : Int} {n : Nat} {dc : Decidable (inb v n)} {a b : Option α} {P : α → Prop} (h1 : 0 ≤ v) (h2 : v < n) (h3 : n < 2147483648) (hh : OK a P) : OK (@ite (Option α) (inb v n) dc a b) P := OK_gd (inb_t h1 h2 h3) hh
theorem if_inb {α : Type} {v : Int} {n : Nat} {dc : Decidable (inb v n)} {a b : α} (h1 : 0 ≤ v) (h2 : v < n) (h3 : n < 2147483648) : @ite α (inb v n) dc a b = a := if_pos (inb_t h1 h2 h3)
/-- what holds of a step's outcome: one thing if it goes on, another if it ends -/
def LQ {σ ρ : Type} (A : σ → Prop) (B : ρ → Prop) : σ ⊕ ρ → Prop
  | .inl s => A s
  | .inr r => B r
theorem LQ_l {σ ρ : Type} {A : σ → Prop} {B : ρ → Prop} {s : σ} : LQ A B (.inl s) = A s := rfl
theorem LQ_r {σ ρ : Type} {A : σ → Prop} {B : ρ → Prop} {r : ρ} : LQ A B (.inr r) = B r := rfl
theorem iter0_OK {σ ρ : Type} {f : σ → Option (σ ⊕ ρ)} (I : Nat → σ → Prop) (Q : ρ → Prop) (hs : ∀ n s, I n s → OK (f s) (LQ (fun s' => ∃ m, m < n ∧ I m s') Q)) : ∀ k n s, n < k → I n s → OK (iter0 f k s) Q := by
  intro k
  induction k with
  | zero => intro n s hn; omega
  | succ k ih =>
    intro n s hn hI
    unfold iter0
    rw [OK_bindE]
    refine OK_mono (hs n s hI) (fun r hr => ?_)
    cases r with
    | inl s' =>
      obtain ⟨m, hm, hI'⟩ := hr
      exact ih m s' (by omega) hI'
    | inr r => exact hr
theorem lt_FU {n : Nat} (h : n < 1000000) : n < FU := h
/-- a loop, by a number that falls -/
theorem iter_dn {σ ρ : Type} {f : σ → Option (σ ⊕ ρ)} (I : Nat → σ → Prop) (Q : ρ → Prop) (hs : ∀ n s, I n s → OK (f s) (LQ (fun s' => ∃ m, m < n ∧ I m s') Q)) {s : σ} (n : Nat) (hn : n < 1000000) (h0 : I n s) : OK (iter f FU s) Q := by
  rw [iter_eq]
  exact iter0_OK I Q hs FU n s (lt_FU hn) h0
/-- a loop, counted up to a bound -/
theorem iter_up {σ ρ : Type} {f : σ → Option (σ ⊕ ρ)} (I : Nat → σ → Prop) (Q : ρ → Prop) (N : Nat) (hN : N < 1000000) (hs : ∀ p s, p ≤ N → I p s → OK (f s) (LQ (fun s' => p < N ∧ I (p + 1) s') Q)) {s : σ} (h0 : I 0 s) : OK (iter f FU s) Q := by
  refine iter_dn (fun n s => n ≤ N ∧ I (N - n) s) Q (fun n s hI => ?_) N hN ⟨Nat.le_refl _, by rw [Nat.sub_self]; exact h0⟩
  obtain ⟨hn, hI⟩ := hI
  refine OK_mono (hs (N - n) s (by omega) hI) (fun r hr => ?_)
  cases r with
  | inl s' =>
    obtain ⟨h1, h2⟩ := hr
    exact ⟨n - 1, by omega, by omega, by rw [show N - (n - 1) = N - n + 1 by omega]; exact h2⟩
  | inr r => exact hr
/-- the heap after a write -/
theorem setH_at {h : Hp} {a j : Nat} {z : Int} {b i : Nat} : setH h a j z b i = if b = a ∧ i = j then z else h b i := rfl
theorem setH_o {h : Hp} {a j : Nat} {z : Int} {b : Nat} (hb : b ≠ a) : setH h a j z b = h b := setH_ne hb
theorem setH_s {h : Hp} {a j : Nat} {z : Int} : setH h a j z a j = z := if_pos ⟨rfl, rfl⟩
theorem setH_n {h : Hp} {a j i : Nat} {z : Int} (hi : i ≠ j) : setH h a j z a i = h a i := if_neg (fun q => hi q.2)
theorem setH_f {h : Hp} {a j : Nat} {z : Int} {b i : Nat} (hb : ¬ (b = a ∧ i = j)) : setH h a j z b i = h b i := if_neg hb
/-! the two rows of every class -/
theorem at_eq (a n : Nat) (v : Int) (h : Hp) (hn : n < 2147483648) : X11_at a n v h = some (if 0 ≤ w32 v ∧ w32 v < n then h a (w32 v).toNat else 0) := by
  unfold X11_at
  by_cases h1 : w32 v < 0
  · rw [if_pos h1, if_neg (by omega)]
  · rw [if_neg h1, w32_id (z := (n : Int)) (by omega) (by omega)]
    by_cases h2 : (n : Int) ≤ w32 v
    · rw [if_pos h2, if_neg (by omega)]
    · rw [if_neg h2, if_pos ⟨by omega, by omega⟩, if_pos ⟨by omega, by omega⟩]
theorem put_eq (a n : Nat) (v z : Int) (h : Hp) (hn : n < 2147483648) : X11_put a n v z h = some (if 0 ≤ w32 v ∧ w32 v < n then setH h a (w32 v).toNat z else h) := by
  unfold X11_put
  by_cases h1 : w32 v < 0
  · rw [if_pos h1, if_neg (by omega)]
  · rw [if_neg h1, w32_id (z := (n : Int)) (by omega) (by omega)]
    by_cases h2 : (n : Int) ≤ w32 v
    · rw [if_pos h2, if_neg (by omega)]
    · rw [if_neg h2, if_pos ⟨by omega, by omega⟩, if_pos ⟨by omega, by omega⟩]
theorem at_in {a n : Nat} {v : Int} {h : Hp} (h1 : 0 ≤ v) (h2 : v < n) (hn : n < 2147483648) : X11_at a n v h = some (h a v.toNat) := by
  rw [at_eq a n v h hn, w32_id (by omega) (by omega), if_pos ⟨h1, h2⟩]
theorem put_in {a n : Nat} {v z : Int} {h : Hp} (h1 : 0 ≤ v) (h2 : v < n) (hn : n < 2147483648) : X11_put a n v z h = some (setH h a v.toNat z) := by
  rw [put_eq a n v z h hn, w32_id (by omega) (by omega), if_pos ⟨h1, h2⟩]
theorem within_eq (a b c : Int) : X11_within a b c = some (if w32 b ≤ w32 a ∧ w32 a ≤ w32 c then 1 else 0) := by
  unfold X11_within
  by_cases h1 : w32 a < w32 b
  · rw [if_pos h1, if_neg (by omega)]
  · rw [if_neg h1]
    by_cases h2 : w32 c < w32 a
    · rw [if_pos h2, if_neg (by omega)]
    · rw [if_neg h2, if_pos ⟨by omega, by omega⟩]
theorem lies_eq (a b c : Int) : X12_lies a b c = some (if w64 b ≤ w64 a ∧ w64 a ≤ w64 c then 1 else 0) := by
  unfold X12_lies
  rw [cmp64_eq, cmp64_eq]
  by_cases h1 : w64 b < w64 a
  · rw [if_pos h1, if_neg (by decide)]
    by_cases h2 : w64 c < w64 a
    · rw [if_pos h2, if_pos (by decide), if_neg (by omega)]
    · rw [if_neg h2]
      by_cases h3 : w64 a = w64 c
      · rw [if_pos h3, if_neg (by decide), if_pos ⟨by omega, by omega⟩]
      · rw [if_neg h3, if_neg (by decide), if_pos ⟨by omega, by omega⟩]
  · rw [if_neg h1]
    by_cases h3 : w64 a = w64 b
    · rw [if_pos h3, if_neg (by decide)]
      by_cases h2 : w64 c < w64 a
      · rw [if_pos h2, if_pos (by decide), if_neg (by omega)]
      · rw [if_neg h2]
        by_cases h4 : w64 a = w64 c
        · rw [if_pos h4, if_neg (by decide), if_pos ⟨by omega, by omega⟩]
        · rw [if_neg h4, if_neg (by decide), if_pos ⟨by omega, by omega⟩]
    · rw [if_neg h3, if_pos (by decide), if_neg (by omega)]
theorem within_in {a b c : Int} (h1 : -2147483648 ≤ b) (h2 : c < 2147483648) (h3 : -2147483648 ≤ a) (h4 : a < 2147483648) (h5 : b < 2147483648) (h6 : -2147483648 ≤ c) : X11_within a b c = some (if b ≤ a ∧ a ≤ c then 1 else 0) := by
  rw [within_eq, w32_id h1 h5, w32_id h3 h4, w32_id h6 h2]
theorem lies_in {a b c : Int} (h1 : -9223372036854775808 ≤ a) (h2 : a < 9223372036854775808) (h3 : -9223372036854775808 ≤ b) (h4 : b < 9223372036854775808) (h5 : -9223372036854775808 ≤ c) (h6 : c < 9223372036854775808) : X12_lies a b c = some (if b ≤ a ∧ a ≤ c then 1 else 0) := by
  rw [lies_eq, w64_id h1 h2, w64_id h3 h4, w64_id h5 h6]
/-! two loops side by side -/
def LQ2 {σ ρ τ π : Type} (A : σ → τ → Prop) (B : ρ → π → Prop) : σ ⊕ ρ → τ ⊕ π → Prop
  | .inl s, .inl t => A s t
  | .inr r, .inr q => B r q
  | _, _ => False
theorem LQ2_l {σ ρ τ π : Type} {A : σ → τ → Prop} {B : ρ → π → Prop} {s : σ} {t : τ} : LQ2 A B (.inl s) (.inl t) = A s t := rfl
theorem LQ2_r {σ ρ τ π : Type} {A : σ → τ → Prop} {B : ρ → π → Prop} {r : ρ} {q : π} : LQ2 A B (.inr r) (.inr q) = B r q := rfl
theorem iter0_2 {σ ρ τ π : Type} {f : σ → Option (σ ⊕ ρ)} {g : τ → Option (τ ⊕ π)} (I : Nat → σ → τ → Prop) (Q : ρ → π → Prop) (hs : ∀ n s t, I n s t → OK (f s) (fun a => OK (g t) (fun b => LQ2 (fun s' t' => ∃ m, m < n ∧ I m s' t') Q a b))) : ∀ k n s t, n < k → I n s t → OK (iter0 f k s) (fun r => OK (iter0 g k t) (fun q => Q r q)) := by
  intro k
  induction k with
  | zero => intro n s t hn; omega
  | succ k ih =>
    intro n s t hn hI
    unfold iter0
    rw [OK_bindE]
    refine OK_mono (hs n s t hI) (fun a ha => ?_)
    obtain ⟨b, eb, hb⟩ := OK_ex ha
    rw [eb]
    cases a with
    | inl s' =>
      cases b with
      | inl t' =>
        obtain ⟨m, hm, hI'⟩ := hb
        exact ih m s' t' (by omega) hI'
      | inr q => exact False.elim hb
    | inr r =>
      cases b with
      | inl t' => exact False.elim hb
      | inr q => exact hb
theorem iter_2 {σ ρ τ π : Type} {f : σ → Option (σ ⊕ ρ)} {g : τ → Option (τ ⊕ π)} (I : Nat → σ → τ → Prop) (Q : ρ → π → Prop) (N : Nat) (hN : N < 1000000) (hs : ∀ p s t, p ≤ N → I p s t → OK (f s) (fun a => OK (g t) (fun b => LQ2 (fun s' t' => p < N ∧ I (p + 1) s' t') Q a b))) {s : σ} {t : τ} (h0 : I 0 s t) : OK (iter f FU s) (fun r => OK (iter g FU t) (fun q => Q r q)) := by
  rw [iter_eq, iter_eq]
  refine iter0_2 (fun n s t => n ≤ N ∧ I (N - n) s t) Q (fun n s t hI => ?_) FU N s t (lt_FU hN) ⟨Nat.le_refl _, by rw [Nat.sub_self]; exact h0⟩
  obtain ⟨hn, hI⟩ := hI
  refine OK_mono (hs (N - n) s t (by omega) hI) (fun a ha => OK_mono ha (fun b hb => ?_))
  cases a with
  | inl s' =>
    cases b with
    | inl t' =>
      obtain ⟨h1, h2⟩ := hb
      exact ⟨n - 1, by omega, by omega, by rw [show N - (n - 1) = N - n + 1 by omega]; exact h2⟩
    | inr q => exact False.elim hb
  | inr r =>
    cases b with
    | inl t' => exact False.elim hb
    | inr q => exact hb
/-- two things side by side: the one first, then the other -/
theorem OK2_bind {α β γ δ : Type} {x : Option α} {y : Option β} {f : α → Option γ} {g : β → Option δ} {P : γ → δ → Prop} (h : OK x (fun a => OK y (fun b => OK (f a) (fun c => OK (g b) (fun d => P c d))))) : OK (x.bind f) (fun c => OK (y.bind g) (fun d => P c d)) := by
  cases x with
  | none => exact False.elim h
  | some a =>
    cases y with
    | none => exact False.elim h
    | some b => exact h
theorem OK2_mono {α β : Type} {x : Option α} {y : Option β} {P Q : α → β → Prop} (h : OK x (fun a => OK y (fun b => P a b))) (hq : ∀ a b, P a b → Q a b) : OK x (fun a => OK y (fun b => Q a b)) := OK_mono h (fun a ha => OK_mono ha (fun b hb => hq a b hb))
theorem OK2_seq {α β γ δ : Type} {x : Option α} {y : Option β} {f : α → Option γ} {g : β → Option δ} {P : γ → δ → Prop} (h : OK x (fun a => OK y (fun b => OK (f a) (fun c => OK (g b) (fun d => P c d))))) : OK x (fun a => OK (f a) (fun c => OK y (fun b => OK (g b) (fun d => P c d)))) := by
  cases x with
  | none => exact False.elim h
  | some a =>
    cases y with
    | none => exact False.elim h
    | some b => exact h
