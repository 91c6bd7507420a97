/-! WHO HANGS TOGETHER -/
theorem cnBt_lt {f g : Nat → Bool} : ∀ n, (∀ i, i < n → f i = true → g i = true) → (∃ i, i < n ∧ g i = true ∧ f i = false) → cnBt f n + 1 ≤ cnBt g n := by
  intro n
  induction n with
  | zero => intro _ ⟨i, hi, _⟩; omega
  | succ n ih =>
    intro h ⟨i, hi, h1, h2⟩
    by_cases e : i = n
    · subst e
      have := cnBt_imp i (fun j hj => h j (by omega))
      rw [cnBt_n h2, cnBt_t h1]
      omega
    · have := ih (fun j hj => h j (by omega)) ⟨i, by omega, h1, h2⟩
      cases hf : f n with
      | false =>
        rw [cnBt_n hf]
        show cnBt f n + 1 ≤ cnBt g n + (if g n = true then 1 else 0)
        omega
      | true =>
        rw [cnBt_t hf, cnBt_t (h n (by omega) hf)]
        omega
def clsD (T : Nat → Nat → Bool) (nw : Nat) (S : Nat → Bool) : Prop := ∀ a b, a < nw → S a = true → T a b = true → S b = true
def inN (T : Nat → Nat → Bool) (S : Nat → Bool) : Nat → Nat → Bool
  | 0 => S
  | p + 1 => if inN T S p p = true then (fun i => inN T S p i || T p i) else inN T S p
theorem inN_s (T : Nat → Nat → Bool) (S : Nat → Bool) (p : Nat) : inN T S (p + 1) = if inN T S p p = true then (fun i => inN T S p i || T p i) else inN T S p := rfl
theorem inN_up {T : Nat → Nat → Bool} {S : Nat → Bool} {p i : Nat} (h : inN T S p i = true) : inN T S (p + 1) i = true := by
  rw [inN_s]
  split
  · dsimp only
    rw [h]
    rfl
  · exact h
theorem inN_le {T : Nat → Nat → Bool} {S : Nat → Bool} {p i : Nat} (h : inN T S p i = true) : ∀ d, inN T S (p + d) i = true := by
  intro d
  induction d with
  | zero => exact h
  | succ d ih => exact inN_up ih
theorem inN_ge {T : Nat → Nat → Bool} {S : Nat → Bool} {i : Nat} (h : S i = true) (p : Nat) : inN T S p i = true := by
  have := inN_le (T := T) (S := S) (p := 0) (i := i) h p
  rw [Nat.zero_add] at this
  exact this
theorem inN_sub {T : Nat → Nat → Bool} {S C : Nat → Bool} {nw : Nat} (hC : clsD T nw C) (hS : ∀ i, S i = true → C i = true) : ∀ p, p ≤ nw → ∀ i, inN T S p i = true → C i = true := by
  intro p
  induction p with
  | zero => intro _ i h; exact hS i h
  | succ p ih =>
    intro hp i h
    rw [inN_s] at h
    split at h
    · rename_i c
      dsimp only at h
      rw [Bool.or_eq_true] at h
      rcases h with h | h
      · exact ih (by omega) i h
      · exact hC p i (by omega) (ih (by omega) p c) h
    · exact ih (by omega) i h
theorem inN_cl {T : Nat → Nat → Bool} {S : Nat → Bool} {nw : Nat} (h : ∀ i, inN T S nw i = true → S i = true) : clsD T nw S := by
  intro a b ha hs ht
  refine h b ?_
  have e : inN T S (a + 1) b = true := by
    rw [inN_s, if_pos (inN_ge hs a), ht, Bool.or_true]
  have := inN_le e (nw - (a + 1))
  rw [show a + 1 + (nw - (a + 1)) = nw from by omega] at this
  exact this
def tuN (T : Nat → Nat → Bool) (nw : Nat) (S : Nat → Bool) : Nat → Nat → Bool
  | 0 => S
  | t + 1 => inN T (tuN T nw S t) nw
theorem tuN_s (T : Nat → Nat → Bool) (nw : Nat) (S : Nat → Bool) (t : Nat) : tuN T nw S (t + 1) = inN T (tuN T nw S t) nw := rfl
theorem tuN_sub {T : Nat → Nat → Bool} {S C : Nat → Bool} {nw : Nat} (hC : clsD T nw C) (hS : ∀ i, S i = true → C i = true) : ∀ t i, tuN T nw S t i = true → C i = true := by
  intro t
  induction t with
  | zero => exact hS
  | succ t ih =>
    intro i h
    exact inN_sub hC ih nw (Nat.le_refl _) i h
theorem tuN_ge {T : Nat → Nat → Bool} {S : Nat → Bool} {nw i : Nat} (h : S i = true) : ∀ t, tuN T nw S t i = true := by
  intro t
  induction t with
  | zero => exact h
  | succ t ih => exact inN_ge ih nw
/-- so many turns are enough -/
theorem tuN_cl {T : Nat → Nat → Bool} {nw w : Nat} (hw : w < nw) (hT : ∀ a b, a < nw → T a b = true → b < nw) : clsD T nw (tuN T nw (fun i => decide (i = w)) nw) := by
  have all : clsD T nw (fun i => decide (i < nw)) := fun a b ha _ ht => by
    rw [decide_eq_true_iff]
    exact hT a b ha ht
  have key : ∀ t, clsD T nw (tuN T nw (fun i => decide (i = w)) t) ∨ t + 1 ≤ cnBt (tuN T nw (fun i => decide (i = w)) t) nw := by
    intro t
    induction t with
    | zero =>
      right
      by_cases c : cnBt (tuN T nw (fun i => decide (i = w)) 0) nw = 0
      · have := cnBt_z nw c w hw
        change decide (w = w) = false at this
        rw [decide_eq_true rfl] at this
        cases this
      · omega
    | succ t ih =>
      rcases ih with ih | ih
      · left
        have e : tuN T nw (fun i => decide (i = w)) (t + 1) = tuN T nw (fun i => decide (i = w)) t := by
          funext i
          rw [Bool.eq_iff_iff]
          exact ⟨fun h => inN_sub ih (fun _ q => q) nw (Nat.le_refl _) i h, fun h => inN_ge h nw⟩
        rw [e]
        exact ih
      · by_cases c : clsD T nw (tuN T nw (fun i => decide (i = w)) (t + 1))
        · exact Or.inl c
        · right
          have c2 : ¬ clsD T nw (tuN T nw (fun i => decide (i = w)) t) := fun q => c (by
            have e : tuN T nw (fun i => decide (i = w)) (t + 1) = tuN T nw (fun i => decide (i = w)) t := by
              funext i
              rw [Bool.eq_iff_iff]
              exact ⟨fun h => inN_sub q (fun _ r => r) nw (Nat.le_refl _) i h, fun h => inN_ge h nw⟩
            rw [e]
            exact q)
          have ex : ∃ i, i < nw ∧ tuN T nw (fun i => decide (i = w)) (t + 1) i = true ∧ tuN T nw (fun i => decide (i = w)) t i = false := by
            refine Classical.byContradiction (fun q => c2 (inN_cl (fun i hi => ?_)))
            cases r : tuN T nw (fun i => decide (i = w)) t i with
            | true => rfl
            | false =>
              have hi2 := tuN_sub all (fun j hj => by rw [decide_eq_true_iff] at hj ⊢; omega) (t + 1) i hi
              rw [decide_eq_true_iff] at hi2
              exact absurd ⟨i, hi2, hi, r⟩ q
          have := cnBt_lt nw (f := tuN T nw (fun i => decide (i = w)) t) (g := tuN T nw (fun i => decide (i = w)) (t + 1)) (fun i _ h => inN_ge h nw) ex
          omega
  rcases key nw with h | h
  · exact h
  · have := cnBt_le (tuN T nw (fun i => decide (i = w)) nw) nw
    omega
/-- whether two hang together in some of the first works -/
def tyF (m : Hp) (n t x y : Nat) : Nat → Bool
  | 0 => false
  | k + 1 => tyF m n t x y k || (decide (1 ≤ m 156 k) && tkB (fun p => m 157 (40 * k + p)) (hwF m k x n) (hwF m k y n) t)
theorem tyF_s (m : Hp) (n t x y k : Nat) : tyF m n t x y (k + 1) = (tyF m n t x y k || (decide (1 ≤ m 156 k) && tkB (fun p => m 157 (40 * k + p)) (hwF m k x n) (hwF m k y n) t)) := rfl
theorem tyF_sym (m : Hp) (n t x y : Nat) : ∀ k, tyF m n t x y k = tyF m n t y x k := by
  intro k
  induction k with
  | zero => rfl
  | succ k ih => rw [tyF_s, tyF_s, ih, tkB_sym]
theorem tyF_le {m : Hp} {n t x y k : Nat} (h : tyF m n t x y k = true) : ∀ d, tyF m n t x y (k + d) = true := by
  intro d
  induction d with
  | zero => exact h
  | succ d ih => rw [← Nat.add_assoc, tyF_s, ih, Bool.true_or]
theorem cmp_gt (x y : Int) : (0 < w32 (cmp64 x y)) ↔ w64 y < w64 x := by
  rw [cmp64_eq]
  by_cases h : w64 y < w64 x
  · rw [if_pos h]
    exact ⟨fun _ => h, fun _ => by decide⟩
  · rw [if_neg h]
    by_cases g : w64 x = w64 y
    · rw [if_pos g]
      exact ⟨fun q => absurd q (by decide), fun q => absurd q h⟩
    · rw [if_neg g]
      exact ⟨fun q => absurd q (by decide), fun q => absurd q h⟩
theorem frac_ge {A B t : Nat} (hB : 1 ≤ B) : (A / Nat.gcd A B * 1000 ≤ t * (B / Nat.gcd A B)) ↔ (A * 1000 ≤ t * B) := by
  have gp : 0 < Nat.gcd A B := Nat.gcd_pos_of_pos_right A hB
  have eA : Nat.gcd A B * (A / Nat.gcd A B) = A := Nat.mul_div_cancel' (Nat.gcd_dvd_left A B)
  have eB : Nat.gcd A B * (B / Nat.gcd A B) = B := Nat.mul_div_cancel' (Nat.gcd_dvd_right A B)
  generalize A / Nat.gcd A B = a at eA ⊢
  generalize B / Nat.gcd A B = b at eB ⊢
  generalize Nat.gcd A B = g at gp eA eB
  subst eA eB
  rw [Nat.mul_left_comm, Nat.mul_assoc g a 1000]
  exact ⟨fun q => Nat.mul_le_mul_left g q, fun q => Nat.le_of_mul_le_mul_left q gp⟩
theorem notAbove_s {t a b : Nat} {h : Hp} (ht : t ≤ 1000) (ha : a ≤ 50000000000000) (hb : b ≤ 137846528820) (e0 : h 52 0 = (a : Int)) (e1 : h 52 1 = (b : Int)) : X4_notAbove (t : Int) h = some (if a * 1000 ≤ t * b then 1 else 0) := by
  unfold X4_notAbove
  have l : t * b ≤ 1000 * 137846528820 := Nat.mul_le_mul ht hb
  rw [e0, e1, w32_id (z := (t : Int)) (by omega) (by omega), ← Int.natCast_mul]
  have c := cmp_gt ((a : Int) * 1000) ((t * b : Nat) : Int)
  rw [w64_id (z := (a : Int) * 1000) (by omega) (by omega), w64_id (z := ((t * b : Nat) : Int)) (by omega) (by omega)] at c
  by_cases d : a * 1000 ≤ t * b
  · rw [if_neg (fun q => by have := c.mp q; omega), if_pos d]
  · rw [if_pos (c.mpr (by omega)), if_neg d]
theorem hadMid_s {x m : Hp} (R : RS x m) (C : RC x m) {a b n t nk : Nat} (hn : m 150 5 = (n : Int)) (ha : a < 1000) (hb : b < 1000) (ht : t ≤ 1000) (hnk : m 150 3 = (nk : Int)) : OK (X2_hadMiddle (a : Int) (b : Int) (t : Int) x) (fun z => z.1 = (if tyF m n t a b nk = true then 1 else 0) ∧ RC z.2 m ∧ ∀ e j, ¬ cXK e → z.2 e j = x e j) := by
  obtain ⟨-, S⟩ := id R
  obtain ⟨⟨-, b3, b4, b5⟩, -⟩ := id S
  unfold X2_hadMiddle
  rw [OK_bindE]
  refine OK_mono (iter_up (fun k s => k ≤ nk ∧ tyF m n t a b k = false ∧ ∃ h : Hp, s = ((k : Int), h) ∧ RC h m ∧ ∀ e j, ¬ cXK e → h e j = x e j) (LQ (fun (h : Hp) => tyF m n t a b nk = true ∧ RC h m ∧ ∀ e j, ¬ cXK e → h e j = x e j) (fun (h : Hp) => tyF m n t a b nk = false ∧ RC h m ∧ ∀ e j, ¬ cXK e → h e j = x e j)) nk (by omega) (fun k s hk hI => ?_) ⟨Nat.zero_le _, rfl, x, rfl, C, fun _ _ _ => rfl⟩) (fun r hr => ?_)
  · obtain ⟨-, hty, h, rfl, hC, hf⟩ := hI
    have Rh : RS h m := RS_cK hf R
    obtain ⟨⟨⟨-, i33, -, -⟩, -⟩, -⟩ := id Rh
    unfold X2_hadMiddle_l2 X2_hadMiddle_j27 X7_works
    dsimp only
    rw [OK_bindE, OK_some]
    simp only [i33, hnk, w32_id (z := (nk : Int)) (by omega) (by omega), w32_id (z := (k : Int)) (by omega) (by omega)]
    refine OK_if (fun c => ?_) (fun c => ?_)
    · rw [OK_some, LQ_r, LQ_r]
      have : k = nk := by omega
      subst this
      exact ⟨hty, hC, hf⟩
    · have hk8 : k < 8 := by omega
      have skip : ∀ g : Hp, (decide (1 ≤ m 156 k) && tkB (fun p => m 157 (40 * k + p)) (hwF m k a n) (hwF m k b n) t) = false → RC g m → (∀ e j, ¬ cXK e → g e j = x e j) → LQ (fun (s' : Int × Hp) => k < nk ∧ (k + 1 ≤ nk ∧ tyF m n t a b (k + 1) = false ∧ ∃ h : Hp, s' = (((k + 1 : Nat) : Int), h) ∧ RC h m ∧ ∀ e j, ¬ cXK e → h e j = x e j)) (LQ (fun (h : Hp) => tyF m n t a b nk = true ∧ RC h m ∧ ∀ e j, ¬ cXK e → h e j = x e j) (fun (h : Hp) => tyF m n t a b nk = false ∧ RC h m ∧ ∀ e j, ¬ cXK e → h e j = x e j)) (Sum.inl ((k : Int) + 1, g)) := by
        intro g hq gC gf
        rw [LQ_l]
        exact ⟨by omega, by omega, by rw [tyF_s, hty, hq]; rfl, g, rfl, gC, gf⟩
      rw [x_left Rh ⟨by omega, by omega⟩, OK_bindE, OK_some, tn]
      by_cases d : 1 ≤ m 156 k
      · rw [if_pos (show 0 ≤ (k : Int) ∧ (k : Int) < m 150 3 ∧ 0 < m 156 k from ⟨by omega, by omega, by omega⟩)]
        refine OK_gn (by decide) ?_
        rw [OK_bindE]
        refine OK_mono (compare_s Rh hC (a := a) (b := b) hn ha hb hk8 d) (fun z hz => ?_)
        obtain ⟨⟨⟨p4, p5, p6, p7⟩, pa, pb⟩, zC, zf⟩ := hz
        have zx : ∀ e j, ¬ cXK e → z e j = x e j := fun e j q => by rw [zf e j q, hf e j q]
        have sl := sh_le (fun p => m 157 (40 * k + p)) (hwF m k a n) (hwF m k b n) 40
        have l40 := cnBt_le (shN (hwF m k a n) (hwF m k b n)) 40
        have tkE : tkB (fun p => m 157 (40 * k + p)) (hwF m k a n) (hwF m k b n) t = decide (0 < cnBt (shC (fun p => m 157 (40 * k + p)) (hwF m k a n) (hwF m k b n)) 40 ∧ hyS (cnBt (shN (hwF m k a n) (hwF m k b n)) 40) (cnBt (shA (fun p => m 157 (40 * k + p)) (hwF m k a n) (hwF m k b n)) 40) (cnBt (shB (fun p => m 157 (40 * k + p)) (hwF m k a n) (hwF m k b n)) 40) (cnBt (shC (fun p => m 157 (40 * k + p)) (hwF m k a n) (hwF m k b n)) 40) (cnBt (shB (fun p => m 157 (40 * k + p)) (hwF m k a n) (hwF m k b n)) 40 + 1 - cnBt (shC (fun p => m 157 (40 * k + p)) (hwF m k a n) (hwF m k b n)) 40) * 1000 ≤ t * chN (cnBt (shN (hwF m k a n) (hwF m k b n)) 40) (cnBt (shB (fun p => m 157 (40 * k + p)) (hwF m k a n) (hwF m k b n)) 40)) := rfl
        have dE : decide (1 ≤ m 156 k) = true := decide_eq_true d
        have tyE : tyF m n t a b (k + 1) = tkB (fun p => m 157 (40 * k + p)) (hwF m k a n) (hwF m k b n) t := by rw [tyF_s, hty, dE, Bool.true_and, Bool.false_or]
        generalize tkB (fun p => m 157 (40 * k + p)) (hwF m k a n) (hwF m k b n) t = tk at tkE tyE skip
        generalize cnBt (shN (hwF m k a n) (hwF m k b n)) 40 = cn at p4 pa pb sl l40 tkE
        generalize cnBt (shA (fun p => m 157 (40 * k + p)) (hwF m k a n) (hwF m k b n)) 40 = ca at p5 pa pb sl tkE
        generalize cnBt (shB (fun p => m 157 (40 * k + p)) (hwF m k a n) (hwF m k b n)) 40 = cb at p6 pa pb sl tkE
        generalize cnBt (shC (fun p => m 157 (40 * k + p)) (hwF m k a n) (hwF m k b n)) 40 = cc at p7 pa pb sl tkE
        have hs := hyS_b (n := cn) (a := ca) (b := cb) (c := cc) l40 sl.1 (cb + 1 - cc)
        have hm : (cb + 1 - cc) * 1099511627776 ≤ 41 * 1099511627776 := Nat.mul_le_mul (by omega) (Nat.le_refl _)
        have hb1 := (chN_b (n := cn) (k := cb) l40).2
        have hb2 := chN_p (n := cn) (k := cb) l40 sl.2.1
        generalize hyS cn ca cb cc (cb + 1 - cc) = A at hs pa pb tkE
        generalize chN cn cb = B at hb1 hb2 pa pb tkE
        simp only [p7, w32_id (z := (cc : Int)) (by omega) (by omega)]
        refine OK_if (fun e => ?_) (fun e => ?_)
        · rw [OK_some]
          exact skip z (by rw [tkE, decide_eq_false (show ¬ (0 < cc ∧ A * 1000 ≤ t * B) from fun q => by have := q.1; omega), Bool.and_false]) zC zx
        · have l1 : A / Nat.gcd A B ≤ 50000000000000 := Nat.le_trans (Nat.div_le_self _ _) (by omega)
          have l2 : B / Nat.gcd A B ≤ 137846528820 := Nat.le_trans (Nat.div_le_self _ _) hb1
          have fg := frac_ge (A := A) (B := B) (t := t) hb2
          rw [notAbove_s ht l1 l2 pa pb, OK_bindE, OK_some]
          by_cases f : A * 1000 ≤ t * B
          · rw [if_pos (fg.mpr f)]
            refine OK_gn (by decide) ?_
            rw [OK_some, LQ_r, LQ_l]
            refine ⟨?_, zC, zx⟩
            have h1 : tyF m n t a b (k + 1) = true := by
              rw [tyE, tkE]
              exact decide_eq_true ⟨by omega, f⟩
            have := tyF_le h1 (nk - (k + 1))
            rw [show k + 1 + (nk - (k + 1)) = nk from by omega] at this
            exact this
          · rw [if_neg (fun q => f (fg.mp q))]
            refine OK_gd (by decide) ?_
            rw [OK_some]
            exact skip z (by rw [tkE, decide_eq_false (show ¬ (0 < cc ∧ A * 1000 ≤ t * B) from fun q => f q.2), Bool.and_false]) zC zx
      · rw [if_neg (show ¬ (0 ≤ (k : Int) ∧ (k : Int) < m 150 3 ∧ 0 < m 156 k) from fun q => d (by omega))]
        refine OK_gd (by decide) ?_
        rw [OK_some]
        exact skip h (by rw [decide_eq_false d, Bool.false_and]) hC hf
  · cases r with
    | inl h =>
      obtain ⟨h1, h2, h3⟩ := hr
      rw [h1]
      exact ⟨rfl, h2, h3⟩
    | inr h =>
      obtain ⟨h1, h2, h3⟩ := hr
      rw [h1]
      exact ⟨rfl, h2, h3⟩
