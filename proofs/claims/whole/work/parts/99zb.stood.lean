/-! WHAT STOOD THERE: words that two rows have in one order -/
def lcR (f : Int) (gw : Nat → Int) (sy : Nat) (pr : Nat → Int) : Nat → Int
  | 0 => 0
  | l + 1 => if f = gw (sy - 1 - l) then pr l + 1 else max (pr (l + 1)) (lcR f gw sy pr l)
def lcT (fw gw : Nat → Int) (sx sy : Nat) : Nat → Nat → Int
  | 0 => fun _ => 0
  | k + 1 => lcR (fw (sx - 1 - k)) gw sy (lcT fw gw sx sy k)
theorem lcT_0 (fw gw : Nat → Int) (sx sy : Nat) (l : Nat) : lcT fw gw sx sy 0 l = 0 := rfl
theorem lcT_k0 (fw gw : Nat → Int) (sx sy : Nat) (k : Nat) : lcT fw gw sx sy k 0 = 0 := by
  cases k <;> rfl
theorem lcT_s (fw gw : Nat → Int) (sx sy : Nat) (k l : Nat) : lcT fw gw sx sy (k + 1) (l + 1) = if fw (sx - 1 - k) = gw (sy - 1 - l) then lcT fw gw sx sy k l + 1 else max (lcT fw gw sx sy k (l + 1)) (lcT fw gw sx sy (k + 1) l) := rfl
theorem lcT_m (fw gw : Nat → Int) (sx sy : Nat) : ∀ k, ∀ l, lcT fw gw sx sy k l ≤ lcT fw gw sx sy k (l + 1) ∧ lcT fw gw sx sy k (l + 1) ≤ lcT fw gw sx sy k l + 1 ∧ lcT fw gw sx sy k l ≤ lcT fw gw sx sy (k + 1) l ∧ lcT fw gw sx sy (k + 1) l ≤ lcT fw gw sx sy k l + 1 := by
  have A : ∀ k, (∀ l, lcT fw gw sx sy k l ≤ lcT fw gw sx sy k (l + 1) ∧ lcT fw gw sx sy k (l + 1) ≤ lcT fw gw sx sy k l + 1) → ∀ l, (lcT fw gw sx sy k l ≤ lcT fw gw sx sy (k + 1) l ∧ lcT fw gw sx sy (k + 1) l ≤ lcT fw gw sx sy k l + 1) ∧ (lcT fw gw sx sy (k + 1) l ≤ lcT fw gw sx sy (k + 1) (l + 1) ∧ lcT fw gw sx sy (k + 1) (l + 1) ≤ lcT fw gw sx sy (k + 1) l + 1) := by
    intro k B l
    induction l with
    | zero =>
      have b := B 0
      have e0 := lcT_k0 fw gw sx sy k
      have e1 := lcT_k0 fw gw sx sy (k + 1)
      have e := lcT_s fw gw sx sy k 0
      refine ⟨by omega, ?_⟩
      split at e <;> omega
    | succ l ih =>
      have b := B l
      have b2 := B (l + 1)
      have e := lcT_s fw gw sx sy k l
      have e2 := lcT_s fw gw sx sy k (l + 1)
      obtain ⟨i1, i2⟩ := ih
      have h1 : lcT fw gw sx sy k (l + 1) ≤ lcT fw gw sx sy (k + 1) (l + 1) ∧ lcT fw gw sx sy (k + 1) (l + 1) ≤ lcT fw gw sx sy k (l + 1) + 1 := by
        split at e <;> omega
      refine ⟨h1, ?_⟩
      split at e2 <;> omega
  have B : ∀ k, ∀ l, lcT fw gw sx sy k l ≤ lcT fw gw sx sy k (l + 1) ∧ lcT fw gw sx sy k (l + 1) ≤ lcT fw gw sx sy k l + 1 := by
    intro k
    induction k with
    | zero =>
      intro l
      rw [lcT_0, lcT_0]
      omega
    | succ k ih => exact fun l => (A k ih l).2
  intro k l
  have a := (A k (B k) l).1
  have b := B k l
  omega
/-- from a place on -/
def lcP (fw gw : Nat → Int) (sx sy p q : Nat) : Int := lcT fw gw sx sy (sx - p) (sy - q)
theorem lcP_z {fw gw : Nat → Int} {sx sy p q : Nat} (h : sx ≤ p ∨ sy ≤ q) : lcP fw gw sx sy p q = 0 := by
  unfold lcP
  rcases h with h | h
  · rw [show sx - p = 0 from by omega, lcT_0]
  · rw [show sy - q = 0 from by omega, lcT_k0]
theorem lcP_s {fw gw : Nat → Int} {sx sy p q : Nat} (hp : p < sx) (hq : q < sy) : lcP fw gw sx sy p q = if fw p = gw q then lcP fw gw sx sy (p + 1) (q + 1) + 1 else max (lcP fw gw sx sy (p + 1) q) (lcP fw gw sx sy p (q + 1)) := by
  have e := lcT_s fw gw sx sy (sx - (p + 1)) (sy - (q + 1))
  rw [show sx - (p + 1) + 1 = sx - p from by omega, show sy - (q + 1) + 1 = sy - q from by omega, show sx - 1 - (sx - (p + 1)) = p from by omega, show sy - 1 - (sy - (q + 1)) = q from by omega] at e
  exact e
theorem lcP_mp (fw gw : Nat → Int) (sx sy p q : Nat) : lcP fw gw sx sy (p + 1) q ≤ lcP fw gw sx sy p q ∧ lcP fw gw sx sy p q ≤ lcP fw gw sx sy (p + 1) q + 1 := by
  unfold lcP
  by_cases c : p < sx
  · have := lcT_m fw gw sx sy (sx - (p + 1)) (sy - q)
    rw [show sx - (p + 1) + 1 = sx - p from by omega] at this
    omega
  · rw [show sx - (p + 1) = sx - p from by omega]
    omega
theorem lcP_mq (fw gw : Nat → Int) (sx sy p q : Nat) : lcP fw gw sx sy p (q + 1) ≤ lcP fw gw sx sy p q ∧ lcP fw gw sx sy p q ≤ lcP fw gw sx sy p (q + 1) + 1 := by
  unfold lcP
  by_cases c : q < sy
  · have := lcT_m fw gw sx sy (sx - p) (sy - (q + 1))
    rw [show sy - (q + 1) + 1 = sy - q from by omega] at this
    omega
  · rw [show sy - (q + 1) = sy - q from by omega]
    omega
theorem lcP_mono {fw gw : Nat → Int} {sx sy p q : Nat} : ∀ d e, lcP fw gw sx sy (p + d) (q + e) ≤ lcP fw gw sx sy p q := by
  intro d
  induction d with
  | zero =>
    intro e
    induction e with
    | zero => exact Int.le_refl _
    | succ e ih =>
      have := lcP_mq fw gw sx sy (p + 0) (q + e)
      rw [← Nat.add_assoc]
      omega
  | succ d ih =>
    intro e
    have := lcP_mp fw gw sx sy (p + d) (q + e)
    have := ih e
    rw [← Nat.add_assoc]
    omega
theorem lcP_le {fw gw : Nat → Int} {sx sy p q p' q' : Nat} (h1 : p ≤ p') (h2 : q ≤ q') : lcP fw gw sx sy p' q' ≤ lcP fw gw sx sy p q := by
  have := lcP_mono (fw := fw) (gw := gw) (sx := sx) (sy := sy) (p := p) (q := q) (p' - p) (q' - q)
  rw [show p + (p' - p) = p' from by omega, show q + (q' - q) = q' from by omega] at this
  exact this
theorem lcP_bd (fw gw : Nat → Int) (sx sy : Nat) : ∀ p q, 0 ≤ lcP fw gw sx sy p q ∧ lcP fw gw sx sy p q ≤ (sx : Int) - p + p ∧ (p ≤ sx → lcP fw gw sx sy p q ≤ (sx : Int) - p) := by
  intro p q
  have h0 : 0 ≤ lcP fw gw sx sy p q := by
    have := lcP_le (fw := fw) (gw := gw) (sx := sx) (sy := sy) (p := p) (q := q) (p' := p + sx) (q' := q) (by omega) (by omega)
    rw [lcP_z (Or.inl (by omega))] at this
    exact this
  have h1 : ∀ d, lcP fw gw sx sy (sx - d) q ≤ d := by
    intro d
    induction d with
    | zero =>
      rw [lcP_z (Or.inl (by omega))]
      omega
    | succ d ih =>
      by_cases c : d < sx
      · have := lcP_mp fw gw sx sy (sx - (d + 1)) q
        rw [show sx - (d + 1) + 1 = sx - d from by omega] at this
        omega
      · rw [show sx - (d + 1) = sx - d from by omega]
        omega
  have h2 : p ≤ sx → lcP fw gw sx sy p q ≤ (sx : Int) - p := fun hp => by
    have := h1 (sx - p)
    rw [show sx - (sx - p) = p from by omega] at this
    omega
  refine ⟨h0, ?_, h2⟩
  by_cases c : p ≤ sx
  · have := h2 c
    omega
  · rw [lcP_z (Or.inl (by omega))]
    omega
/-- where one is left there is a pair -/
theorem lcP_ex {fw gw : Nat → Int} {sx sy : Nat} : ∀ n p q, (sx - p) + (sy - q) ≤ n → 1 ≤ lcP fw gw sx sy p q → ∃ p' q', p ≤ p' ∧ q ≤ q' ∧ p' < sx ∧ q' < sy ∧ fw p' = gw q' ∧ lcP fw gw sx sy (p' + 1) (q' + 1) + 1 = lcP fw gw sx sy p q := by
  intro n
  induction n with
  | zero =>
    intro p q h1 h2
    rw [lcP_z (Or.inl (by omega))] at h2
    omega
  | succ n ih =>
    intro p q h1 h2
    by_cases cp : p < sx
    · by_cases cq : q < sy
      · have e := lcP_s (fw := fw) (gw := gw) cp cq
        by_cases c : fw p = gw q
        · rw [if_pos c] at e
          exact ⟨p, q, Nat.le_refl _, Nat.le_refl _, cp, cq, c, e.symm⟩
        · rw [if_neg c] at e
          by_cases d : lcP fw gw sx sy (p + 1) q ≤ lcP fw gw sx sy p (q + 1)
          · obtain ⟨a, b, h3, h4, h5, h6, h7, h8⟩ := ih p (q + 1) (by omega) (by omega)
            exact ⟨a, b, h3, by omega, h5, h6, h7, by omega⟩
          · obtain ⟨a, b, h3, h4, h5, h6, h7, h8⟩ := ih (p + 1) q (by omega) (by omega)
            exact ⟨a, b, by omega, h4, h5, h6, h7, by omega⟩
      · rw [lcP_z (Or.inr (by omega))] at h2
        omega
    · rw [lcP_z (Or.inl (by omega))] at h2
      omega
/-- the first place of a word -/
def fstW (fw : Nat → Int) (w : Int) (p : Nat) : Nat → Nat
  | 0 => p
  | d + 1 => if fw p = w then p else fstW fw w (p + 1) d
theorem fstW_s (fw : Nat → Int) (w : Int) : ∀ d p, p ≤ fstW fw w p d ∧ fstW fw w p d ≤ p + d ∧ (fstW fw w p d < p + d → fw (fstW fw w p d) = w) ∧ ∀ i, p ≤ i → i < fstW fw w p d → fw i ≠ w := by
  intro d
  induction d with
  | zero =>
    intro p
    exact ⟨Nat.le_refl _, Nat.le_refl _, fun h => absurd h (Nat.lt_irrefl _), fun i h1 h2 => by unfold fstW at h2; omega⟩
  | succ d ih =>
    intro p
    unfold fstW
    by_cases c : fw p = w
    · rw [if_pos c]
      exact ⟨Nat.le_refl _, by omega, fun _ => c, fun i h1 h2 => by omega⟩
    · rw [if_neg c]
      obtain ⟨h1, h2, h3, h4⟩ := ih (p + 1)
      refine ⟨by omega, by omega, fun h => h3 (by omega), fun i h5 h6 => ?_⟩
      by_cases e : i = p
      · subst e
        exact c
      · exact h4 i (by omega) h6
theorem fstW_le {fw : Nat → Int} {w : Int} {p s i : Nat} (h1 : p ≤ i) (h2 : i < s) (h3 : fw i = w) : fstW fw w p (s - p) ≤ i := by
  obtain ⟨-, -, -, h4⟩ := fstW_s fw w (s - p) p
  by_cases c : fstW fw w p (s - p) ≤ i
  · exact c
  · exact absurd h3 (h4 i h1 (by omega))
/-- a word leads on from two places -/
def leadB (fw gw : Nat → Int) (sx sy p q : Nat) (w : Nat) : Bool :=
  decide (fstW fw (w : Int) p (sx - p) < sx ∧ fstW gw (w : Int) q (sy - q) < sy ∧ lcP fw gw sx sy (fstW fw (w : Int) p (sx - p) + 1) (fstW gw (w : Int) q (sy - q) + 1) + 1 = lcP fw gw sx sy p q)
def srchB (P : Nat → Bool) (s : Nat) : Nat → Nat
  | 0 => s
  | d + 1 => if P s = true then s else srchB P (s + 1) d
theorem srchB_s {P : Nat → Bool} : ∀ d s, (∃ w, s ≤ w ∧ w < s + d ∧ P w = true) → P (srchB P s d) = true ∧ s ≤ srchB P s d ∧ srchB P s d < s + d ∧ ∀ v, s ≤ v → v < srchB P s d → P v = false := by
  intro d
  induction d with
  | zero => intro s ⟨w, h1, h2, _⟩; omega
  | succ d ih =>
    intro s ⟨w, h1, h2, h3⟩
    unfold srchB
    by_cases c : P s = true
    · rw [if_pos c]
      exact ⟨c, Nat.le_refl _, by omega, fun v h4 h5 => by omega⟩
    · rw [if_neg c]
      have hw : w ≠ s := fun q => c (q ▸ h3)
      obtain ⟨a1, a2, a3, a4⟩ := ih (s + 1) ⟨w, by omega, by omega, h3⟩
      refine ⟨a1, by omega, by omega, fun v h4 h5 => ?_⟩
      by_cases e : v = s
      · subst e
        simpa using c
      · exact a4 v (by omega) h5
/-- the step of the least row -/
def stdS (fw gw : Nat → Int) (sx sy : Nat) : Nat → Nat × Nat
  | 0 => (0, 0)
  | i + 1 => (fstW fw ((srchB (leadB fw gw sx sy (stdS fw gw sx sy i).1 (stdS fw gw sx sy i).2) 0 64 : Nat) : Int) (stdS fw gw sx sy i).1 (sx - (stdS fw gw sx sy i).1) + 1, fstW gw ((srchB (leadB fw gw sx sy (stdS fw gw sx sy i).1 (stdS fw gw sx sy i).2) 0 64 : Nat) : Int) (stdS fw gw sx sy i).2 (sy - (stdS fw gw sx sy i).2) + 1)
def stdW (fw gw : Nat → Int) (sx sy i : Nat) : Nat := srchB (leadB fw gw sx sy (stdS fw gw sx sy i).1 (stdS fw gw sx sy i).2) 0 64
theorem stdS_s (fw gw : Nat → Int) (sx sy i : Nat) : stdS fw gw sx sy (i + 1) = (fstW fw ((stdW fw gw sx sy i : Nat) : Int) (stdS fw gw sx sy i).1 (sx - (stdS fw gw sx sy i).1) + 1, fstW gw ((stdW fw gw sx sy i : Nat) : Int) (stdS fw gw sx sy i).2 (sy - (stdS fw gw sx sy i).2) + 1) := rfl
theorem lead_ex {fw gw : Nat → Int} {sx sy p q : Nat} (hb : ∀ i, 0 ≤ fw i ∧ fw i ≤ 63) (hp : p ≤ sx) (hq : q ≤ sy) (h : 1 ≤ lcP fw gw sx sy p q) : ∃ w, 0 ≤ w ∧ w < 0 + 64 ∧ leadB fw gw sx sy p q w = true := by
  obtain ⟨a, b, h1, h2, h3, h4, h5, h6⟩ := lcP_ex _ p q (Nat.le_refl _) h
  obtain ⟨w, hw⟩ := Int.eq_ofNat_of_zero_le (hb a).1
  have hb2 := hb a
  refine ⟨w, Nat.zero_le _, by omega, ?_⟩
  unfold leadB
  rw [decide_eq_true_iff]
  have f1 := fstW_le (fw := fw) (w := (w : Int)) (p := p) (s := sx) h1 h3 hw
  have f2 := fstW_le (fw := gw) (w := (w : Int)) (p := q) (s := sy) h2 h4 (by rw [← h5, hw])
  have g1 := fstW_s fw (w : Int) (sx - p) p
  have g2 := fstW_s gw (w : Int) (sy - q) q
  generalize fstW fw (w : Int) p (sx - p) = r at f1 g1 ⊢
  generalize fstW gw (w : Int) q (sy - q) = s at f2 g2 ⊢
  refine ⟨by omega, by omega, ?_⟩
  have e := lcP_s (fw := fw) (gw := gw) (sx := sx) (sy := sy) (p := r) (q := s) (by omega) (by omega)
  rw [g1.2.2.1 (by omega), g2.2.2.1 (by omega), if_pos rfl] at e
  have l1 := lcP_le (fw := fw) (gw := gw) (sx := sx) (sy := sy) (p := p) (q := q) (p' := r) (q' := s) g1.1 g2.1
  have l2 := lcP_le (fw := fw) (gw := gw) (sx := sx) (sy := sy) (p := r + 1) (q := s + 1) (p' := a + 1) (q' := b + 1) (by omega) (by omega)
  omega
theorem stdS_g {fw gw : Nat → Int} {sx sy : Nat} (hb : ∀ i, 0 ≤ fw i ∧ fw i ≤ 63) : ∀ i : Nat, (i : Int) ≤ lcP fw gw sx sy 0 0 → (stdS fw gw sx sy i).1 ≤ sx ∧ (stdS fw gw sx sy i).2 ≤ sy ∧ lcP fw gw sx sy (stdS fw gw sx sy i).1 (stdS fw gw sx sy i).2 = lcP fw gw sx sy 0 0 - i := by
  intro i
  induction i with
  | zero =>
    intro _
    exact ⟨Nat.zero_le _, Nat.zero_le _, by show lcP fw gw sx sy 0 0 = _; omega⟩
  | succ i ih =>
    intro hi
    obtain ⟨h1, h2, h3⟩ := ih (by omega)
    have ex := lead_ex (fw := fw) (gw := gw) (sx := sx) (sy := sy) hb h1 h2 (by omega)
    have sp := (srchB_s _ _ ex).1
    rw [stdS_s]
    unfold leadB at sp
    rw [decide_eq_true_iff] at sp
    change fstW fw ((stdW fw gw sx sy i : Nat) : Int) (stdS fw gw sx sy i).1 (sx - (stdS fw gw sx sy i).1) < sx ∧ fstW gw ((stdW fw gw sx sy i : Nat) : Int) (stdS fw gw sx sy i).2 (sy - (stdS fw gw sx sy i).2) < sy ∧ lcP fw gw sx sy (fstW fw ((stdW fw gw sx sy i : Nat) : Int) (stdS fw gw sx sy i).1 (sx - (stdS fw gw sx sy i).1) + 1) (fstW gw ((stdW fw gw sx sy i : Nat) : Int) (stdS fw gw sx sy i).2 (sy - (stdS fw gw sx sy i).2) + 1) + 1 = lcP fw gw sx sy (stdS fw gw sx sy i).1 (stdS fw gw sx sy i).2 at sp
    dsimp only
    omega
theorem stdW_s {fw gw : Nat → Int} {sx sy : Nat} (hb : ∀ i, 0 ≤ fw i ∧ fw i ≤ 63) {i : Nat} (hi : (i : Int) < lcP fw gw sx sy 0 0) : leadB fw gw sx sy (stdS fw gw sx sy i).1 (stdS fw gw sx sy i).2 (stdW fw gw sx sy i) = true ∧ stdW fw gw sx sy i < 64 ∧ ∀ v, v < stdW fw gw sx sy i → leadB fw gw sx sy (stdS fw gw sx sy i).1 (stdS fw gw sx sy i).2 v = false := by
  obtain ⟨h1, h2, h3⟩ := stdS_g (fw := fw) (gw := gw) (sx := sx) (sy := sy) hb i (by omega)
  have ex := lead_ex (fw := fw) (gw := gw) (sx := sx) (sy := sy) hb h1 h2 (by omega)
  obtain ⟨a, -, b, c⟩ := srchB_s _ _ ex
  exact ⟨a, by unfold stdW; omega, fun v hv => c v (Nat.zero_le _) hv⟩
