/-! HOW FAR, HOW NEAR: what is reckoned -/
/-- the row behind one more WORD -/
def rNx (bw : Nat → Int) (w : Int) (r : Nat → Int) : Nat → Int
  | 0 => r 0 + 1
  | p + 1 => min (r p + (if bw p = w then 0 else 1)) (min (rNx bw w r p) (r (p + 1)) + 1)
/-- the row behind n WORDS -/
def rKw (bw ws : Nat → Int) : Nat → Nat → Int
  | 0 => fun p => (p : Int)
  | n + 1 => rNx bw (ws n) (rKw bw ws n)
theorem rNx_bd {bw : Nat → Int} {w : Int} {r : Nat → Int} {n : Nat} (h : ∀ p : Nat, (n : Int) - p ≤ r p ∧ (p : Int) - n ≤ r p ∧ (r p ≤ n ∨ r p ≤ p)) : ∀ p : Nat, ((n + 1 : Nat) : Int) - p ≤ rNx bw w r p ∧ (p : Int) - (n + 1 : Nat) ≤ rNx bw w r p ∧ (rNx bw w r p ≤ (n + 1 : Nat) ∨ rNx bw w r p ≤ p)
  | 0 => by
    have h0 := h 0
    simp only [rNx]
    omega
  | p + 1 => by
    have h0 := h p
    have h1 := h (p + 1)
    have h2 := rNx_bd (bw := bw) (w := w) h p
    simp only [rNx]
    split <;> omega
theorem rKw_bd (bw ws : Nat → Int) : ∀ (n p : Nat), (n : Int) - p ≤ rKw bw ws n p ∧ (p : Int) - n ≤ rKw bw ws n p ∧ (rKw bw ws n p ≤ n ∨ rKw bw ws n p ≤ p)
  | 0, p => by
    simp only [rKw]
    omega
  | n + 1, p => by
    simp only [rKw]
    exact rNx_bd (rKw_bd bw ws n) p
theorem rNx_cg {bw bw' : Nat → Int} {w : Int} {r r' : Nat → Int} {s : Nat} (hb : ∀ p, p < s → bw p = bw' p) (hr : ∀ p, p ≤ s → r p = r' p) : ∀ p, p ≤ s → rNx bw w r p = rNx bw' w r' p
  | 0, hp => by
    simp only [rNx]
    rw [hr 0 hp]
  | p + 1, hp => by
    simp only [rNx]
    rw [hr (p + 1) hp, hr p (by omega), hb p (by omega), rNx_cg hb hr p (by omega)]
theorem rKw_cg {bw bw' ws ws' : Nat → Int} {s : Nat} (hb : ∀ p, p < s → bw p = bw' p) : ∀ (n : Nat), (∀ q, q < n → ws q = ws' q) → ∀ p, p ≤ s → rKw bw ws n p = rKw bw' ws' n p
  | 0, _, p, _ => rfl
  | n + 1, hw, p, hp => by
    simp only [rKw]
    rw [hw n (by omega)]
    exact rNx_cg hb (rKw_cg hb n (fun q hq => hw q (by omega))) p hp
/-- one stretch more: (how FAR, first, last) -/
def nUp (f : Int) (a b : Int) (s : Int × Int × Int) : Int × Int × Int := if f < s.1 ∨ (f = s.1 ∧ s.2.1 = a) then (f, a, b) else s
def nIn (bw ww : Nat → Int) (sz : Nat) (a : Nat) (s : Int × Int × Int) : Nat → Int × Int × Int
  | 0 => s
  | c + 1 => nUp (rKw bw (fun q => ww (a + q)) (c + 1) sz) a (a + c : Nat) (nIn bw ww sz a s c)
def nOt (bw ww : Nat → Int) (sz L : Nat) (s : Int × Int × Int) : Nat → Int × Int × Int
  | 0 => s
  | a + 1 => nIn bw ww sz a (nOt bw ww sz L s a) (L - a)
/-- the same with the stretches cut short -/
def nCu (bw ww : Nat → Int) (sz L : Nat) (s : Int × Int × Int) : Nat → Int × Int × Int
  | 0 => s
  | a + 1 => nIn bw ww sz a (nCu bw ww sz L s a) (min L (a + 2 * sz) - a)
/-- how NEAR -/
def nNr (bw ww : Nat → Int) (sz L : Nat) : Int × Int × Int := nOt bw ww sz L (100, -1, 0) L
theorem nUp_le (f a b : Int) (s : Int × Int × Int) : (nUp f a b s).1 ≤ s.1 := by
  unfold nUp
  split
  · show f ≤ s.1
    omega
  · exact Int.le_refl _
theorem nIn_le (bw ww : Nat → Int) (sz a : Nat) (s : Int × Int × Int) : ∀ c, (nIn bw ww sz a s c).1 ≤ s.1
  | 0 => Int.le_refl _
  | c + 1 => Int.le_trans (nUp_le _ _ _ _) (nIn_le bw ww sz a s c)
/-- stretches above twice as long change nothing -/
theorem nIn_cut (bw ww : Nat → Int) (sz a : Nat) (s : Int × Int × Int) (hs : s.1 ≤ sz) (E : Nat) (hE : 2 * sz ≤ E) : ∀ c, nIn bw ww sz a s (E + c) = nIn bw ww sz a s E
  | 0 => rfl
  | c + 1 => by
    show nUp (rKw bw (fun q => ww (a + q)) (E + c + 1) sz) _ _ (nIn bw ww sz a s (E + c)) = _
    have h1 := (rKw_bd bw (fun q => ww (a + q)) (E + c + 1) sz).1
    have h2 := nIn_le bw ww sz a s (E + c)
    unfold nUp
    rw [if_neg (by omega)]
    exact nIn_cut bw ww sz a s hs E hE c
theorem nIn_first (bw ww : Nat → Int) (sz : Nat) (hsz : 1 ≤ sz) (s t : Int × Int × Int) (hs : (sz : Int) < s.1) (ht : (sz : Int) < t.1) : ∀ c, nIn bw ww sz 0 s (c + 1) = nIn bw ww sz 0 t (c + 1)
  | 0 => by
    have h1 := (rKw_bd bw (fun q => ww (0 + q)) 1 sz).2.2
    show nUp (rKw bw (fun q => ww (0 + q)) 1 sz) _ _ s = nUp (rKw bw (fun q => ww (0 + q)) 1 sz) _ _ t
    unfold nUp
    rw [if_pos (by omega), if_pos (by omega)]
  | c + 1 => by
    show nUp _ _ _ (nIn bw ww sz 0 s (c + 1)) = nUp _ _ _ (nIn bw ww sz 0 t (c + 1))
    rw [nIn_first bw ww sz hsz s t hs ht c]
theorem nIn_one (bw ww : Nat → Int) (sz : Nat) (hsz : 1 ≤ sz) (s : Int × Int × Int) (hs : (sz : Int) < s.1) (c : Nat) : (nIn bw ww sz 0 s (c + 1)).1 ≤ sz := by
  induction c with
  | zero =>
    have h1 := (rKw_bd bw (fun q => ww (0 + q)) 1 sz).2.2
    show (nUp (rKw bw (fun q => ww (0 + q)) 1 sz) _ _ s).1 ≤ _
    unfold nUp
    rw [if_pos (by omega)]
    show rKw bw (fun q => ww (0 + q)) 1 sz ≤ _
    omega
  | succ c ih => exact Int.le_trans (nUp_le _ _ _ _) ih
theorem nCu_nOt (bw ww : Nat → Int) (sz L : Nat) (hsz : 1 ≤ sz) (s t : Int × Int × Int) (hs : (sz : Int) < s.1) (ht : (sz : Int) < t.1) : ∀ a, a < L → nCu bw ww sz L s (a + 1) = nOt bw ww sz L t (a + 1) ∧ (nOt bw ww sz L t (a + 1)).1 ≤ sz
  | 0, ha => by
    have e1 : min L (0 + 2 * sz) - 0 = (min L (2 * sz) - 1) + 1 := by omega
    have e2 : L - 0 = (L - 1) + 1 := by omega
    show nIn bw ww sz 0 s (min L (0 + 2 * sz) - 0) = nIn bw ww sz 0 t (L - 0) ∧ (nIn bw ww sz 0 t (L - 0)).1 ≤ sz
    refine ⟨?_, by rw [e2]; exact nIn_one bw ww sz hsz t ht _⟩
    rw [e1, nIn_first bw ww sz hsz s t hs ht]
    by_cases h : L ≤ 2 * sz
    · rw [show min L (2 * sz) - 1 + 1 = L - 0 by omega]
    · have e3 : L - 0 = 2 * sz + (L - 2 * sz) := by omega
      rw [show min L (2 * sz) - 1 + 1 = 2 * sz by omega, e3]
      -- behind the first WORD the state is within the BIT's length
      have key : ∀ c, nIn bw ww sz 0 t (2 * sz + c) = nIn bw ww sz 0 t (2 * sz) := by
        intro c
        induction c with
        | zero => rfl
        | succ c ih =>
          show nUp (rKw bw (fun q => ww (0 + q)) (2 * sz + c + 1) sz) _ _ (nIn bw ww sz 0 t (2 * sz + c)) = _
          have h1 := (rKw_bd bw (fun q => ww (0 + q)) (2 * sz + c + 1) sz).1
          have h2 : (nIn bw ww sz 0 t (2 * sz + c)).1 ≤ sz := by
            rw [show 2 * sz + c = (2 * sz + c - 1) + 1 by omega]
            exact nIn_one bw ww sz hsz t ht _
          unfold nUp
          rw [if_neg (by omega)]
          exact ih
      rw [key]
  | a + 1, ha => by
    obtain ⟨h1, h2⟩ := nCu_nOt bw ww sz L hsz s t hs ht a (by omega)
    show nIn bw ww sz (a + 1) (nCu bw ww sz L s (a + 1)) _ = nIn bw ww sz (a + 1) (nOt bw ww sz L t (a + 1)) _ ∧ (nIn bw ww sz (a + 1) (nOt bw ww sz L t (a + 1)) _).1 ≤ _
    rw [h1]
    refine ⟨?_, Int.le_trans (nIn_le _ _ _ _ _ _) h2⟩
    by_cases h : L - (a + 1) ≤ 2 * sz
    · rw [show min L (a + 1 + 2 * sz) - (a + 1) = L - (a + 1) by omega]
    · rw [show min L (a + 1 + 2 * sz) - (a + 1) = 2 * sz by omega, show L - (a + 1) = 2 * sz + (L - (a + 1) - 2 * sz) by omega]
      exact (nIn_cut bw ww sz (a + 1) _ h2 (2 * sz) (Nat.le_refl _) _).symm
theorem nOt_any (bw ww : Nat → Int) (sz L : Nat) (hsz : 1 ≤ sz) (hL : 1 ≤ L) (s : Int × Int × Int) (hs : (sz : Int) < s.1) (h8 : sz ≤ 8) : nOt bw ww sz L s L = nNr bw ww sz L := by
  have h1 := (nCu_nOt bw ww sz L hsz s s hs hs (L - 1) (by omega)).1
  have h2 := (nCu_nOt bw ww sz L hsz s (100, -1, 0) hs (by show (sz : Int) < 100; omega) (L - 1) (by omega)).1
  rw [show L - 1 + 1 = L by omega] at h1 h2
  unfold nNr
  rw [← h1, h2]
theorem nCu_any (bw ww : Nat → Int) (sz L : Nat) (hsz : 1 ≤ sz) (hL : 1 ≤ L) (s : Int × Int × Int) (hs : (sz : Int) < s.1) (h8 : sz ≤ 8) : nCu bw ww sz L s L = nNr bw ww sz L := by
  have h2 := (nCu_nOt bw ww sz L hsz s (100, -1, 0) hs (by show (sz : Int) < 100; omega) (L - 1) (by omega)).1
  rw [show L - 1 + 1 = L by omega] at h2
  exact h2
theorem nIn_cg {bw bw' ww ww' : Nat → Int} {sz a : Nat} {s : Int × Int × Int} (hb : ∀ p, p < sz → bw p = bw' p) : ∀ c, (∀ q, q < a + c → ww q = ww' q) → nIn bw ww sz a s c = nIn bw' ww' sz a s c
  | 0, _ => rfl
  | c + 1, hw => by
    show nUp _ _ _ (nIn bw ww sz a s c) = nUp _ _ _ (nIn bw' ww' sz a s c)
    rw [nIn_cg hb c (fun q hq => hw q (by omega)), rKw_cg hb (c + 1) (ws' := fun q => ww' (a + q)) (fun q hq => hw (a + q) (by omega)) sz (Nat.le_refl _)]
theorem nOt_cg {bw bw' ww ww' : Nat → Int} {sz L : Nat} {s : Int × Int × Int} (hb : ∀ p, p < sz → bw p = bw' p) (hw : ∀ q, q < L → ww q = ww' q) : ∀ a, a ≤ L → nOt bw ww sz L s a = nOt bw' ww' sz L s a
  | 0, _ => rfl
  | a + 1, ha => by
    show nIn _ _ _ _ (nOt bw ww sz L s a) _ = nIn _ _ _ _ (nOt bw' ww' sz L s a) _
    rw [nOt_cg hb hw a (by omega), nIn_cg hb (L - a) (fun q hq => hw q (by omega))]
theorem nNr_cg {bw bw' ww ww' : Nat → Int} {sz L : Nat} (hb : ∀ p, p < sz → bw p = bw' p) (hw : ∀ q, q < L → ww q = ww' q) : nNr bw ww sz L = nNr bw' ww' sz L := nOt_cg hb hw L (Nat.le_refl _)
/-- within the WORK -/
def nGo (sz L : Nat) (s : Int × Int × Int) : Prop := 0 ≤ s.1 ∧ s.1 ≤ sz ∧ 0 ≤ s.2.1 ∧ s.2.1 ≤ s.2.2 ∧ s.2.2 < L
theorem nUp_gd {f : Int} {a b sz L : Nat} {s : Int × Int × Int} (hf : 0 ≤ f) (hab : a ≤ b) (hb : b < L) (h : nGo sz L s) : nGo sz L (nUp f a b s) := by
  unfold nUp
  split
  · show 0 ≤ f ∧ f ≤ sz ∧ 0 ≤ (a : Int) ∧ (a : Int) ≤ b ∧ (b : Int) < L
    unfold nGo at h
    omega
  · exact h
theorem rKw_ge (bw ws : Nat → Int) (n p : Nat) : 0 ≤ rKw bw ws n p := by
  have := rKw_bd bw ws n p
  omega
theorem nIn_gd {bw ww : Nat → Int} {sz a L : Nat} {s : Int × Int × Int} (h : nGo sz L s) : ∀ c, a + c ≤ L → nGo sz L (nIn bw ww sz a s c)
  | 0, _ => h
  | c + 1, hc => nUp_gd (rKw_ge _ _ _ _) (by omega) (by omega) (nIn_gd h c (by omega))
theorem nIn_g0 {bw ww : Nat → Int} {sz L : Nat} {s : Int × Int × Int} (hsz : 1 ≤ sz) (hs : (sz : Int) < s.1) : ∀ c, c + 1 ≤ L → nGo sz L (nIn bw ww sz 0 s (c + 1))
  | 0, hc => by
    have h1 := (rKw_bd bw (fun q => ww (0 + q)) 1 sz).2.2
    have h2 := rKw_ge bw (fun q => ww (0 + q)) 1 sz
    show nGo sz L (nUp (rKw bw (fun q => ww (0 + q)) 1 sz) ((0 : Nat) : Int) ((0 + 0 : Nat) : Int) s)
    unfold nUp
    rw [if_pos (by omega)]
    show 0 ≤ rKw bw (fun q => ww (0 + q)) 1 sz ∧ rKw bw (fun q => ww (0 + q)) 1 sz ≤ sz ∧ 0 ≤ ((0 : Nat) : Int) ∧ ((0 : Nat) : Int) ≤ ((0 + 0 : Nat) : Int) ∧ ((0 + 0 : Nat) : Int) < L
    omega
  | c + 1, hc => nUp_gd (rKw_ge _ _ _ _) (by omega) (by omega) (nIn_g0 hsz hs c (by omega))
theorem nOt_gd {bw ww : Nat → Int} {sz L : Nat} {s : Int × Int × Int} (hsz : 1 ≤ sz) (hs : (sz : Int) < s.1) : ∀ a, a + 1 ≤ L → nGo sz L (nOt bw ww sz L s (a + 1))
  | 0, ha => by
    show nGo sz L (nIn bw ww sz 0 s (L - 0))
    rw [show L - 0 = (L - 1) + 1 by omega]
    exact nIn_g0 hsz hs (L - 1) (by omega)
  | a + 1, ha => nIn_gd (nOt_gd hsz hs a (by omega)) (L - (a + 1)) (by omega)
theorem nNr_gd (bw ww : Nat → Int) (sz L : Nat) (h1 : 1 ≤ sz) (h2 : sz ≤ 8) (h3 : 1 ≤ L) : nGo sz L (nNr bw ww sz L) := by
  unfold nNr
  have := nOt_gd (bw := bw) (ww := ww) (L := L) (s := (100, -1, 0)) h1 (by show (sz : Int) < 100; omega) (L - 1) (by omega)
  rw [show L - 1 + 1 = L by omega] at this
  exact this
