/-! THE ORDER: who lies in it -/
theorem mthF_c {f : Nat → Bool} {p : Nat} : ∀ n, p < cnBt f n → cnBt f (mthF f p n) = p := by
  intro n
  induction n with
  | zero => intro h; exact absurd h (Nat.not_lt_zero _)
  | succ n ih =>
    intro h
    rw [mthF_s]
    by_cases c : f n = true ∧ cnBt f n = p
    · rw [if_pos c]
      exact c.2
    · rw [if_neg c]
      cases hf : f n with
      | false =>
        rw [cnBt_n hf] at h
        exact ih h
      | true =>
        rw [cnBt_t hf] at h
        exact ih (by
          by_cases q : cnBt f n = p
          · exact absurd ⟨hf, q⟩ c
          · omega)
theorem mthF_i {f : Nat → Bool} {i : Nat} : ∀ n, i < n → f i = true → cnBt f i < cnBt f n ∧ mthF f (cnBt f i) n = i := by
  intro n
  induction n with
  | zero => intro h; omega
  | succ n ih =>
    intro h hf
    by_cases e : i = n
    · subst e
      exact ⟨by rw [cnBt_t hf]; omega, mthF_n hf⟩
    · obtain ⟨h1, h2⟩ := ih (by omega) hf
      have := cnBt_mono (f := f) (show n ≤ n + 1 by omega)
      exact ⟨by omega, by rw [mthF_o h1, h2]⟩
theorem mthF_j {f : Nat → Bool} {p q n : Nat} (hp : p < cnBt f n) (hq : q < cnBt f n) (h : mthF f p n = mthF f q n) : p = q := by
  rw [← mthF_c n hp, ← mthF_c n hq, h]
def wkB (m : Hp) (k : Nat) (i : Nat) : Bool := decide (m 161 i = (k : Int))
/-- which one must lie ahead of which -/
def pqB (m : Hp) (mem : Nat → Nat) (a b q : Nat) : Bool := decide (m 187 q = ((mem b : Nat) : Int) ∧ m 188 q = ((mem a : Nat) : Int))
def aheB (m : Hp) (mem : Nat → Nat) (N P a b : Nat) : Bool := decide (a < N) && (decide (b < N) && decide (cnBt (pqB m mem a b) P ≠ 0))
theorem aheB_s (m : Hp) (mem : Nat → Nat) (N P a b : Nat) : aheB m mem N (P + 1) a b = (aheB m mem N P a b || (decide (a < N) && (decide (b < N) && pqB m mem a b P))) := by
  unfold aheB
  cases h : pqB m mem a b P with
  | false => rw [cnBt_n h, Bool.and_false, Bool.and_false, Bool.or_false]
  | true =>
    rw [cnBt_t h, decide_eq_true (show cnBt (pqB m mem a b) P + 1 ≠ 0 by omega)]
    cases decide (a < N) <;> cases decide (b < N) <;> cases decide (cnBt (pqB m mem a b) P ≠ 0) <;> rfl
theorem aheB_0 (m : Hp) (mem : Nat → Nat) (N a b : Nat) : aheB m mem N 0 a b = false := by
  unfold aheB
  rw [decide_eq_false (show ¬ cnBt (pqB m mem a b) 0 ≠ 0 from fun q => q rfl), Bool.and_false, Bool.and_false]
theorem aheB_cg {m m' : Hp} {mem mem' : Nat → Nat} {N P : Nat} (h1 : m' 187 = m 187) (h2 : m' 188 = m 188) (h3 : ∀ p, p < N → mem' p = mem p) (a b : Nat) : aheB m' mem' N P a b = aheB m mem N P a b := by
  unfold aheB
  by_cases ha : a < N
  · by_cases hb : b < N
    · have e : pqB m' mem' a b = pqB m mem a b := by
        funext q
        unfold pqB
        rw [h1, h2, h3 a ha, h3 b hb]
      rw [e]
    · rw [decide_eq_false hb, Bool.false_and, Bool.false_and]
  · rw [decide_eq_false ha, Bool.false_and, Bool.false_and]
theorem placeOf_s {h : Hp} {N i : Nat} {mem : Nat → Nat} {v : Int} (hv : v = (i : Int)) (hi : i < 1000) (h5 : h 66 5 = (N : Int)) (hN : N < 1000) (h9 : ∀ p, p < N → p < 10 → h 69 p = ((mem p : Nat) : Int)) (hm : ∀ p, p < N → mem p < 1000) : OK (X5_placeOf v h) (fun z => (z = -1 ∧ ∀ p, p < N → p < 10 → mem p ≠ i) ∨ ∃ p : Nat, p < N ∧ p < 10 ∧ z = (p : Int) ∧ mem p = i) := by
  subst hv
  unfold X5_placeOf
  rw [OK_bindE]
  refine OK_mono (iter_up (fun p st => (p ≤ N ∧ p ≤ 10) ∧ st = (p : Int) ∧ ∀ q, q < p → mem q ≠ i) (fun r => (r = Sum.inr () ∧ ∀ p, p < N → p < 10 → mem p ≠ i) ∨ ∃ p : Nat, p < N ∧ p < 10 ∧ r = Sum.inl (p : Int) ∧ mem p = i) 10 (by omega) (fun p st hp hI => ?_) ⟨⟨Nat.zero_le _, Nat.zero_le _⟩, rfl, fun q hq => absurd hq (Nat.not_lt_zero _)⟩) (fun r hr => ?_)
  · obtain ⟨⟨hp1, hp2⟩, rfl, hq⟩ := hI
    unfold X5_placeOf_l2
    simp only [h5, w32_id (z := (N : Int)) (by omega) (by omega), w32_id (z := (p : Int)) (by omega) (by omega), w32_id (z := (i : Int)) (by omega) (by omega), show w32 10 = 10 from rfl]
    refine OK_if (fun c => ?_) (fun c => OK_if (fun d => ?_) (fun d => OK_gi (by omega) (by omega) (by omega) ?_))
    · rw [OK_some, LQ_r]
      exact Or.inl ⟨rfl, fun q q1 q2 => hq q (by omega)⟩
    · rw [OK_some, LQ_r]
      exact Or.inl ⟨rfl, fun q q1 q2 => hq q (by omega)⟩
    · have b := hm p (by omega)
      simp only [tn, h9 p (by omega) (by omega), w32_id (z := ((mem p : Nat) : Int)) (by omega) (by omega)]
      refine OK_if (fun e => ?_) (fun e => ?_)
      · rw [OK_some, LQ_l]
        refine ⟨by omega, ⟨by omega, by omega⟩, rfl, fun q q1 => ?_⟩
        by_cases g : q = p
        · rw [g]
          omega
        · exact hq q (by omega)
      · rw [OK_some, LQ_r]
        exact Or.inr ⟨p, by omega, by omega, rfl, by omega⟩
  · rcases hr with ⟨rfl, h1⟩ | ⟨p, h1, h2, rfl, h3⟩
    · rw [OK_some]
      exact Or.inl ⟨rfl, h1⟩
    · rw [OK_some]
      exact Or.inr ⟨p, h1, h2, rfl, h3⟩
/-- the pairs on both sides -/
def ROp (x m : Hp) (P : Nat) : Prop := P ≤ 60 ∧ x 66 2 = (P : Int) ∧ m 150 75 = (P : Int) ∧ ∀ q, q < P → (x 67 q = m 187 q ∧ x 68 q = m 188 q) ∧ (0 ≤ m 187 q ∧ m 187 q < 40) ∧ (0 ≤ m 188 q ∧ m 188 q < 40)
theorem gatX_s {x m : Hp} (R : RS x m) {P n k : Nat} (O : ROp x m P) (hn : m 150 5 = (n : Int)) (hk : k < 1000) : OK (X5_gather (k : Int) x) (fun z => z 66 5 = ((cnBt (wkB m k) n : Nat) : Int) ∧ (∀ p, p < cnBt (wkB m k) n → p < 10 → z 69 p = ((mthF (wkB m k) p n : Nat) : Int)) ∧ (cnBt (wkB m k) n ≤ 10 → ∀ a, a < cnBt (wkB m k) n → BSt (z 70 a) (fun b => aheB m (fun p => mthF (wkB m k) p n) (cnBt (wkB m k) n) P a b)) ∧ ∀ e j, ¬ (e = 66 ∧ j = 5) → e ≠ 69 → e ≠ 70 → z e j = x e j) := by
  obtain ⟨-, S⟩ := id R
  obtain ⟨⟨b2, b3, b4, b5⟩, -, -, ⟨-, b161, -⟩, -, ⟨bb, -⟩⟩ := id S
  obtain ⟨hP, o1, o2, o3⟩ := O
  unfold X5_gather
  rw [OK_bindE]
  refine OK_mono (iter_up (fun i st => i ≤ n ∧ ∃ h : Hp, st = ((i : Int), h) ∧ h 66 5 = ((cnBt (wkB m k) i : Nat) : Int) ∧ (∀ p, p < cnBt (wkB m k) i → p < 10 → h 69 p = ((mthF (wkB m k) p i : Nat) : Int) ∧ h 70 p = 0) ∧ ∀ e j, ¬ (e = 66 ∧ j = 5) → e ≠ 69 → e ≠ 70 → h e j = x e j) (fun h => h 66 5 = ((cnBt (wkB m k) n : Nat) : Int) ∧ (∀ p, p < cnBt (wkB m k) n → p < 10 → h 69 p = ((mthF (wkB m k) p n : Nat) : Int) ∧ h 70 p = 0) ∧ ∀ e j, ¬ (e = 66 ∧ j = 5) → e ≠ 69 → e ≠ 70 → h e j = x e j) n (by omega) (fun i st hi hI => ?_) ⟨Nat.zero_le _, _, rfl, by rw [setH_s]; rfl, fun p hp => absurd hp (Nat.not_lt_zero _), fun e j q _ _ => by rw [setH_f q]⟩) (fun h hh => ?_)
  · obtain ⟨-, h, rfl, h7, h9, hf⟩ := hI
    have Rh : RS h m := RS_cg (fun a j q => hf a j (by unfold cXS at q; omega) (by unfold cXS at q; omega) (by unfold cXS at q; omega)) (fun _ _ _ => rfl) R
    obtain ⟨⟨⟨-, -, -, i311⟩, -, ⟨-, i13, -⟩, -⟩, -⟩ := id Rh
    have cl := cnBt_le (wkB m k) i
    unfold X5_gather_l5 X5_gather_j34 X7_bits
    dsimp only
    rw [OK_bindE, OK_some]
    simp only [i311, hn, w32_id (z := (n : Int)) (by omega) (by omega), w32_id (z := (i : Int)) (by omega) (by omega)]
    refine OK_if (fun c => ?_) (fun c => ?_)
    · rw [OK_some, LQ_r]
      have : i = n := by omega
      subst this
      exact ⟨h7, h9, hf⟩
    · have c1 := b161 i
      rw [bitWork_in i (by omega) (by omega), OK_bindE, OK_some, i13]
      simp only [w32_id (z := m 161 i) (by omega) (by omega), w32_id (z := (k : Int)) (by omega) (by omega)]
      by_cases d : wkB m k i = true
      · have ev : m 161 i = (k : Int) := of_decide_eq_true d
        refine OK_gn (fun q => q ev) ?_
        rw [h7, put_eq 69 10 _ _ _ (by omega), OK_bindE, OK_some]
        simp only [w32_id (z := ((cnBt (wkB m k) i : Nat) : Int)) (by omega) (by omega)]
        have hgen : ∀ g : Hp, g = (if 0 ≤ ((cnBt (wkB m k) i : Nat) : Int) ∧ ((cnBt (wkB m k) i : Nat) : Int) < (10 : Nat) then setH h 69 ((cnBt (wkB m k) i : Nat) : Int).toNat (i : Int) else h) → g 66 5 = ((cnBt (wkB m k) i : Nat) : Int) ∧ (∀ p, p < cnBt (wkB m k) i + 1 → p < 10 → g 69 p = ((mthF (wkB m k) p (i + 1) : Nat) : Int)) ∧ (∀ j, g 70 j = h 70 j) ∧ ∀ e j, ¬ (e = 66 ∧ j = 5) → e ≠ 69 → e ≠ 70 → g e j = x e j := by
          intro g hg
          by_cases q : cnBt (wkB m k) i < 10
          · rw [if_pos (by omega), tn] at hg
            subst hg
            refine ⟨by rw [setH_o (by decide), h7], fun p hp1 hp2 => ?_, fun j => by rw [setH_o (by decide)], fun e j r1 r2 r3 => by rw [setH_o r2, hf e j r1 r2 r3]⟩
            by_cases e : p = cnBt (wkB m k) i
            · rw [e, setH_s, mthF_n d]
            · rw [setH_n e, (h9 p (by omega) hp2).1, mthF_o (by omega)]
          · rw [if_neg (by omega)] at hg
            subst hg
            exact ⟨h7, fun p hp1 hp2 => by rw [(h9 p (by omega) hp2).1, mthF_o (by omega)], fun _ => rfl, hf⟩
        obtain ⟨g1, g2, g3, g4⟩ := hgen _ rfl
        generalize (if 0 ≤ ((cnBt (wkB m k) i : Nat) : Int) ∧ ((cnBt (wkB m k) i : Nat) : Int) < (10 : Nat) then setH h 69 ((cnBt (wkB m k) i : Nat) : Int).toNat (i : Int) else h) = g at g1 g2 g3 g4 ⊢
        rw [g1, put_eq 70 10 _ _ _ (by omega), OK_bindE, OK_some]
        simp only [w32_id (z := ((cnBt (wkB m k) i : Nat) : Int)) (by omega) (by omega)]
        rw [OK_some, LQ_l]
        have hgen2 : ∀ u : Hp, u = (if 0 ≤ ((cnBt (wkB m k) i : Nat) : Int) ∧ ((cnBt (wkB m k) i : Nat) : Int) < (10 : Nat) then setH g 70 ((cnBt (wkB m k) i : Nat) : Int).toNat 0 else g) → u 66 5 = ((cnBt (wkB m k) i : Nat) : Int) ∧ (∀ p, p < cnBt (wkB m k) i + 1 → p < 10 → u 69 p = ((mthF (wkB m k) p (i + 1) : Nat) : Int) ∧ u 70 p = 0) ∧ ∀ e j, ¬ (e = 66 ∧ j = 5) → e ≠ 69 → e ≠ 70 → u e j = x e j := by
          intro u hu
          by_cases q : cnBt (wkB m k) i < 10
          · rw [if_pos (by omega), tn] at hu
            subst hu
            refine ⟨by rw [setH_o (by decide), g1], fun p hp1 hp2 => ⟨by rw [setH_o (by decide)]; exact g2 p hp1 hp2, ?_⟩, fun e j r1 r2 r3 => by rw [setH_o r3, g4 e j r1 r2 r3]⟩
            by_cases e : p = cnBt (wkB m k) i
            · rw [e, setH_s]
            · rw [setH_n e, g3, (h9 p (by omega) hp2).2]
          · rw [if_neg (by omega)] at hu
            subst hu
            exact ⟨g1, fun p hp1 hp2 => ⟨g2 p hp1 hp2, by rw [g3, (h9 p (by omega) hp2).2]⟩, g4⟩
        obtain ⟨u1, u2, u3⟩ := hgen2 _ rfl
        refine ⟨by omega, by omega, _, rfl, ?_, fun p hp1 hp2 => ?_, fun e j r1 r2 r3 => ?_⟩
        · rw [setH_s, u1, cnBt_t d]
          rfl
        · rw [cnBt_t d] at hp1
          rw [setH_o (by decide), setH_o (by decide)]
          exact u2 p hp1 hp2
        · rw [setH_f r1]
          exact u3 e j r1 r2 r3
      · have hf' : wkB m k i = false := by
          cases q : wkB m k i with
          | true => exact absurd q d
          | false => rfl
        refine OK_gd (of_decide_eq_false hf') ?_
        rw [OK_some, LQ_l]
        refine ⟨by omega, by omega, h, rfl, by rw [cnBt_n hf', h7], fun p hp1 hp2 => ?_, hf⟩
        rw [cnBt_n hf'] at hp1
        rw [mthF_o hp1]
        exact h9 p hp1 hp2
  · obtain ⟨h7, h9, hf⟩ := hh
    have cl := cnBt_le (wkB m k) n
    have mlt : ∀ p, p < cnBt (wkB m k) n → mthF (wkB m k) p n < n := fun p hp => (mthF_m n hp).2
    have mj : ∀ p q, p < cnBt (wkB m k) n → q < cnBt (wkB m k) n → mthF (wkB m k) p n = mthF (wkB m k) q n → p = q := fun p q h1 h2 h3 => mthF_j h1 h2 h3
    generalize hN : cnBt (wkB m k) n = N at h7 h9 cl mlt mj ⊢
    generalize hmem : (fun p => mthF (wkB m k) p n) = mem
    have em : ∀ p, mthF (wkB m k) p n = mem p := fun p => by rw [← hmem]
    simp only [em] at h9 mlt mj ⊢
    rw [OK_bindE]
    refine OK_mono (iter_up (fun q st => q ≤ P ∧ ∃ u : Hp, st = ((q : Int), u) ∧ (N ≤ 10 → ∀ a, a < N → BSt (u 70 a) (fun b => aheB m mem N q a b)) ∧ ∀ e j, e ≠ 70 → u e j = h e j) (fun u => (N ≤ 10 → ∀ a, a < N → BSt (u 70 a) (fun b => aheB m mem N P a b)) ∧ ∀ e j, e ≠ 70 → u e j = h e j) P (by omega) (fun q st hq hI => ?_) ⟨Nat.zero_le _, h, rfl, fun h10 a ha => ?_, fun _ _ _ => rfl⟩) (fun u hu => ?_)
    · obtain ⟨-, u, rfl, uB, uf⟩ := hI
      have u7 : u 66 5 = (N : Int) := by rw [uf 66 5 (by decide), h7]
      have u9 : ∀ p, p < N → p < 10 → u 69 p = ((mem p : Nat) : Int) := fun p p1 p2 => by rw [uf 69 p (by decide), (h9 p p1 p2).1]
      have u2 : u 66 2 = (P : Int) := by rw [uf 66 2 (by decide), hf 66 2 (by omega) (by decide) (by decide), o1]
      unfold X5_gather_l38 X5_gather_j77
      dsimp only
      simp only [u2, w32_id (z := (P : Int)) (by omega) (by omega), w32_id (z := (q : Int)) (by omega) (by omega), show w32 60 = 60 from rfl]
      refine OK_if (fun c => ?_) (fun c => OK_gn (by omega) (OK_gi (by omega) (by omega) (by omega) ?_))
      · rw [OK_some, LQ_r]
        have : q = P := by omega
        subst this
        exact ⟨uB, uf⟩
      · obtain ⟨⟨p1, p2⟩, p3, p4⟩ := o3 q (by omega)
        obtain ⟨i, ei⟩ := Int.eq_ofNat_of_zero_le p3.1
        obtain ⟨j, ej⟩ := Int.eq_ofNat_of_zero_le p4.1
        have e67 : u 67 q = (i : Int) := by rw [uf 67 q (by decide), hf 67 q (by omega) (by decide) (by decide), p1, ei]
        have e68 : u 68 q = (j : Int) := by rw [uf 68 q (by decide), hf 68 q (by omega) (by decide) (by decide), p2, ej]
        have same : (∀ a b, a < N → b < N → N ≤ 10 → ¬ (mem b = i ∧ mem a = j)) → LQ (fun (s' : Int × Hp) => q < P ∧ (q + 1 ≤ P ∧ ∃ u : Hp, s' = (((q + 1 : Nat) : Int), u) ∧ (N ≤ 10 → ∀ a, a < N → BSt (u 70 a) (fun b => aheB m mem N (q + 1) a b)) ∧ ∀ e j, e ≠ 70 → u e j = h e j)) (fun (u : Hp) => (N ≤ 10 → ∀ a, a < N → BSt (u 70 a) (fun b => aheB m mem N P a b)) ∧ ∀ e j, e ≠ 70 → u e j = h e j) (Sum.inl ((q : Int) + 1, u)) := by
          intro hno
          rw [LQ_l]
          refine ⟨by omega, by omega, u, rfl, fun h10 a ha => BSt_cg (fun b => ?_) (uB h10 a ha), uf⟩
          rw [aheB_s]
          by_cases hb : b < N
          · have : pqB m mem a b q = false := by
              unfold pqB
              exact decide_eq_false (fun r => hno a b ha hb h10 ⟨by omega, by omega⟩)
            rw [this, Bool.and_false, Bool.and_false, Bool.or_false]
          · rw [decide_eq_false hb, Bool.false_and, Bool.and_false, Bool.or_false]
        rw [tn, e67, OK_bindE]
        refine OK_mono (placeOf_s (i := i) rfl (by omega) u7 (by omega) u9 (fun p hp => by have := mlt p hp; omega)) (fun r7 hr7 => OK_gi (by omega) (by omega) (by omega) ?_)
        rw [e68, OK_bindE]
        refine OK_mono (placeOf_s (i := j) rfl (by omega) u7 (by omega) u9 (fun p hp => by have := mlt p hp; omega)) (fun r9 hr9 => ?_)
        rcases hr7 with ⟨rfl, n7⟩ | ⟨b, k1, k2, rfl, k3⟩
        · refine OK_gd rfl ?_
          rw [OK_some]
          exact same (fun a b ha hb h10 t => n7 b hb (by omega) t.1)
        · simp only [w32_id (z := (b : Int)) (by omega) (by omega), show w32 (-1) = -1 from rfl]
          refine OK_gn (by omega) ?_
          rcases hr9 with ⟨rfl, n9⟩ | ⟨a, l1, l2, rfl, l3⟩
          · refine OK_gd rfl ?_
            rw [OK_some]
            exact same (fun a b ha hb h10 t => n9 a ha (by omega) t.2)
          · simp only [w32_id (z := (a : Int)) (by omega) (by omega)]
            refine OK_gn (by omega) ?_
            rw [at_e (a := 70) (n := 10) a rfl (by omega) (by omega), OK_bindE, OK_some, put_e (a := 70) (n := 10) a rfl (by omega) (by omega), OK_bindE, OK_some, OK_some, LQ_l]
            refine ⟨by omega, by omega, _, rfl, fun h10 c hc => ?_, fun e j2 t => by rw [setH_o t, uf e j2 t]⟩
            by_cases e : c = a
            · subst e
              rw [setH_s]
              refine BSt_cg (fun b' => ?_) (BSt_or (uB h10 c hc) (BSt_sh (y := b) (by omega)))
              rw [aheB_s, decide_eq_true hc, Bool.true_and]
              by_cases e2 : b' = b
              · subst e2
                have : pqB m mem c b' q = true := by
                  unfold pqB
                  exact decide_eq_true ⟨by omega, by omega⟩
                rw [this, decide_eq_true k1, decide_eq_true rfl, Bool.and_true]
              · have : (decide (b' < N) && pqB m mem c b' q) = false := by
                  by_cases hb : b' < N
                  · have : pqB m mem c b' q = false := by
                      unfold pqB
                      exact decide_eq_false (fun r => e2 (mj b' b hb k1 (by omega)))
                    rw [this, Bool.and_false]
                  · rw [decide_eq_false hb, Bool.false_and]
                rw [this, decide_eq_false e2]
            · rw [setH_n e]
              refine BSt_cg (fun b' => ?_) (uB h10 c hc)
              rw [aheB_s]
              have : pqB m mem c b' q = false := by
                unfold pqB
                exact decide_eq_false (fun r => e (mj c a hc l1 (by omega)))
              rw [this, Bool.and_false, Bool.and_false, Bool.or_false]
    · rw [(h9 a ha (by omega)).2]
      exact BSt_cg (fun b => (aheB_0 m mem N a b).symm) BSt_0
    · rw [OK_some]
      obtain ⟨u1, u2⟩ := hu
      refine ⟨by rw [u2 66 5 (by decide), h7], fun p p1 p2 => by rw [u2 69 p (by decide), (h9 p p1 p2).1], u1, fun e j q1 q2 q3 => by rw [u2 e j q3, hf e j q1 q2 q3]⟩
