theorem keeps_s {x h : Hp} {t : Nat} {st : List Int} {v : Int} (hv : v = 0 ∨ v = 1) (g : XG x h t st) : OK (X10_keepsTop t v h) (fun z => (if st = [] ∨ (st.headD 0 = 0 ↔ v = 0) then z.1 = 1 ∧ XG x z.2 t st else z.1 = 0 ∧ XG x z.2 t st.tail) ∧ z.2 t 10 = h t 10) := by
  obtain ⟨g1, g2, g3, g4, g5⟩ := id g
  unfold X10_keepsTop X10_keepsTop_j19
  simp only [g1, w32_id (z := (st.length : Int)) (by omega) (by omega), w32_1, show w32 64 = 64 from rfl]
  by_cases c : st.length < 1
  · refine OK_gd (by omega) ?_
    have e : st = [] := List.eq_nil_of_length_eq_zero (by omega)
    rw [OK_some, if_pos (Or.inl e)]
    exact ⟨⟨rfl, g⟩, rfl⟩
  · refine OK_gn (by omega) (OK_gn (by omega) ?_)
    have ne : st ≠ [] := fun e => by subst e; exact c (by simp)
    refine OK_gi (by omega) (by omega) (by omega) ?_
    have hd := hd_bd g4
    rw [wtn (v := (st.length : Int) - 1) (st.length - 1) (by omega) (by omega), SKx_hd g3 (by omega), w32_id hd.1 hd.2]
    have gp : XG x (setH h t 9 ((st.length : Int) - 1)) t st.tail := by
      refine ⟨?_, ?_, ?_, ?_, ?_⟩
      · rw [setH_s, List.length_tail]
        omega
      · rw [List.length_tail]
        omega
      · exact SKx_cg _ (fun j _ => setH_f (by omega)) (SKx_tl g3)
      · exact fun z hz => g4 z (List.mem_of_mem_tail hz)
      · exact fun c j h1 h2 => (setH_f (by omega)).trans (g5 c j h1 h2)
    have g10 : setH h t 9 ((st.length : Int) - 1) t 10 = h t 10 := setH_n (by decide)
    rcases hv with e | e
    · subst e
      refine OK_if (fun d => ?_) (fun d => ?_)
      · refine OK_gn (fun q => q rfl) ?_
        rw [OK_some, if_pos (Or.inr ⟨fun _ => rfl, fun _ => d⟩)]
        exact ⟨⟨rfl, g⟩, rfl⟩
      · refine OK_gd (by decide) ?_
        rw [OK_some, if_neg (fun q => q.elim ne (fun r => d (r.mpr rfl)))]
        exact ⟨⟨rfl, gp⟩, g10⟩
    · subst e
      refine OK_if (fun d => ?_) (fun d => ?_)
      · refine OK_gd (by decide) ?_
        rw [OK_some, if_neg (fun q => q.elim ne (fun r => absurd (r.mp d) (by decide)))]
        exact ⟨⟨rfl, gp⟩, g10⟩
      · refine OK_gn (fun q => q rfl) ?_
        rw [OK_some, if_pos (Or.inr ⟨fun e => absurd e d, fun e => absurd e (by decide)⟩)]
        exact ⟨⟨rfl, g⟩, rfl⟩
/-- what a step does -/
def SX (x : Hp) (t : Nat) (r : Option (Nat × List Int)) (z : Int × Hp) : Prop := match r with
  | some s => z.1 = (s.1 : Int) ∧ XG x z.2 t s.2 ∧ z.2 t 10 = 0
  | none => z.2 t 10 = 1 ∧ (∀ c j, ¬ (c = t ∧ (j = 9 ∨ j = 10)) → c ≠ t + 7 → z.2 c j = x c j)
theorem step_s {x h : Hp} {t p n : Nat} {st : List Int} (hp : p < 160) (hpn : p < n) (hc : CKx (x (t + 4)) (x (t + 5)) n) (hl : ∀ j, -2147483648 ≤ x (t + 6) j ∧ x (t + 6) j < 2147483648) (g : XG x h t st) (g0 : h t 10 = 0) : OK (X10_step t (p : Int) h) (SX x t (xst (x (t + 4)) (x (t + 5)) (x (t + 6)) (p, st))) := by
  obtain ⟨g1, g2, g3, g4, g5⟩ := id g
  have k4 : h (t + 4) = x (t + 4) := funext fun j => g5 _ j (by omega) (by omega)
  have k5 : h (t + 5) = x (t + 5) := funext fun j => g5 _ j (by omega) (by omega)
  have k6 : h (t + 6) = x (t + 6) := funext fun j => g5 _ j (by omega) (by omega)
  obtain ⟨c1, c2, c3, c4⟩ := hc p hpn
  obtain ⟨o, eo⟩ := Int.eq_ofNat_of_zero_le c2.1
  unfold X10_step xst
  simp only [w32_id (z := (p : Int)) (by omega) (by omega), show w32 160 = 160 from rfl, if_inb (v := (p : Int)) (n := 160) (by omega) (by omega) (by omega), tn, k4, k5, w32_id (z := x (t + 4) p) (by omega) (by omega), eo]
  rw [if_neg (show ¬ (p : Int) < 0 by omega), if_pos (show (p : Int) < 160 by omega)]
  by_cases q1 : x (t + 4) p = 1
  · rw [if_pos q1, if_pos q1, OK_bindE]
    refine OK_mono (push_s (by omega) g) (fun h' hh => ?_)
    exact ⟨by show (p : Int) + 1 = ((p + 1 : Nat) : Int); omega, hh.1, hh.2.trans g0⟩
  rw [if_neg q1, if_neg q1]
  by_cases q2 : x (t + 4) p = 2
  · have := c3 q2
    rw [if_pos q2, if_pos q2, at_e o rfl (by omega) (by omega), OK_bindE, OK_some, OK_bindE, k6]
    refine OK_mono (push_s (hl o) g) (fun h' hh => ?_)
    exact ⟨by show (p : Int) + 1 = ((p + 1 : Nat) : Int); omega, hh.1, hh.2.trans g0⟩
  rw [if_neg q2, if_neg q2]
  by_cases q3 : x (t + 4) p = 33
  · rw [if_pos q3, if_pos q3, OK_bindE]
    refine OK_mono (pop_s g) (fun z hz => ?_)
    obtain ⟨z1, z2, z3⟩ := hz
    have hd := hd_bd g4
    unfold X10_step_j41
    rw [z1, w32_id hd.1 hd.2]
    refine OK_if (fun e => ?_) (fun e => ?_)
    · rw [OK_bindE, if_neg e]
      refine OK_mono (push_s (by omega) z2) (fun h' hh => ?_)
      exact ⟨by show (p : Int) + 1 = ((p + 1 : Nat) : Int); omega, hh.1, hh.2.trans (z3.trans g0)⟩
    · have e : st.headD 0 = 0 := by omega
      rw [OK_bindE, if_pos e]
      refine OK_mono (push_s (by omega) z2) (fun h' hh => ?_)
      exact ⟨by show (p : Int) + 1 = ((p + 1 : Nat) : Int); omega, hh.1, hh.2.trans (z3.trans g0)⟩
  rw [if_neg q3, if_neg q3]
  by_cases q4 : x (t + 4) p = 38
  · rw [if_pos q4, if_pos q4, OK_bindE]
    refine OK_mono (keeps_s (v := 0) (Or.inl rfl) g) (fun z hz => ?_)
    obtain ⟨z1, z2⟩ := hz
    by_cases e : st.headD 0 = 0
    · rw [if_pos (Or.inr ⟨fun _ => rfl, fun _ => e⟩)] at z1
      rw [if_pos e, z1.1]
      refine OK_gn (by decide) ?_
      exact ⟨rfl, z1.2, z2.trans g0⟩
    · have ne : st ≠ [] := fun q => by subst q; exact e rfl
      rw [if_neg (fun q => q.elim ne (fun r => e (r.mpr rfl)))] at z1
      rw [if_neg e, z1.1]
      refine OK_gd (by decide) ?_
      exact ⟨by show (p : Int) + 1 = ((p + 1 : Nat) : Int); omega, z1.2, z2.trans g0⟩
  rw [if_neg q4, if_neg q4]
  by_cases q5 : x (t + 4) p = 124
  · rw [if_pos q5, if_pos q5, OK_bindE]
    refine OK_mono (keeps_s (v := 1) (Or.inr rfl) g) (fun z hz => ?_)
    obtain ⟨z1, z2⟩ := hz
    by_cases e : st = [] ∨ st.headD 0 ≠ 0
    · have e2 : st = [] ∨ (st.headD 0 = 0 ↔ (1 : Int) = 0) := by
        rcases e with e | e
        · exact Or.inl e
        · exact Or.inr ⟨fun k => absurd k e, fun k => absurd k (by decide)⟩
      rw [if_pos e2] at z1
      rw [if_pos e, z1.1]
      refine OK_gn (by decide) ?_
      exact ⟨rfl, z1.2, z2.trans g0⟩
    · have e2 : ¬ (st = [] ∨ (st.headD 0 = 0 ↔ (1 : Int) = 0)) := by
        intro q
        rcases q with q | q
        · exact e (Or.inl q)
        · exact e (Or.inr (fun k => by have := q.mp k; omega))
      rw [if_neg e2] at z1
      rw [if_neg e, z1.1]
      refine OK_gd (by decide) ?_
      exact ⟨by show (p : Int) + 1 = ((p + 1 : Nat) : Int); omega, z1.2, z2.trans g0⟩
  rw [if_neg q5, if_neg q5, OK_bindE]
  refine OK_mono (pop_s g) (fun z hz => ?_)
  obtain ⟨z1, z2, z3⟩ := hz
  rw [OK_bindE]
  refine OK_mono (pop_s z2) (fun w hw => ?_)
  obtain ⟨w1, w2, w3⟩ := hw
  have hd := hd_bd g4
  have hd2 := hd_bd z2.2.2.2.1
  have kz : z.2 (t + 4) p = x (t + 4) p := z2.2.2.2.2 _ _ (by omega) (by omega)
  rw [z1, w1, kz, joined_s c1 hd2 hd]
  cases ej : jnO (x (t + 4) p) (st.tail.headD 0) (st.headD 0) with
  | none =>
    rw [OK_bindE, OK_some, OK_bindE]
    have gw : XG x (setH w.2 t 10 1) t st.tail.tail := by
      obtain ⟨y1, y2, y3, y4, y5⟩ := w2
      exact ⟨(setH_n (by decide)).trans y1, y2, SKx_cg _ (fun j _ => setH_f (by omega)) y3, y4, fun c j h1 h2 => (setH_f (by omega)).trans (y5 c j h1 h2)⟩
    refine OK_mono (push_s (by omega) gw) (fun h' hh => ?_)
    exact ⟨hh.2.trans setH_s, hh.1.2.2.2.2⟩
  | some y =>
    rw [OK_bindE, OK_some, OK_bindE]
    refine OK_mono (push_s (jnO_bd ej) w2) (fun h' hh => ?_)
    exact ⟨by show (p : Int) + 1 = ((p + 1 : Nat) : Int); omega, hh.1, hh.2.trans (w3.trans (z3.trans g0))⟩
/-- what the steps from a to e come to: 0 if refused -/
def xval (kd op ρ : Nat → Int) (a e : Nat) : Int := match xrn kd op ρ e 160 (a, []) with
  | some st => st.headD 0
  | none => 0
theorem xst_pl {kd op ρ : Nat → Int} {p : Nat} {st : List Int} {s : Nat × List Int} {n : Nat} (hc : CKx kd op n) (hpn : p < n) (hp : p < 160) (h : xst kd op ρ (p, st) = some s) : s.1 ≤ 160 := by
  obtain ⟨c1, c2, c3, c4⟩ := hc p hpn
  unfold xst at h
  dsimp only at h
  split at h
  · cases h
    show p + 1 ≤ 160
    omega
  split at h
  · cases h
    show p + 1 ≤ 160
    omega
  split at h
  · cases h
    show p + 1 ≤ 160
    omega
  split at h
  · rename_i k
    have := c4 (Or.inl k)
    split at h
    · cases h
      show (op p).toNat ≤ 160
      omega
    · cases h
      show p + 1 ≤ 160
      omega
  split at h
  · rename_i k
    have := c4 (Or.inr k)
    split at h
    · cases h
      show (op p).toNat ≤ 160
      omega
    · cases h
      show p + 1 ≤ 160
      omega
  cases ej : jnO (kd p) (st.tail.headD 0) (st.headD 0) with
  | none =>
    rw [ej] at h
    cases h
  | some y =>
    rw [ej] at h
    cases h
    show p + 1 ≤ 160
    omega
theorem run_s {x : Hp} {t a e : Nat} (ha : a ≤ 160) (he : e ≤ 160) (hc : CKx (x (t + 4)) (x (t + 5)) e) (hl : ∀ j, -2147483648 ≤ x (t + 6) j ∧ x (t + 6) j < 2147483648) : OK (X10_run t (a : Int) (e : Int) x) (fun z => z.1 = xval (x (t + 4)) (x (t + 5)) (x (t + 6)) a e ∧ (∀ c j, ¬ (c = t ∧ (j = 9 ∨ j = 10)) → c ≠ t + 7 → z.2 c j = x c j)) := by
  unfold X10_run
  rw [OK_bindE]
  have L : OK (iter (X10_run_l10 t (e : Int)) FU ((a : Int), 0, setH (setH x t 9 0) t 10 0)) (fun z => (∃ h, z = Sum.inl h ∧ xrn (x (t + 4)) (x (t + 5)) (x (t + 6)) e 160 (a, []) = none ∧ (∀ c j, ¬ (c = t ∧ (j = 9 ∨ j = 10)) → c ≠ t + 7 → h c j = x c j)) ∨ (∃ h st, z = Sum.inr h ∧ xrn (x (t + 4)) (x (t + 5)) (x (t + 6)) e 160 (a, []) = some st ∧ XG x h t st)) := by
    refine iter_up (fun n s => n ≤ 160 ∧ ∃ (p : Nat) (st : List Int) (h : Hp), s = ((p : Int), (n : Int), h) ∧ XG x h t st ∧ h t 10 = 0 ∧ xrn (x (t + 4)) (x (t + 5)) (x (t + 6)) e 160 (a, []) = xrn (x (t + 4)) (x (t + 5)) (x (t + 6)) e (160 - n) (p, st) ∧ p ≤ 160) _ 160 (by omega) (fun n s hn hI => ?_) ⟨by omega, a, [], _, rfl, ⟨?_, by simp, trivial, fun z hz => (by cases hz), fun c j h1 h2 => (setH_f (by omega)).trans (setH_f (by omega))⟩, setH_s, rfl, ha⟩
    · obtain ⟨-, p, st, h, rfl, g, g0, ex, hp⟩ := hI
      unfold X10_run_l10
      (try dsimp only)
      simp only [w32_id (z := (n : Int)) (by omega) (by omega), w32_id (z := (p : Int)) (by omega) (by omega), w32_id (z := (e : Int)) (by omega) (by omega), show w32 160 = 160 from rfl]
      by_cases q : n = 160
      · refine OK_gd (by omega) ?_
        rw [OK_some, LQ_r]
        subst q
        exact Or.inr ⟨h, st, rfl, ex, g⟩
      · refine OK_gn (by omega) ?_
        rw [show 160 - n = (159 - n) + 1 by omega] at ex
        by_cases q2 : e ≤ p
        · refine OK_gd (by omega) ?_
          rw [OK_some, LQ_r]
          refine Or.inr ⟨h, st, rfl, ?_, g⟩
          rw [ex]
          unfold xrn
          rw [if_pos q2]
        · refine OK_gn (by omega) ?_
          rw [OK_bindE]
          refine OK_mono (step_s (by omega) (by omega) hc hl g g0) (fun z hz => ?_)
          have ex2 : xrn (x (t + 4)) (x (t + 5)) (x (t + 6)) e 160 (a, []) = (xst (x (t + 4)) (x (t + 5)) (x (t + 6)) (p, st)).bind (xrn (x (t + 4)) (x (t + 5)) (x (t + 6)) e (159 - n)) := by
            rw [ex]
            show (if e ≤ p then some st else _) = _
            rw [if_neg q2]
          cases es : xst (x (t + 4)) (x (t + 5)) (x (t + 6)) (p, st) with
          | none =>
            rw [es] at hz ex2
            obtain ⟨z1, z2⟩ := hz
            rw [z1]
            refine OK_gn (by decide) ?_
            rw [OK_some, LQ_r]
            exact Or.inl ⟨z.2, rfl, ex2, z2⟩
          | some s =>
            rw [es] at hz ex2
            obtain ⟨z1, z2, z3⟩ := hz
            rw [z3]
            refine OK_gd (by decide) ?_
            rw [OK_some, LQ_l]
            refine ⟨by omega, by omega, s.1, s.2, z.2, by rw [z1]; rfl, z2, z3, ?_, xst_pl hc (by omega) (by omega) es⟩
            rw [ex2, show 160 - (n + 1) = 159 - n by omega]
            rfl
    · rw [setH_n (by decide), setH_s]
      rfl
  refine OK_mono L (fun z hz => ?_)
  unfold xval
  rcases hz with ⟨h, rfl, ex, fr⟩ | ⟨h, st, rfl, ex, g⟩
  · rw [ex]
    exact ⟨rfl, fr⟩
  · rw [ex]
    dsimp only
    rw [OK_bindE]
    refine OK_mono (pop_s g) (fun z hz => ?_)
    exact ⟨hz.1, hz.2.1.2.2.2.2⟩
