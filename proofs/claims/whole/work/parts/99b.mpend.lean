/-! WHAT WAITS ON THE STACK -/
section PEND
variable (H L : Int → Prop) (opd : Int → Den → Den → Den) (C : Prop)
/-- a product (an and) that may wait for one sign -/
def TPm (h : Hp) (a k : Nat) (pd : List Int) (v : Den) : Prop := (pd = [] ∧ MS (h 177) (h 178) a k v C) ∨ ∃ (c : Int) (b : Nat) (v1 v2 : Den), pd = [c] ∧ H c ∧ MS (h 177) (h 178) a b v1 C ∧ MS (h 177) (h 178) b k v2 C ∧ v = opd c v1 v2
/-- a sum (an or) that may wait for two -/
def SPm (h : Hp) (a k : Nat) (pd : List Int) (v : Den) : Prop := TPm H opd C h a k pd v ∨ ∃ (c : Int) (b : Nat) (v1 v2 : Den) (tp : List Int), pd = tp ++ [c] ∧ L c ∧ MS (h 177) (h 178) a b v1 C ∧ TPm H opd C h b k tp v2 ∧ v = opd c v1 v2
end PEND
theorem TPm_cg {H : Int → Prop} {opd : Int → Den → Den → Den} {C : Prop} {h h' : Hp} {a k : Nat} {pd : List Int} {v : Den} (e : KPm h h' k) (t : TPm H opd C h a k pd v) : TPm H opd C h' a k pd v := by
  rcases t with ⟨e1, m⟩ | ⟨c, b, v1, v2, e1, hc, m1, m2, ev⟩
  · exact Or.inl ⟨e1, MS_cg (fun p _ h2 => e p h2) m⟩
  · have l2 := m2.1
    exact Or.inr ⟨c, b, v1, v2, e1, hc, MS_cg (fun p _ h2 => e p (by omega)) m1, MS_cg (fun p _ h2 => e p h2) m2, ev⟩
theorem TPm_le {H : Int → Prop} {opd : Int → Den → Den → Den} {C : Prop} {h : Hp} {a k : Nat} {pd : List Int} {v : Den} (t : TPm H opd C h a k pd v) : a ≤ k := by
  rcases t with ⟨e1, m⟩ | ⟨c, b, v1, v2, e1, hc, m1, m2, ev⟩
  · exact m.1
  · have := m1.1
    have := m2.1
    omega
theorem SPm_cg {H L : Int → Prop} {opd : Int → Den → Den → Den} {C : Prop} {h h' : Hp} {a k : Nat} {pd : List Int} {v : Den} (e : KPm h h' k) (t : SPm H L opd C h a k pd v) : SPm H L opd C h' a k pd v := by
  rcases t with t | ⟨c, b, v1, v2, tp, e1, hc, m1, m2, ev⟩
  · exact Or.inl (TPm_cg e t)
  · have l2 := TPm_le m2
    exact Or.inr ⟨c, b, v1, v2, tp, e1, hc, MS_cg (fun p _ h2 => e p (by omega)) m1, TPm_cg e m2, ev⟩
/-- all that waits becomes steps -/
theorem pend_m {H L : Int → Prop} {opd : Int → Den → Den → Den} {C : Prop} {n p k d a : Nat} {B : Nat → Int} {h : Hp} {pd st : List Int} {v : Den} {g : Hp → Option (Hp ⊕ Hp)} {fl : Bool} (hb : ∀ (cd ar : Nat → Int) (a b q : Nat) (v w : Den), (H (cd q) ∨ L (cd q)) → MS cd ar a b v C → MS cd ar b q w C → MS cd ar a (q + 1) (opd (cd q) v w) C)
    (hg1 : ∀ (h : Hp) (k : Nat) (c : Int) (s : List Int), PM h n B p k d (c :: s) → (H c ∨ (fl = true ∧ L c)) → g h = (X12_emit c 0 h).bind fun r4 => some (.inl (setH r4 150 40 ((r4 150 40) - 1))))
    (hg2 : ∀ (h : Hp) (k : Nat), PM h n B p k d st → g h = some (.inr h))
    (P : PM h n B p k d (pd ++ st)) (t : if fl = true then SPm H L opd C h a k pd v else TPm H opd C h a k pd v) : OK (iter g FU h) (fun h' => ∃ k', PM h' n B p k' d st ∧ k ≤ k' ∧ F3 h h' ∧ KPm h h' k ∧ MS (h' 177) (h' 178) a k' v C) := by
  refine iter_dn (fun m s => ∃ (pd' : List Int) (k' : Nat), m = pd'.length ∧ PM s n B p k' d (pd' ++ st) ∧ k ≤ k' ∧ F3 h s ∧ KPm h s k ∧ (if fl = true then SPm H L opd C s a k' pd' v else TPm H opd C s a k' pd' v)) _ (fun m s hI => ?_) pd.length (by have := P.2.1; simp at this; omega) ⟨pd, k, rfl, P, Nat.le_refl _, F3_rf, fun _ _ => ⟨rfl, rfl⟩, t⟩
  obtain ⟨pd', k', rfl, P', hk, f, kp, t'⟩ := hI
  have step : ∀ (c : Int) (tl : List Int), pd' = c :: tl → (H c ∨ (fl = true ∧ L c)) → (∀ h', KPm s h' k' → h' 177 k' = c → (if fl = true then SPm H L opd C h' a (k' + 1) tl v else TPm H opd C h' a (k' + 1) tl v)) → OK (g s) (LQ (fun s' => ∃ m, m < pd'.length ∧ ∃ (pd' : List Int) (k' : Nat), m = pd'.length ∧ PM s' n B p k' d (pd' ++ st) ∧ k ≤ k' ∧ F3 h s' ∧ KPm h s' k ∧ (if fl = true then SPm H L opd C s' a k' pd' v else TPm H opd C s' a k' pd' v)) (fun h' => ∃ k', PM h' n B p k' d st ∧ k ≤ k' ∧ F3 h h' ∧ KPm h h' k ∧ MS (h' 177) (h' 178) a k' v C)) := by
    intro c tl e hc hn
    subst e
    rw [hg1 s k' c (tl ++ st) P' hc]
    have P2 : PM s n B p k' d (c :: (tl ++ st)) := P'
    obtain ⟨z, ez, z1, z2, z3, z4⟩ := OK_ex (pop_m (v := c) P2 (P2.2.2.2.1.2 c List.mem_cons_self))
    cases em : X12_emit c 0 s with
    | none =>
      rw [em] at ez
      cases ez
    | some y =>
      rw [em] at ez
      have ez' : setH y 150 40 ((y 150 40) - 1) = z := Option.some.inj ez
      rw [OK_bindE, OK_some, OK_some, LQ_l, ez']
      exact ⟨tl.length, by simp, tl, k' + 1, rfl, z1, by omega, F3_tr f z2, KP_tr kp z3 hk, hn z z3 z4⟩
  have TT : ∀ (a : Nat) (c : Int) (b : Nat) (v v1 v2 : Den), H c → MS (s 177) (s 178) a b v1 C → MS (s 177) (s 178) b k' v2 C → v = opd c v1 v2 → ∀ h', KPm s h' k' → h' 177 k' = c → MS (h' 177) (h' 178) a (k' + 1) v C := by
    intro a c b v v1 v2 hc m1 m2 ev h' kk e
    have l2 := m2.1
    have := hb (h' 177) (h' 178) a b k' v1 v2 (Or.inl (by rw [e]; exact hc)) (MS_cg (fun p _ h2 => kk p (by omega)) m1) (MS_cg (fun p _ h2 => kk p h2) m2)
    rw [e] at this
    rw [ev]
    exact this
  have T : TPm H opd C s a k' pd' v → OK (g s) (LQ (fun s' => ∃ m, m < pd'.length ∧ ∃ (pd' : List Int) (k' : Nat), m = pd'.length ∧ PM s' n B p k' d (pd' ++ st) ∧ k ≤ k' ∧ F3 h s' ∧ KPm h s' k ∧ (if fl = true then SPm H L opd C s' a k' pd' v else TPm H opd C s' a k' pd' v)) (fun h' => ∃ k', PM h' n B p k' d st ∧ k ≤ k' ∧ F3 h h' ∧ KPm h h' k ∧ MS (h' 177) (h' 178) a k' v C)) := by
    intro t
    rcases t with ⟨e1, m⟩ | ⟨c, b, v1, v2, e1, hc, m1, m2, ev⟩
    · subst e1
      rw [hg2 s k' P', OK_some, LQ_r]
      exact ⟨k', P', hk, f, kp, m⟩
    · refine step c [] e1 (Or.inl hc) (fun h' kk e => ?_)
      have r : TPm H opd C h' a (k' + 1) [] v := Or.inl ⟨rfl, TT a c b v v1 v2 hc m1 m2 ev h' kk e⟩
      split
      · exact Or.inl r
      · exact r
  by_cases hf : fl = true
  · rw [if_pos hf] at t'
    rcases t' with t' | ⟨c, b, v1, v2, tp, e1, hc, m1, m2, ev⟩
    · exact T t'
    · rcases m2 with ⟨e2, m⟩ | ⟨c2, b2, w1, w2, e2, hc2, n1, n2, ew⟩
      · subst e2
        refine step c [] e1 (Or.inr ⟨hf, hc⟩) (fun h' kk e => ?_)
        rw [if_pos hf]
        refine Or.inl (Or.inl ⟨rfl, ?_⟩)
        have l2 := m.1
        have := hb (h' 177) (h' 178) a b k' v1 v2 (Or.inr (by rw [e]; exact hc)) (MS_cg (fun p _ h2 => kk p (by omega)) m1) (MS_cg (fun p _ h2 => kk p h2) m)
        rw [e] at this
        rw [ev]
        exact this
      · subst e2
        refine step c2 [c] e1 (Or.inl hc2) (fun h' kk e => ?_)
        rw [if_pos hf]
        have l1 := n1.1
        have l2 := n2.1
        exact Or.inr ⟨c, b, v1, v2, [], rfl, hc, MS_cg (fun p _ h2 => kk p (by omega)) m1, Or.inl ⟨rfl, TT b c2 b2 v2 w1 w2 hc2 n1 n2 ew h' kk e⟩, ev⟩
  · rw [if_neg hf] at t'
    exact T t'
