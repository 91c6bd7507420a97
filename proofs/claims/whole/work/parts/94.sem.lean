/-! WHAT A TEXT COMES TO, told once for both sides: none if something is divided by 0 -/
abbrev Den : Type := (Nat → Int) → Option Int
def vBin (k : Int) (v w : Den) : Den := fun ρ => match v ρ with
  | some a => (match w ρ with
    | some b => jnO k a b
    | none => none)
  | none => none
def vNot (v : Den) : Den := fun ρ => (v ρ).map (fun a => if a = 0 then 1 else 0)
def vAnd (v w : Den) : Den := fun ρ => match v ρ with
  | some a => if a = 0 then some a else w ρ
  | none => none
def vOr (v w : Den) : Den := fun ρ => match v ρ with
  | some a => if a ≠ 0 then some a else w ρ
  | none => none
/-- from a to b the one side's steps come to v -/
def XS (kd op : Nat → Int) (a b nd : Nat) (v : Den) : Prop := a ≤ b ∧ ∀ kd' op' : Nat → Int, (∀ p, a ≤ p → p < b → kd' p = kd p ∧ op' p = op p) → ∀ (ρ : Nat → Int) (st : List Int) (e : Nat), b ≤ e → st.length + nd ≤ 64 → ∃ n0, n0 ≤ b - a ∧ ((∃ z, v ρ = some z ∧ ∀ n, xrn kd' op' ρ e (n0 + n) (a, st) = xrn kd' op' ρ e n (b, z :: st)) ∨ (v ρ = none ∧ ∀ n, xrn kd' op' ρ e (n0 + n) (a, st) = none))
theorem XS_cg {kd op kd' op' : Nat → Int} {a b nd : Nat} {v : Den} (h : ∀ p, a ≤ p → p < b → kd' p = kd p ∧ op' p = op p) (s : XS kd op a b nd v) : XS kd' op' a b nd v :=
  ⟨s.1, fun kd2 op2 h2 => s.2 kd2 op2 (fun p h3 h4 => ⟨(h2 p h3 h4).1.trans (h p h3 h4).1, (h2 p h3 h4).2.trans (h p h3 h4).2⟩)⟩
theorem XS_mono {kd op : Nat → Int} {a b nd nd' : Nat} {v : Den} (h : nd ≤ nd') (s : XS kd op a b nd v) : XS kd op a b nd' v :=
  ⟨s.1, fun kd2 op2 h2 ρ st e he hs => s.2 kd2 op2 h2 ρ st e he (by omega)⟩
theorem xrn_st {kd op ρ : Nat → Int} {e n : Nat} {s t : Nat × List Int} (h : s.1 < e) (hs : xst kd op ρ s = some t) : xrn kd op ρ e (1 + n) s = xrn kd op ρ e n t := by
  rw [Nat.add_comm]
  show (if e ≤ s.1 then some s.2 else (xst kd op ρ s).bind (xrn kd op ρ e n)) = _
  rw [if_neg (by omega), hs]
  rfl
theorem xrn_no {kd op ρ : Nat → Int} {e n : Nat} {s : Nat × List Int} (h : s.1 < e) (hs : xst kd op ρ s = none) : xrn kd op ρ e (1 + n) s = none := by
  rw [Nat.add_comm]
  show (if e ≤ s.1 then some s.2 else (xst kd op ρ s).bind (xrn kd op ρ e n)) = _
  rw [if_neg (by omega), hs]
  rfl
theorem psh_lt {z : Int} {st : List Int} (h : st.length < 64) : psh z st = z :: st := if_pos h
theorem XS_num {kd op : Nat → Int} {a : Nat} {z : Int} (h1 : kd a = 1) (h2 : op a = z) : XS kd op a (a + 1) 1 (fun _ => some z) := by
  refine ⟨by omega, fun kd' op' h ρ st e he hs => ⟨1, by omega, Or.inl ⟨z, rfl, fun n => xrn_st (by show a < e; omega) ?_⟩⟩⟩
  obtain ⟨k1, k2⟩ := h a (Nat.le_refl _) (by omega)
  unfold xst
  rw [if_pos (by show kd' a = 1; rw [k1, h1])]
  show some (a + 1, psh (op' a) st) = _
  rw [k2, h2, psh_lt (by omega)]
theorem XS_let {kd op : Nat → Int} {a j : Nat} (h1 : kd a = 2) (h2 : op a = (j : Int)) : XS kd op a (a + 1) 1 (fun ρ => some (ρ j)) := by
  refine ⟨by omega, fun kd' op' h ρ st e he hs => ⟨1, by omega, Or.inl ⟨ρ j, rfl, fun n => xrn_st (by show a < e; omega) ?_⟩⟩⟩
  obtain ⟨k1, k2⟩ := h a (Nat.le_refl _) (by omega)
  unfold xst
  rw [if_neg (by show ¬ kd' a = 1; omega), if_pos (by show kd' a = 2; rw [k1, h1])]
  show some (a + 1, psh (ρ (op' a).toNat) st) = _
  rw [k2, h2, psh_lt (by omega)]
  rfl
theorem XS_bin {kd op : Nat → Int} {a b q n1 n2 nd : Nat} {v w : Den} (s1 : XS kd op a b n1 v) (s2 : XS kd op b q n2 w) (hk : kd q ≠ 1 ∧ kd q ≠ 2 ∧ kd q ≠ 33 ∧ kd q ≠ 38 ∧ kd q ≠ 124) (hn : n1 ≤ nd ∧ n2 + 1 ≤ nd) : XS kd op a (q + 1) nd (vBin (kd q) v w) := by
  refine ⟨by have := s1.1; have := s2.1; omega, fun kd' op' h ρ st e he hs => ?_⟩
  have l1 := s1.1
  have l2 := s2.1
  obtain ⟨c1, hc1, r1⟩ := s1.2 kd' op' (fun p h1 h2 => h p h1 (by omega)) ρ st e (by omega) (by omega)
  rcases r1 with ⟨x, e1, r1⟩ | ⟨e1, r1⟩
  · obtain ⟨c2, hc2, r2⟩ := s2.2 kd' op' (fun p h1 h2 => h p (by omega) (by omega)) ρ (x :: st) e (by omega) (by show st.length + 1 + n2 ≤ 64; omega)
    rcases r2 with ⟨y, e2, r2⟩ | ⟨e2, r2⟩
    · refine ⟨c1 + (c2 + 1), by omega, ?_⟩
      obtain ⟨k1, k2⟩ := h q (by omega) (by omega)
      have ev : vBin (kd q) v w ρ = jnO (kd q) x y := by
        unfold vBin
        rw [e1]
        dsimp only
        rw [e2]
      have es : xst kd' op' ρ (q, y :: x :: st) = (jnO (kd q) x y).map (fun z => (q + 1, psh z st)) := by
        unfold xst
        dsimp only
        rw [k1, if_neg hk.1, if_neg hk.2.1, if_neg hk.2.2.1, if_neg hk.2.2.2.1, if_neg hk.2.2.2.2]
        rfl
      cases ej : jnO (kd q) x y with
      | none =>
        refine Or.inr ⟨ev.trans ej, fun n => ?_⟩
        rw [Nat.add_assoc, r1, Nat.add_assoc, r2]
        exact xrn_no (by show q < e; omega) (by rw [es, ej]; rfl)
      | some z =>
        refine Or.inl ⟨z, ev.trans ej, fun n => ?_⟩
        rw [Nat.add_assoc, r1, Nat.add_assoc, r2]
        refine xrn_st (by show q < e; omega) ?_
        rw [es, ej]
        show some (q + 1, psh z st) = _
        rw [psh_lt (by omega)]
    · refine ⟨c1 + c2, by omega, Or.inr ⟨?_, fun n => ?_⟩⟩
      · unfold vBin
        rw [e1]
        dsimp only
        rw [e2]
      · rw [Nat.add_assoc, r1, r2]
  · refine ⟨c1, by omega, Or.inr ⟨?_, r1⟩⟩
    unfold vBin
    rw [e1]
theorem XS_not {kd op : Nat → Int} {a b nd : Nat} {v : Den} (s1 : XS kd op a b nd v) (hk : kd b = 33) (hn : 1 ≤ nd) : XS kd op a (b + 1) nd (vNot v) := by
  refine ⟨by have := s1.1; omega, fun kd' op' h ρ st e he hs => ?_⟩
  have l1 := s1.1
  obtain ⟨c1, hc1, r1⟩ := s1.2 kd' op' (fun p h1 h2 => h p h1 (by omega)) ρ st e (by omega) (by omega)
  rcases r1 with ⟨x, e1, r1⟩ | ⟨e1, r1⟩
  · obtain ⟨k1, k2⟩ := h b (by omega) (by omega)
    refine ⟨c1 + 1, by omega, Or.inl ⟨if x = 0 then 1 else 0, by unfold vNot; rw [e1]; rfl, fun n => ?_⟩⟩
    rw [Nat.add_assoc, r1]
    refine xrn_st (by show b < e; omega) ?_
    unfold xst
    dsimp only
    rw [k1, hk, if_neg (by decide), if_neg (by decide), if_pos rfl]
    show some (b + 1, psh (if x = 0 then 1 else 0) st) = _
    rw [psh_lt (by omega)]
  · exact ⟨c1, by omega, Or.inr ⟨by unfold vNot; rw [e1]; rfl, r1⟩⟩
theorem XS_and {kd op : Nat → Int} {a b q nd : Nat} {v w : Den} (s1 : XS kd op a b nd v) (s2 : XS kd op (b + 1) q nd w) (hk : kd b = 38) (ho : op b = (q : Int)) : XS kd op a q nd (vAnd v w) := by
  refine ⟨by have := s1.1; have := s2.1; omega, fun kd' op' h ρ st e he hs => ?_⟩
  have l1 := s1.1
  have l2 := s2.1
  obtain ⟨c1, hc1, r1⟩ := s1.2 kd' op' (fun p h1 h2 => h p h1 (by omega)) ρ st e (by omega) (by omega)
  rcases r1 with ⟨x, e1, r1⟩ | ⟨e1, r1⟩
  · obtain ⟨k1, k2⟩ := h b (by omega) (by omega)
    have es : xst kd' op' ρ (b, x :: st) = if x = 0 then some (q, x :: st) else some (b + 1, st) := by
      unfold xst
      dsimp only
      rw [k1, hk, if_neg (by decide), if_neg (by decide), if_neg (by decide), if_pos rfl, k2, ho]
      rfl
    by_cases ex : x = 0
    · refine ⟨c1 + 1, by omega, Or.inl ⟨x, by unfold vAnd; rw [e1]; exact if_pos ex, fun n => ?_⟩⟩
      rw [Nat.add_assoc, r1]
      exact xrn_st (by show b < e; omega) (by rw [es, if_pos ex])
    · obtain ⟨c2, hc2, r2⟩ := s2.2 kd' op' (fun p h1 h2 => h p (by omega) (by omega)) ρ st e (by omega) hs
      have ev : vAnd v w ρ = w ρ := by unfold vAnd; rw [e1]; exact if_neg ex
      refine ⟨c1 + (1 + c2), by omega, ?_⟩
      rcases r2 with ⟨y, e2, r2⟩ | ⟨e2, r2⟩
      · refine Or.inl ⟨y, ev.trans e2, fun n => ?_⟩
        rw [Nat.add_assoc, r1, Nat.add_assoc, xrn_st (by show b < e; omega) (by rw [es, if_neg ex]), r2]
      · refine Or.inr ⟨ev.trans e2, fun n => ?_⟩
        rw [Nat.add_assoc, r1, Nat.add_assoc, xrn_st (by show b < e; omega) (by rw [es, if_neg ex]), r2]
  · exact ⟨c1, by omega, Or.inr ⟨by unfold vAnd; rw [e1], r1⟩⟩
theorem XS_or {kd op : Nat → Int} {a b q nd : Nat} {v w : Den} (s1 : XS kd op a b nd v) (s2 : XS kd op (b + 1) q nd w) (hk : kd b = 124) (ho : op b = (q : Int)) : XS kd op a q nd (vOr v w) := by
  refine ⟨by have := s1.1; have := s2.1; omega, fun kd' op' h ρ st e he hs => ?_⟩
  have l1 := s1.1
  have l2 := s2.1
  obtain ⟨c1, hc1, r1⟩ := s1.2 kd' op' (fun p h1 h2 => h p h1 (by omega)) ρ st e (by omega) (by omega)
  rcases r1 with ⟨x, e1, r1⟩ | ⟨e1, r1⟩
  · obtain ⟨k1, k2⟩ := h b (by omega) (by omega)
    have es : xst kd' op' ρ (b, x :: st) = if x ≠ 0 then some (q, x :: st) else some (b + 1, st) := by
      unfold xst
      dsimp only
      rw [k1, hk, if_neg (by decide), if_neg (by decide), if_neg (by decide), if_neg (by decide), if_pos rfl, k2, ho]
      by_cases ex : x ≠ 0
      · rw [if_pos (show x :: st = [] ∨ (x :: st).headD 0 ≠ 0 from Or.inr ex), if_pos ex]
        rfl
      · rw [if_neg (show ¬ (x :: st = [] ∨ (x :: st).headD 0 ≠ 0) from fun z => z.elim (fun q => by cases q) ex), if_neg ex]
        rfl
    by_cases ex : x ≠ 0
    · refine ⟨c1 + 1, by omega, Or.inl ⟨x, by unfold vOr; rw [e1]; exact if_pos ex, fun n => ?_⟩⟩
      rw [Nat.add_assoc, r1]
      exact xrn_st (by show b < e; omega) (by rw [es, if_pos ex])
    · obtain ⟨c2, hc2, r2⟩ := s2.2 kd' op' (fun p h1 h2 => h p (by omega) (by omega)) ρ st e (by omega) hs
      have ev : vOr v w ρ = w ρ := by unfold vOr; rw [e1]; exact if_neg ex
      refine ⟨c1 + (1 + c2), by omega, ?_⟩
      rcases r2 with ⟨y, e2, r2⟩ | ⟨e2, r2⟩
      · refine Or.inl ⟨y, ev.trans e2, fun n => ?_⟩
        rw [Nat.add_assoc, r1, Nat.add_assoc, xrn_st (by show b < e; omega) (by rw [es, if_neg ex]), r2]
      · refine Or.inr ⟨ev.trans e2, fun n => ?_⟩
        rw [Nat.add_assoc, r1, Nat.add_assoc, xrn_st (by show b < e; omega) (by rw [es, if_neg ex]), r2]
  · exact ⟨c1, by omega, Or.inr ⟨by unfold vOr; rw [e1], r1⟩⟩
theorem xval_of {kd op : Nat → Int} {a e nd : Nat} {v : Den} (s : XS kd op a e nd v) (hn : nd ≤ 64) (hl : e - a ≤ 160) (ρ : Nat → Int) : xval kd op ρ a e = (v ρ).getD 0 := by
  obtain ⟨c, hc, r⟩ := s.2 kd op (fun _ _ _ => ⟨rfl, rfl⟩) ρ [] e (Nat.le_refl _) (by simpa using hn)
  unfold xval
  rw [show 160 = c + (160 - c) by omega]
  rcases r with ⟨z, e1, r⟩ | ⟨e1, r⟩
  · rw [r, e1]
    have : xrn kd op ρ e (160 - c) (e, [z]) = some [z] := by
      cases 160 - c with
      | zero => rfl
      | succ n =>
        show (if e ≤ e then _ else _) = _
        rw [if_pos (Nat.le_refl _)]
    rw [this]
    rfl
  · rw [r, e1]
    rfl
