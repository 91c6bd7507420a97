/-! THE MODEL READS A C -/
def F6 (h h' : Hp) : Prop := ∀ c j, ¬ (c = 150 ∧ (j = 34 ∨ j = 36 ∨ (38 ≤ j ∧ j ≤ 42))) → c ≠ 177 → c ≠ 178 → c ≠ 179 → h' c j = h c j
theorem F6_rf {h : Hp} : F6 h h := fun _ _ _ _ _ _ => rfl
theorem F6_tr {a b c : Hp} (f : F6 a b) (g : F6 b c) : F6 a c := fun x j h1 h2 h3 h4 => (g x j h1 h2 h3 h4).trans (f x j h1 h2 h3 h4)
theorem F6_5 {a b : Hp} (f : F5 a b) : F6 a b := fun x j h1 h2 h3 h4 => f x j (by omega) h2 h3 h4
theorem F6_3 {a b : Hp} (f : F3 a b) : F6 a b := fun x j h1 h2 h3 h4 => f x j (by omega) h2 h3 h4
theorem F6_s {h : Hp} {j : Nat} {z : Int} (hj : j = 34 ∨ j = 36 ∨ (38 ≤ j ∧ j ≤ 42)) : F6 h (setH h 150 j z) := fun c i h1 _ _ _ => setH_f (by omega)
theorem F5_41 {a b : Hp} (f : F5 a b) : b 150 41 = a 150 41 := f 150 41 (by omega) (by decide) (by decide) (by decide)
abbrev anC (c : Int) : Prop := c = 38
abbrev orC (c : Int) : Prop := c = 124
noncomputable def opC (c : Int) (v w : Den) : Den := if c = 38 then vAnd v w else vOr v w
abbrev TC := TPm anC opC True
abbrev SC := SPm anC orC opC True
theorem sg_A : ∀ c : Fin 256, inSg 5 (c.val : Int) = true ↔ anC (c.val : Int) := by decide +kernel
theorem sg_O : ∀ c : Fin 256, inSg 6 (c.val : Int) = true ↔ orC (c.val : Int) := by decide +kernel
theorem inSgA {c : Int} (hc : 0 ≤ c ∧ c ≤ 255) : inSg 5 c = true ↔ anC c := by
  obtain ⟨n, rfl⟩ := Int.eq_ofNat_of_zero_le hc.1
  exact sg_A ⟨n, by omega⟩
theorem inSgO {c : Int} (hc : 0 ≤ c ∧ c ≤ 255) : inSg 6 c = true ↔ orC c := by
  obtain ⟨n, rfl⟩ := Int.eq_ofNat_of_zero_le hc.1
  exact sg_O ⟨n, by omega⟩
theorem inSg4 {c : Int} (hc : 0 ≤ c ∧ c ≤ 255) : inSg 4 c = true ↔ (c = 60 ∨ c = 61 ∨ c = 62) := by
  obtain ⟨n, rfl⟩ := Int.eq_ofNat_of_zero_le hc.1
  have := sg_4 ⟨n, by omega⟩
  dsimp only at this
  rw [this]
  omega
theorem isSign_s {c : Int} (hc : 0 ≤ c ∧ c ≤ 255) : X12_isSign c = some (if c = 60 ∨ c = 61 ∨ c = 62 then 1 else 0) := by
  unfold X12_isSign X12_isSign_j9
  rw [w32_id (z := c) (by omega) (by omega), show w32 60 = 60 from rfl, show w32 62 = 62 from rfl, show w32 61 = 61 from rfl]
  by_cases a : c = 60
  · rw [if_pos a, if_pos (Or.inl a)]
  · rw [if_neg a]
    by_cases b : c = 62
    · rw [if_pos b, if_pos (Or.inr (Or.inr b))]
    · rw [if_neg b]
      by_cases d : c = 61
      · rw [if_neg (fun q => q d), if_pos (Or.inr (Or.inl d))]
      · rw [if_pos d, if_neg (by omega)]
theorem joins_m {fl : Bool} {n p k d a : Nat} {B : Nat → Int} {h : Hp} {pd st : List Int} {v : Den} (P : PM h n B p k d (pd ++ st)) (t : if fl = true then SC h a k pd v else TC h a k pd v) (h1 : st.headD 0 ≠ 38) (h2 : fl = true → st.headD 0 ≠ 124) : OK (X12_joins (if fl = true then 1 else 0) h) (fun h' => ∃ k', PM h' n B p k' d st ∧ k ≤ k' ∧ F3 h h' ∧ KPm h h' k ∧ MS (h' 177) (h' 178) a k' v True) := by
  unfold X12_joins
  rw [OK_bindE]
  refine OK_mono (pend_m (H := anC) (L := orC) (opd := opC) (C := True) (fl := fl) (fun cd ar a b q v w hk m1 m2 => ?_) (fun h k c s P hc => ?_) (fun h k P => ?_) P t) (fun z hz => ?_)
  · unfold opC
    rcases hk with e | e
    · have e' : cd q = 38 := e
      rw [if_pos e']
      exact MS_and m1 m2 e'
    · have e' : cd q = 124 := e
      rw [if_neg (by omega)]
      exact MS_or m1 m2 e'
  · have b := P.2.2.2.1.2 c List.mem_cons_self
    unfold X12_joins_l0 X12_joins_j10
    rw [top_m P]
    simp only [Option.bind_some, List.headD_cons]
    rcases hc with hc | ⟨hf, hc⟩
    · have e' : c = 38 := hc
      rw [if_pos (by rw [e'])]
    · have e' : c = 124 := hc
      rw [if_neg (by rw [e']; decide), if_pos hf, if_neg (by decide), if_neg (by rw [e']; decide)]
  · have b := hd_b P
    unfold X12_joins_l0
    rw [top_m P, Option.bind_some, if_neg (by rw [w32_id (by omega) (by omega)]; exact h1)]
    by_cases hf : fl = true
    · rw [if_pos hf, if_neg (by decide), Option.bind_some, if_pos (by rw [w32_id (by omega) (by omega)]; exact h2 hf)]
    · rw [if_neg hf, if_pos (by decide)]
  · exact hz
def nots : Nat → Den → Den
  | 0, v => v
  | m + 1, v => nots m (vNot v)
theorem PM_39 {h : Hp} {n p k d : Nat} {z : Int} {B : Nat → Int} {st : List Int} (P : PM h n B p k (d + 1) st) (hz : z = (d : Int)) : PM (setH h 150 39 z) n B p k d st := by
  obtain ⟨⟨p1, p2, p3, p4, p5, p6⟩, ⟨q1, q2, q3, q4⟩, hB, ⟨s1, s2⟩, hd⟩ := P
  refine ⟨⟨?_, ?_, ?_, ?_, ?_, ?_⟩, ⟨q1, q2, q3, by omega⟩, ?_, ⟨SKx_o (setH_o (by decide)) s1, s2⟩, ?_⟩
  · rw [setH_n (by decide)]
    exact p1
  · rw [setH_n (by decide)]
    exact p2
  · rw [setH_n (by decide)]
    exact p3
  · rw [setH_n (by decide)]
    exact p4
  · rw [setH_s]
    exact hz
  · rw [setH_n (by decide)]
    exact p6
  · rw [setH_o (by decide)]
    exact hB
  · unfold DKm
    rw [setH_o (by decide), setH_o (by decide)]
    exact hd
/-- the ! that wait become steps -/
theorem ends_m {n p k d a m : Nat} {B : Nat → Int} {h : Hp} {st : List Int} {v : Den} (P : PM h n B p k (d + m) (List.replicate m 33 ++ st)) (hm : MS (h 177) (h 178) a k v True) (h1 : st.headD 0 ≠ 33) : OK (X12_ends h) (fun h' => PM h' n B p (k + m) d st ∧ F3 h h' ∧ KPm h h' k ∧ MS (h' 177) (h' 178) a (k + m) (nots m v) True) := by
  unfold X12_ends
  rw [OK_bindE]
  have hml : m ≤ 160 := by
    have := P.2.1
    simp at this
    omega
  refine OK_mono (iter_dn (fun e s => ∃ k' v', e ≤ m ∧ k' = k + (m - e) ∧ PM s n B p k' (d + e) (List.replicate e 33 ++ st) ∧ F3 h s ∧ KPm h s k ∧ MS (s 177) (s 178) a k' v' True ∧ nots m v = nots e v') (fun h' => PM h' n B p (k + m) d st ∧ F3 h h' ∧ KPm h h' k ∧ MS (h' 177) (h' 178) a (k + m) (nots m v) True) (fun e s hI => ?_) m (by omega) ⟨k, v, Nat.le_refl _, by omega, P, F3_rf, fun _ _ => ⟨rfl, rfl⟩, hm, rfl⟩) (fun z hz => by rw [OK_some]; exact hz)
  obtain ⟨k', v', he, hk', P', f, kp, mm, ev⟩ := hI
  unfold X12_ends_l0
  rw [top_m P', OK_bindE, OK_some]
  cases e with
  | zero =>
    have b := hd_b P'
    refine OK_gd (by rw [w32_id (by omega) (by omega)]; exact h1) ?_
    rw [OK_some, LQ_r, ev]
    have ek : k' = k + m := by omega
    subst ek
    exact ⟨P', f, kp, mm⟩
  | succ e =>
    have P2 : PM s n B p k' (d + e + 1) (33 :: (List.replicate e 33 ++ st)) := P'
    refine OK_gn (by show ¬ (w32 33 ≠ w32 33); decide) ?_
    obtain ⟨z, ez, z1, z2, z3, z4⟩ := OK_ex (pop_m (v := 2) P2 (by omega))
    cases em : X12_emit 2 0 s with
    | none =>
      rw [em] at ez
      cases ez
    | some y =>
      rw [em] at ez
      have ez' : setH y 150 40 ((y 150 40) - 1) = z := Option.some.inj ez
      have e39 : y 150 39 = z 150 39 := by rw [← ez', setH_n (by decide)]
      rw [OK_bindE, OK_some, OK_some, LQ_l, ez', e39]
      have k1 := z3
      refine ⟨e, by omega, k' + 1, vNot v', by omega, by omega, PM_39 z1 (by rw [z1.1.2.2.2.2.1]; omega), F3_tr f (F3_tr z2 (F3_s (by omega))), KP_tr kp (KP_tr z3 (KP_o (setH_o (by decide)) (setH_o (by decide))) (Nat.le_refl _)) (by omega), ?_, ev⟩
      rw [setH_o (by decide), setH_o (by decide)]
      exact MS_not (MS_cg (fun p' _ h2 => z3 p' h2) mm) z4
