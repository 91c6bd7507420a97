/-! THE MODEL READS AN E -/
def F5 (h h' : Hp) : Prop := ∀ c j, ¬ (c = 150 ∧ (j = 34 ∨ j = 36 ∨ (38 ≤ j ∧ j ≤ 40) ∨ j = 42)) → c ≠ 177 → c ≠ 178 → c ≠ 179 → h' c j = h c j
theorem F5_rf {h : Hp} : F5 h h := fun _ _ _ _ _ _ => rfl
theorem F5_tr {a b c : Hp} (f : F5 a b) (g : F5 b c) : F5 a c := fun x j h1 h2 h3 h4 => (g x j h1 h2 h3 h4).trans (f x j h1 h2 h3 h4)
theorem F5_3 {a b : Hp} (f : F3 a b) : F5 a b := fun x j h1 h2 h3 h4 => f x j (by omega) h2 h3 h4
theorem F5_s {h : Hp} {j : Nat} {z : Int} (hj : j = 34 ∨ j = 36 ∨ (38 ≤ j ∧ j ≤ 40) ∨ j = 42) : F5 h (setH h 150 j z) := fun c i h1 _ _ _ => setH_f (by omega)
abbrev tmC (c : Int) : Prop := c = 42 ∨ c = 47 ∨ c = 37
abbrev plC (c : Int) : Prop := c = 43 ∨ c = 45
theorem sg_T : ∀ c : Fin 256, inSg 2 (c.val : Int) = true ↔ tmC (c.val : Int) := by decide +kernel
theorem sg_P : ∀ c : Fin 256, inSg 3 (c.val : Int) = true ↔ plC (c.val : Int) := by decide +kernel
theorem inSgT {c : Int} (hc : 0 ≤ c ∧ c ≤ 255) : inSg 2 c = true ↔ tmC c := by
  obtain ⟨n, rfl⟩ := Int.eq_ofNat_of_zero_le hc.1
  exact sg_T ⟨n, by omega⟩
theorem inSgP {c : Int} (hc : 0 ≤ c ∧ c ≤ 255) : inSg 3 c = true ↔ plC c := by
  obtain ⟨n, rfl⟩ := Int.eq_ofNat_of_zero_le hc.1
  exact sg_P ⟨n, by omega⟩
theorem isTimes_s {c : Int} (hc : 0 ≤ c ∧ c ≤ 255) : X12_isTimes c = some (if tmC c then 1 else 0) := by
  unfold X12_isTimes X12_isTimes_j9
  rw [w32_id (z := c) (by omega) (by omega), show w32 42 = 42 from rfl, show w32 47 = 47 from rfl, show w32 37 = 37 from rfl]
  by_cases a : c = 42
  · rw [if_pos a, if_pos (Or.inl a)]
  · rw [if_neg a]
    by_cases b : c = 47
    · rw [if_pos b, if_pos (Or.inr (Or.inl b))]
    · rw [if_neg b]
      by_cases d : c = 37
      · rw [if_neg (fun q => q d), if_pos (Or.inr (Or.inr d))]
      · rw [if_pos d, if_neg (by omega)]
theorem isPlus_s {c : Int} (hc : 0 ≤ c ∧ c ≤ 255) : X12_isPlus c = some (if plC c then 1 else 0) := by
  unfold X12_isPlus X12_isPlus_j6
  rw [w32_id (z := c) (by omega) (by omega), show w32 43 = 43 from rfl, show w32 45 = 45 from rfl]
  by_cases a : c = 43
  · rw [if_pos a, if_pos (Or.inl a)]
  · rw [if_neg a]
    by_cases b : c = 45
    · rw [if_neg (fun q => q b), if_pos (Or.inr b)]
    · rw [if_pos b, if_neg (by omega)]
abbrev TE := TPm tmC vBin False
abbrev SE := SPm tmC plC vBin False
theorem hd_b {h : Hp} {n p k d : Nat} {B : Nat → Int} {st : List Int} (P : PM h n B p k d st) : 0 ≤ st.headD 0 ∧ st.headD 0 ≤ 255 := by
  cases st with
  | nil => exact ⟨Int.le_refl _, by decide⟩
  | cons c r => exact P.2.2.2.1.2 c List.mem_cons_self
theorem sums_m {fl : Bool} {n p k d a : Nat} {B : Nat → Int} {h : Hp} {pd st : List Int} {v : Den} (P : PM h n B p k d (pd ++ st)) (t : if fl = true then SE h a k pd v else TE h a k pd v) (h1 : ¬ tmC (st.headD 0)) (h2 : fl = true → ¬ plC (st.headD 0)) : OK (X12_sums (if fl = true then 1 else 0) h) (fun h' => ∃ k', PM h' n B p k' d st ∧ k ≤ k' ∧ F3 h h' ∧ KPm h h' k ∧ MS (h' 177) (h' 178) a k' v False) := by
  unfold X12_sums
  rw [OK_bindE]
  refine OK_mono (pend_m (H := tmC) (L := plC) (opd := vBin) (C := False) (fl := fl) (fun cd ar a b q v w hk m1 m2 => MS_bin m1 m2 (by unfold isOp; omega) (fun q => q.elim)) (fun h k c s P hc => ?_) (fun h k P => ?_) P t) (fun z hz => ?_)
  · have b := P.2.2.2.1.2 c List.mem_cons_self
    unfold X12_sums_l0 X12_sums_j10
    rw [top_m P]
    show (X12_isTimes c).bind _ = _
    rw [isTimes_s b]
    rcases hc with hc | ⟨hf, hc⟩
    · rw [if_pos hc, Option.bind_some, if_pos (by decide), Option.bind_some]
      rfl
    · rw [if_neg (by omega), Option.bind_some, if_neg (by decide), if_pos hf, if_neg (by decide), Option.bind_some]
      show (X12_isPlus c).bind _ = _
      rw [isPlus_s b, if_pos hc, Option.bind_some, if_neg (by decide), Option.bind_some]
      rfl
  · have b := hd_b P
    unfold X12_sums_l0
    rw [top_m P, Option.bind_some, isTimes_s b, if_neg h1, Option.bind_some, if_neg (by decide), Option.bind_some, isPlus_s b]
    by_cases hf : fl = true
    · rw [if_pos hf, if_neg (by decide), if_neg (h2 hf), Option.bind_some, if_pos (by decide)]
    · rw [if_neg hf, if_pos (by decide)]
  · exact hz
/-- a number -/
theorem reads_m {h : Hp} {n p k d : Nat} {B : Nat → Int} {st : List Int} (P : PM h n B p k d st) (hdg : 48 ≤ B p ∧ B p ≤ 57) : OK (X12_reads h) (fun z => F3 h z.2 ∧ match pN B 7 p 0 0 with
    | .inl f => BDm f z.2
    | .inr (q, v) => p < q ∧ PM z.2 n B q k d st ∧ z.2 177 = h 177 ∧ z.2 178 = h 178 ∧ (0 ≤ z.1 ∧ z.1 ≤ 99999) ∧ v = fun _ => some z.1) := by
  unfold X12_reads
  rw [OK_bindE, P.1.1]
  refine OK_mono (iter_up (fun e s => e ≤ 6 ∧ ∃ (v : Int) (h' : Hp), s = (v, h') ∧ F3 h h' ∧ ((e ≤ 5 ∧ PM h' n B (p + e) k d st ∧ h' 177 = h 177 ∧ h' 178 = h 178 ∧ (0 ≤ v ∧ v < (10 : Int) ^ e) ∧ pN B 7 p 0 0 = pN B (7 - e) (p + e) e v) ∨ ∃ f, BDm f h' ∧ pN B 7 p 0 0 = .inl f)) (fun z : Int × Hp => F3 h z.2 ∧ match pN B 7 p 0 0 with
    | .inl f => BDm f z.2
    | .inr (q, v) => p < q ∧ PM z.2 n B q k d st ∧ z.2 177 = h 177 ∧ z.2 178 = h 178 ∧ (0 ≤ z.1 ∧ z.1 ≤ 99999) ∧ v = fun _ => some z.1) 6 (by omega) (fun e s he hI => ?_) ⟨by omega, 0, h, rfl, F3_rf, Or.inl ⟨by omega, P, rfl, rfl, by decide, rfl⟩⟩) (fun z hz => by rw [OK_some]; exact hz)
  obtain ⟨he6, v, h', rfl, fr, hh⟩ := hI
  unfold X12_reads_l5 X12_reads_j22
  (try dsimp only)
  rcases hh with ⟨he5, P', e7, e8, hv, ep⟩ | ⟨f, hb, ep⟩
  · have b := PM_B P' (p + e)
    have pb := P'.2.1
    rw [good_m P', OK_bindE, OK_some]
    refine OK_gn (by decide) ?_
    unfold X12_seesDigit
    have e77 : 7 - e = (6 - e) + 1 := by omega
    rw [e77] at ep
    rw [here_m P']
    simp only [Option.bind_some]
    rw [w32_id (z := B (p + e)) (by omega) (by omega), lies_in (by omega) (by omega) (by omega) (by omega) (by omega) (by omega)]
    by_cases c : 48 ≤ B (p + e) ∧ B (p + e) ≤ 57
    · have hp := PM_lt P' (p := p + e) (by omega)
      have es : pN B (6 - e + 1) (p + e) e v = if e = 5 then .inl (-2000 - ((p + e : Nat) : Int)) else pN B (6 - e) (p + e + 1) (e + 1) (v * 10 + B (p + e) - 48) := by
        show (if 48 ≤ B (p + e) ∧ B (p + e) ≤ 57 then (if e = 5 then .inl (-2000 - ((p + e : Nat) : Int)) else pN B (6 - e) (p + e + 1) (e + 1) (v * 10 + B (p + e) - 48)) else .inr (p + e, fun _ => some v)) = _
        rw [if_pos c]
      replace ep := ep.trans es
      rw [if_pos c, Option.bind_some, if_pos (Or.inr rfl), OK_bindE, OK_some]
      refine OK_gn (by decide) ?_
      rw [P'.1.1]
      by_cases k5 : e = 5
      · refine OK_gn (by rw [w32_id (by omega) (by omega), w32_id (by omega) (by omega)]; omega) ?_
        rw [if_pos k5] at ep
        obtain ⟨w1, w2, w3, w4⟩ := wrongs_m P' (c := 2) (by omega)
        have w1' : X12_wrongs 2 (((p + e : Nat) : Int)) h' = some (setH h' 150 36 (-1000 * 2 - ((p + e : Nat) : Int))) := by
          rw [P'.1.1] at w1
          exact w1
        have eh : X12_here (setH h' 150 36 (-1000 * 2 - ((p + e : Nat) : Int))) = X12_here h' := by
          unfold X12_here
          simp (disch := decide) only [setH_o, setH_n]
        rw [w1', OK_bindE, OK_some, eh, here_m P', OK_bindE, OK_some, OK_some, LQ_l]
        refine ⟨by omega, by omega, _, _, rfl, F3_tr (F3_tr fr (F3_s (by omega))) (F3_s (by omega)), Or.inr ⟨_, ⟨?_, by omega, by omega⟩, ep⟩⟩
        simp (disch := decide) only [setH_s, setH_n]
        omega
      · refine OK_gd (by rw [w32_id (by omega) (by omega), w32_id (by omega) (by omega)]; omega) ?_
        rw [if_neg k5] at ep
        rw [OK_some, LQ_l]
        obtain ⟨⟨p1, p2, p3, p4, p5, p6⟩, ⟨q1, q2, q3, q4⟩, hB, ⟨s1, s2⟩, hd⟩ := P'
        refine ⟨by omega, by omega, _, _, rfl, F3_tr fr (F3_s (by omega)), Or.inl ⟨by omega, ⟨⟨?_, ?_, ?_, ?_, ?_, ?_⟩, ⟨by omega, by omega, q3, q4⟩, ?_, ⟨?_, s2⟩, ?_⟩, ?_, ?_, ?_, ?_⟩⟩
        · rw [setH_s]
          omega
        · rw [setH_n (by decide)]
          exact p2
        · rw [setH_n (by decide)]
          exact p3
        · rw [setH_n (by decide)]
          exact p4
        · rw [setH_n (by decide)]
          exact p5
        · rw [setH_n (by decide)]
          exact p6
        · rw [setH_o (by decide)]
          exact hB
        · exact SKx_o (setH_o (by decide)) s1
        · unfold DKm
          rw [setH_o (by decide), setH_o (by decide)]
          exact hd
        · rw [setH_o (by decide)]
          exact e7
        · rw [setH_o (by decide)]
          exact e8
        · have : (10 : Int) ^ (e + 1) = 10 ^ e * 10 := Int.pow_succ 10 e
          omega
        · rw [ep, show 7 - (e + 1) = 6 - e by omega, show 10 * v + B (p + e) - 48 = v * 10 + B (p + e) - 48 by omega]
          rfl
    · have es : pN B (6 - e + 1) (p + e) e v = .inr (p + e, fun _ => some v) := by
        show (if 48 ≤ B (p + e) ∧ B (p + e) ≤ 57 then (if e = 5 then .inl (-2000 - ((p + e : Nat) : Int)) else pN B (6 - e) (p + e + 1) (e + 1) (v * 10 + B (p + e) - 48)) else .inr (p + e, fun _ => some v)) = _
        rw [if_neg c]
      replace ep := ep.trans es
      have he1 : 1 ≤ e := by
        by_cases q : e = 0
        · subst q
          exact absurd hdg c
        · omega
      rw [if_neg c, Option.bind_some, if_pos (Or.inl rfl), OK_bindE, OK_some]
      refine OK_gd (by decide) ?_
      have pw : (10 : Int) ^ e ≤ 100000 := by
        have : e = 0 ∨ e = 1 ∨ e = 2 ∨ e = 3 ∨ e = 4 ∨ e = 5 := by omega
        rcases this with q | q | q | q | q | q <;> subst q <;> decide
      rw [OK_some, LQ_r, ep]
      exact ⟨fr, by omega, P', e7, e8, by omega, rfl⟩
  · rw [good_f (BD_ne hb), OK_bindE, OK_some]
    refine OK_gd (by decide) ?_
    rw [OK_some, LQ_r, ep]
    exact ⟨fr, hb⟩
