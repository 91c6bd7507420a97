/-! an E, by the grammar -/
theorem isValue_all : ∀ c : Fin 256, X12_isValue (c.val : Int) = some (if inSg 1 (c.val : Int) = true then 1 else 0) := by decide +kernel
theorem isValue_s {c : Int} (hc : 0 ≤ c ∧ c ≤ 255) : X12_isValue c = some (if inSg 1 c = true then 1 else 0) := by
  obtain ⟨n, rfl⟩ := Int.eq_ofNat_of_zero_le hc.1
  exact isValue_all ⟨n, by omega⟩
theorem digit_m {h : Hp} {n p k d : Nat} {B : Nat → Int} {st : List Int} (P : PM h n B p k d st) : X12_seesDigit h = some (if 48 ≤ B p ∧ B p ≤ 57 then 1 else 0) := by
  have b := PM_B P p
  unfold X12_seesDigit
  rw [here_m P, Option.bind_some, w32_id (z := B p) (by omega) (by omega), lies_in (by omega) (by omega) (by omega) (by omega) (by omega) (by omega), Option.bind_some]
  by_cases c : 48 ≤ B p ∧ B p ≤ 57
  · rw [if_pos c]
    exact if_pos (Or.inr rfl)
  · rw [if_neg c]
    exact if_pos (Or.inl rfl)
theorem emit1_m {h : Hp} {n p k d : Nat} {B : Nat → Int} {st : List Int} {v w : Int} (P : PM h n B p k d st) (hk : k + 1 + st.length ≤ p) (hv : 0 ≤ v ∧ v ≤ 255) (hw : 0 ≤ w ∧ w ≤ 99999) : OK (X12_emit v w h) (fun h' => PM h' n B p (k + 1) d st ∧ F3 h h' ∧ KPm h h' k ∧ h' 177 k = v ∧ h' 178 k = w) := by
  have hP := P
  obtain ⟨⟨p1, p2, p3, p4, p5, p6⟩, ⟨q1, q2, q3, q4⟩, hB, ⟨s1, s2⟩, hd⟩ := P
  rw [emit_m hP (by omega), OK_some]
  refine ⟨⟨⟨?_, ?_, ?_, ?_, ?_, ?_⟩, ⟨by omega, q2, q3, q4⟩, ?_, ⟨SKx_o (h := h) (by simp (disch := decide) only [setH_o]) s1, s2⟩, ?_⟩, ?_, ?_, ?_, ?_⟩
  · simp (disch := decide) only [setH_o, setH_s, setH_n]
    exact p1
  · simp (disch := decide) only [setH_o, setH_s, setH_n]
    exact p2
  · simp (disch := decide) only [setH_o, setH_s, setH_n]
    exact p3
  · simp (disch := decide) only [setH_o, setH_s, setH_n]
    rfl
  · simp (disch := decide) only [setH_o, setH_s, setH_n]
    exact p5
  · simp (disch := decide) only [setH_o, setH_s, setH_n]
    exact p6
  · simp (disch := decide) only [setH_o, setH_s, setH_n]
    exact hB
  · intro j hj
    simp (disch := decide) only [setH_o, setH_s, setH_n]
    by_cases e : j = k
    · subst e
      rw [setH_s, setH_s]
      omega
    · rw [setH_n e, setH_n e]
      exact hd j (by omega)
  · exact F3_tr (F3_tr (F3_o (by omega)) (F3_o (by omega))) (F3_s (by omega))
  · intro j hj
    simp (disch := decide) only [setH_o]
    rw [setH_n (by omega), setH_n (by omega)]
    exact ⟨rfl, rfl⟩
  · simp (disch := decide) only [setH_o, setH_s]
  · simp (disch := decide) only [setH_o, setH_s]
theorem PM_up {h : Hp} {n p k d : Nat} {B : Nat → Int} {st : List Int} (P : PM h n B p k d st) (hp : p < n) : PM (setH h 150 34 ((h 150 34) + 1)) n B (p + 1) k d st := by
  obtain ⟨⟨p1, p2, p3, p4, p5, p6⟩, ⟨q1, q2, q3, q4⟩, hB, ⟨s1, s2⟩, hd⟩ := P
  refine ⟨⟨?_, ?_, ?_, ?_, ?_, ?_⟩, ⟨by omega, by omega, q3, q4⟩, ?_, ⟨SKx_o (setH_o (by decide)) s1, s2⟩, ?_⟩
  · rw [setH_s, p1]
    rfl
  · rw [setH_n (by decide)]
    exact p2
  · rw [setH_n (by decide)]
    exact p3
  · rw [setH_n (by decide)]
    exact p4
  · rw [setH_n (by decide)]
    exact p5
  · rw [setH_n (by decide)]
    exact p6
  · rw [setH_o (by decide)]
    exact hB
  · unfold DKm
    rw [setH_o (by decide), setH_o (by decide)]
    exact hd
/-- the letter's step, and on by its byte -/
theorem let_m {h : Hp} {n p k d : Nat} {B : Nat → Int} {st : List Int} {v w : Int} (P : PM h n B p k d st) (hp : p < n) (hv : 0 ≤ v ∧ v ≤ 255) (hw : 0 ≤ w ∧ w ≤ 99999) : OK ((X12_emit v w h).bind fun r11 => some (setH r11 150 34 ((r11 150 34) + 1))) (fun h' => PM h' n B (p + 1) (k + 1) d st ∧ F3 h h' ∧ KPm h h' k ∧ h' 177 k = v ∧ h' 178 k = w) := by
  have pb := P.2.1
  have e1 := emit_m P (v := v) (w := w) (by omega)
  have e2 := emit_m (PM_up P hp) (v := v) (w := w) (by omega)
  obtain ⟨z, ez, z1, z2, z3, z4, z5⟩ := OK_ex (emit1_m (v := v) (w := w) (PM_up P hp) (by omega) hv hw)
  have es : z = setH (setH (setH (setH h 150 34 ((h 150 34) + 1)) 177 k v) 178 k w) 150 38 ((k : Int) + 1) := by
    rw [e2] at ez
    exact (Option.some.inj ez).symm
  rw [e1, OK_bindE, OK_some, OK_some]
  have eq : setH (setH (setH (setH h 177 k v) 178 k w) 150 38 ((k : Int) + 1)) 150 34 ((setH (setH (setH h 177 k v) 178 k w) 150 38 ((k : Int) + 1)) 150 34 + 1) = z := by
    rw [es]
    funext c j
    have e34 : (setH (setH (setH h 177 k v) 178 k w) 150 38 ((k : Int) + 1)) 150 34 = h 150 34 := by simp (disch := decide) only [setH_o, setH_n]
    rw [e34]
    simp only [setH_at]
    by_cases a : c = 150
    · subst a
      by_cases b : j = 34
      · subst b
        simp
      · simp [b]
    · simp [a]
  rw [eq]
  refine ⟨z1, F3_tr (F3_s (by omega)) z2, ?_, z4, z5⟩
  exact KP_tr (KP_o (setH_o (by decide)) (setH_o (by decide))) z3 (Nat.le_refl _)
def SDm (tag : Nat) (c : Int) : Prop := (1 ≤ tag → ¬ tmC c) ∧ (2 ≤ tag → ¬ plC c)
def PDm (tag : Nat) (h : Hp) (a k : Nat) (pd : List Int) (v : Den) : Prop := match tag with
  | 0 => pd = [] ∧ MS (h 177) (h 178) a k v False
  | 1 => TE h a k pd v
  | _ => SE h a k pd v
/-- the model reads what sp says, from before a factor to behind one -/
def CLm (n : Nat) (B : Nat → Int) (tag : Nat) (sp : Nat → PR) (d : Nat) : Prop := ∀ (p k : Nat) (st : List Int) (h : Hp) (kk j : Nat) (Q : Hp → Prop), PM h n B p k d st → SDm tag (st.headD 0) → n + 2 ≤ kk + p → n + 2 ≤ j + p →
  (∀ f h', sp p = .inl f → F5 h h' → BDm f h' → Q h') →
  (∀ q v h' k' pd kk', sp p = .inr (q, v) → p < q → SDm tag (B q) → F5 h h' → KPm h h' k → k ≤ k' → PM h' n B q k' d (pd ++ st) → PDm tag h' k k' pd v → n + 2 ≤ kk' + q → OK (JLm kk' h') Q) →
  OK (BFm kk j h) Q
theorem BF_open {h : Hp} {n p k d kk j : Nat} {B : Nat → Int} {st : List Int} (P : PM h n B p k d st) (c : B p = 91) : BFm kk (j + 1) h = (X12_opens h).bind (BFm kk j) := by
  have e : X12_factor_l0 h = (X12_opens h).bind fun r => some (.inl r) := by
    unfold X12_factor_l0
    rw [good_m P, Option.bind_some, if_neg (by decide), here_m P, Option.bind_some, if_neg (by rw [c]; decide)]
  unfold BFm
  rw [iter0_s, e]
  cases X12_opens h <;> rfl
theorem BF_atom {h : Hp} {n p k d kk j : Nat} {B : Nat → Int} {st : List Int} (P : PM h n B p k d st) (c : B p ≠ 91) : BFm kk (j + 1) h = (ftailM h).bind (JLm kk) := by
  have b := PM_B P p
  unfold BFm
  rw [iter0_s]
  unfold X12_factor_l0
  rw [good_m P, Option.bind_some, if_neg (by decide), here_m P, Option.bind_some, if_pos (by rw [w32_id (by omega) (by omega)]; exact c), Option.bind_some]
  rfl
theorem factor_m {n d : Nat} {B : Nat → Int} {sum : Nat → Nat → PR} (hrec : d + 1 ≤ 6 → CLm n B 2 (sum (d + 1)) (d + 1)) : CLm n B 0 (pF B sum d) d := by
  intro p k st h kk j Q P _ hkk hj hF hR
  have b := PM_B P p
  have pb := P.2.1
  have bad : ∀ f h', pF B sum d p = .inl f → F5 h h' → BDm f h' → ∀ kk, 1 ≤ kk → OK (JLm kk h') Q := fun f h' e f5 bd kk hk => by
    obtain ⟨kk, rfl⟩ : ∃ m, kk = m + 1 := ⟨kk - 1, by omega⟩
    rw [JL_f (BD_ne bd), OK_some]
    exact hF f _ e (F5_tr f5 (F5_s (by omega))) ⟨by rw [setH_n (by decide)]; exact bd.1, bd.2⟩
  obtain ⟨j, rfl⟩ : ∃ m, j = m + 1 := ⟨j - 1, by omega⟩
  by_cases c : B p = 91
  · have hp := PM_lt P (by omega)
    rw [BF_open P c, OK_bindE]
    refine OK_mono (opens_m P hp) (fun y hy => ?_)
    obtain ⟨y1, y2⟩ := hy
    by_cases k6 : 6 < d + 1
    · rw [if_pos k6] at y2
      obtain ⟨j, rfl⟩ : ∃ m, j = m + 1 := ⟨j - 1, by omega⟩
      obtain ⟨kk, rfl⟩ : ∃ m, kk = m + 1 := ⟨kk - 1, by omega⟩
      rw [BF_f (BD_ne y2), OK_some]
      refine hF (-5000 - (p : Int)) _ ?_ (F5_tr (F5_3 y1) (F5_s (by omega))) ⟨by rw [setH_n (by decide)]; exact y2.1, y2.2⟩
      unfold pF
      rw [if_pos c, if_pos k6]
    · rw [if_neg k6, c] at y2
      obtain ⟨y3, y4, y5⟩ := y2
      have ef : pF B sum d p = (match sum (d + 1) (p + 1) with
        | .inl f => .inl f
        | .inr (q, v) => if B q = 93 then .inr (q + 1, v) else .inl (-1000 - (q : Int))) := by
        unfold pF
        rw [if_pos c, if_neg k6]
        cases sum (d + 1) (p + 1) <;> rfl
      refine hrec (by omega) (p + 1) k (91 :: st) y kk j Q y3 ⟨fun _ => by show ¬ tmC 91; decide, fun _ => by show ¬ plC 91; decide⟩ (by omega) (by omega) (fun f h' e f5 bd => ?_) (fun q v h' k' pd kk' e hpq sd f5 kp hk P' pdm hkk' => ?_)
      · exact hF f h' (by rw [ef, e]) (F5_tr (F5_3 y1) f5) bd
      · have pb' := P'.2.1
        obtain ⟨kk', rfl⟩ : ∃ m, kk' = m + 1 := ⟨kk' - 1, by omega⟩
        have fr := F5_tr (F5_3 y1) f5
        have kp2 : KPm h h' k := KP_tr (KP_o y4 y5) kp (Nat.le_refl _)
        by_cases c3 : B q = 93
        · have hq := PM_lt P' (p := q) (by omega)
          refine JL_close P' pdm c3 (fun h3 k2 P3 f3 kp3 hk3 m3 => ?_)
          exact hR (q + 1) v h3 k2 [] kk' (by rw [ef, e]; exact if_pos c3) (by omega) ⟨fun q => by omega, fun q => by omega⟩ (F5_tr fr f3) (KP_tr kp2 kp3 (by omega)) (by omega) P3 ⟨rfl, m3⟩ (by omega)
        · refine JL_end P' pdm (sd.1 (by omega)) (sd.2 (by omega)) c3 (by show ¬ tmC 91; decide) (by show ¬ plC 91; decide) (fun h3 k2 P3 f3 kp3 hk3 m3 => ?_)
          refine OK_mono (VT_b P3 rfl) (fun u hu => ?_)
          exact hF (-1000 - (q : Int)) u (by rw [ef, e]; exact if_neg c3) (F5_tr (F5_tr fr f3) hu.1) hu.2
  · rw [BF_atom P c, OK_bindE]
    unfold ftailM
    rw [good_m P, OK_bindE, OK_some]
    refine OK_gd (by decide) ?_
    rw [digit_m P, OK_bindE, OK_some]
    by_cases cd : 48 ≤ B p ∧ B p ≤ 57
    · have ef : pF B sum d p = pN B 7 p 0 0 := by
        unfold pF
        rw [if_neg c, if_pos cd]
      rw [if_pos cd]
      refine OK_gn (by decide) ?_
      rw [OK_bindE]
      refine OK_mono (reads_m P cd) (fun z hz => ?_)
      obtain ⟨z1, z2⟩ := hz
      cases er : pN B 7 p 0 0 with
      | inl f =>
        rw [er] at z2
        rw [emit_f (BD_ne z2), OK_bindE, OK_some, OK_some]
        exact bad f z.2 (ef.trans er) (F5_3 z1) z2 kk (by omega)
      | inr y =>
        obtain ⟨q, v⟩ := y
        rw [er] at z2
        obtain ⟨z3, z4, z5, z6, z7, z8⟩ := z2
        have pz := z4.2.1
        rw [OK_bindE]
        refine OK_mono (emit1_m (v := 0) (w := z.1) z4 (by omega) (by omega) z7) (fun u hu => ?_)
        obtain ⟨u1, u2, u3, u4, u5⟩ := hu
        rw [OK_some]
        exact hR q v u (k + 1) [] kk (ef.trans er) z3 ⟨fun q => by omega, fun q => by omega⟩ (F5_tr (F5_3 z1) (F5_3 u2)) (KP_tr (KP_o z5 z6) u3 (Nat.le_refl _)) (by omega) u1 ⟨rfl, by rw [z8]; exact MS_num u4 u5⟩ (by omega)
    · rw [if_neg cd]
      refine OK_gd (by decide) ?_
      rw [here_m P, OK_bindE, OK_some, isValue_s (by omega), OK_bindE, OK_some]
      by_cases cl : inSg 1 (B p) = true
      · have hp : p < n := PM_lt P (fun q => by rw [q] at cl; rw [inSg_0 ⟨1, by decide⟩] at cl; cases cl)
        have ef : pF B sum d p = .inr (p + 1, fun ρ => some (ρ (B p - 97).toNat)) := by
          unfold pF
          rw [if_neg c, if_neg cd, if_pos cl]
        rw [if_pos cl]
        refine OK_gn (by decide) ?_
        rw [OK_bindE, OK_some]
        refine OK_mono (let_m (v := 1) (w := B p) P hp (by omega) (by omega)) (fun u hu => ?_)
        obtain ⟨u1, u2, u3, u4, u5⟩ := hu
        have hl : isLt (B p - 97).toNat ∧ B p = 97 + (((B p - 97).toNat : Nat) : Int) := by
          obtain ⟨m, hm⟩ := Int.eq_ofNat_of_zero_le b.1
          rw [hm] at cl ⊢
          have := sg_1 ⟨m, by omega⟩ cl
          dsimp only at this
          have e : ((m : Int) - 97).toNat = m - 97 := by omega
          rw [e]
          exact ⟨this.1, by omega⟩
        exact hR (p + 1) _ u (k + 1) [] kk ef (by omega) ⟨fun q => by omega, fun q => by omega⟩ (F5_3 u2) u3 (by omega) u1 ⟨rfl, MS_let hl.1 u4 (u5.trans hl.2)⟩ (by omega)
      · have ef : pF B sum d p = .inl (-1000 - (p : Int)) := by
          unfold pF
          rw [if_neg c, if_neg cd, if_neg cl]
        rw [if_neg cl]
        refine OK_gd (by decide) ?_
        obtain ⟨w1, w2, w3, w4⟩ := wrongs_m P (c := 1) (by omega)
        have w1' : X12_wrongs 1 (h 150 34) h = some (setH h 150 36 (-1000 * 1 - (p : Int))) := w1
        rw [w1', OK_bindE, OK_some, OK_some]
        exact bad _ _ ef (F5_s (by omega)) ⟨by rw [setH_s]; omega, by omega, by omega⟩ kk (by omega)
