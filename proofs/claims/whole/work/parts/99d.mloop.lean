/-! the loop over an E's factors -/
theorem iter0_s {σ ρ : Type} (f : σ → Option (σ ⊕ ρ)) (k : Nat) (s : σ) : iter0 f (k + 1) s = (f s).bind (fun r => match r with | Sum.inl s' => iter0 f k s' | Sum.inr x => some x) := rfl
theorem bindA {α β γ : Type} (x : Option α) (f : α → Option β) (g : β → Option γ) : (x.bind f).bind g = x.bind (fun a => (f a).bind g) := by cases x <;> rfl
noncomputable def VTm (x5 : Hp) : Option Hp := (X12_isGood x5).bind fun r6 => if w32 r6 = 0 then some x5 else (X12_top x5).bind fun r7 => if w32 r7 ≠ w32 91 then some x5 else (X12_wrongs 1 (x5 150 34) x5).bind fun r8 => some r8
noncomputable def HLm (k : Nat) (w : Int) (h : Hp) : Option Hp := (iter0 X12_value_l5 k (w, h)).bind VTm
noncomputable def JGm (k : Nat) (r : (Int × Hp) ⊕ Hp) : Option Hp := match r with
  | .inl s => HLm k s.1 s.2
  | .inr r => VTm r
noncomputable def JLm (k : Nat) (h : Hp) : Option Hp := (X12_value_j15 h).bind (JGm k)
noncomputable def ftailM (x4 : Hp) : Option Hp := (X12_isGood x4).bind fun r5 => if w32 r5 ≠ 0 then (X12_seesDigit x4).bind fun r6 => if w32 r6 = 0 then (X12_here x4).bind fun r7 => (X12_isValue r7).bind fun r8 => if w32 r8 = 0 then (X12_wrongs 1 (x4 150 34) x4).bind fun r9 => some r9 else (X12_here x4).bind fun r10 => (X12_emit 1 r10 x4).bind fun r11 => some (setH r11 150 34 ((r11 150 34) + 1)) else (X12_reads x4).bind fun r12 => (X12_emit 0 r12.1 r12.2).bind fun r13 => some r13 else some x4
noncomputable def BFm (k j : Nat) (h : Hp) : Option Hp := ((iter0 X12_factor_l0 j h).bind ftailM).bind (JLm k)
theorem HL_s (k : Nat) (w : Int) (h : Hp) : HLm (k + 1) w h = (X12_value_l5 (w, h)).bind (JGm k) := by
  unfold HLm
  rw [iter0_s, bindA]
  congr 1
  funext r
  cases r <;> rfl
theorem HL_0 (k : Nat) (h : Hp) : HLm (k + 1) 0 h = VTm h := by
  rw [HL_s]
  unfold X12_value_l5
  dsimp only
  rw [if_pos (by decide)]
  rfl
theorem VT_f {h : Hp} (hf : w32 (h 150 36) ≠ 0) : VTm h = some h := by
  unfold VTm
  rw [good_f hf, Option.bind_some, if_pos (by decide)]
theorem HL_f {k : Nat} {w : Int} {h : Hp} (hf : w32 (h 150 36) ≠ 0) : HLm (k + 1) w h = some h := by
  rw [HL_s]
  unfold X12_value_l5
  dsimp only
  by_cases c : w32 w = 0
  · rw [if_pos c, Option.bind_some]
    exact VT_f hf
  · rw [if_neg c, good_f hf, Option.bind_some, if_pos (by decide), Option.bind_some]
    exact VT_f hf
theorem JL_f {k : Nat} {h : Hp} (hf : w32 (h 150 36) ≠ 0) : JLm (k + 1) h = some (setH h 150 42 0) := by
  have hf' : w32 ((setH h 150 42 0) 150 36) ≠ 0 := by
    rw [setH_n (by decide)]
    exact hf
  unfold JLm X12_value_j15 X12_value_j26 X12_value_j27
  rw [good_f hf', Option.bind_some, if_pos (by decide), Option.bind_some]
  exact HL_f hf'
theorem BF_f {k j : Nat} {h : Hp} (hf : w32 (h 150 36) ≠ 0) : BFm (k + 1) (j + 1) h = some (setH h 150 42 0) := by
  unfold BFm
  rw [iter0_s]
  have e : X12_factor_l0 h = some (.inr h) := by
    unfold X12_factor_l0
    rw [good_f hf, Option.bind_some, if_pos (by decide)]
  have e2 : ftailM h = some h := by
    unfold ftailM
    rw [good_f hf, Option.bind_some, if_neg (by decide)]
  rw [e, Option.bind_some]
  show ((some h).bind ftailM).bind (JLm (k + 1)) = _
  rw [Option.bind_some, e2, Option.bind_some, JL_f hf]
theorem PM_42 {h : Hp} {n p k d j : Nat} {z : Int} {B : Nat → Int} {st : List Int} (P : PM h n B p k d st) (hj : j = 41 ∨ j = 42) : PM (setH h 150 j z) n B p k d st := by
  obtain ⟨⟨p1, p2, p3, p4, p5, p6⟩, ⟨q1, q2, q3, q4⟩, hB, ⟨s1, s2⟩, hd⟩ := P
  refine ⟨⟨?_, ?_, ?_, ?_, ?_, ?_⟩, ⟨q1, q2, q3, q4⟩, ?_, ⟨SKx_o (setH_o (by decide)) s1, s2⟩, ?_⟩
  · rw [setH_n (by omega)]
    exact p1
  · rw [setH_n (by omega)]
    exact p2
  · rw [setH_n (by omega)]
    exact p3
  · rw [setH_n (by omega)]
    exact p4
  · rw [setH_n (by omega)]
    exact p5
  · rw [setH_n (by omega)]
    exact p6
  · rw [setH_o (by decide)]
    exact hB
  · unfold DKm
    rw [setH_o (by decide), setH_o (by decide)]
    exact hd
theorem VT_o {h : Hp} {n p k d : Nat} {B : Nat → Int} {st : List Int} (P : PM h n B p k d st) (hs : st.headD 0 ≠ 91) : VTm h = some h := by
  have b := hd_b P
  unfold VTm
  rw [good_m P, Option.bind_some, if_neg (by decide), top_m P, Option.bind_some, w32_id (by omega) (by omega)]
  exact if_pos (by rw [show w32 91 = 91 from rfl]; exact hs)
theorem VT_b {h : Hp} {n p k d : Nat} {B : Nat → Int} {st : List Int} (P : PM h n B p k d st) (hs : st.headD 0 = 91) : OK (VTm h) (fun h' => F5 h h' ∧ BDm (-1000 - (p : Int)) h') := by
  obtain ⟨w1, w2, w3, w4⟩ := wrongs_m P (c := 1) (by omega)
  have w1' : X12_wrongs 1 (h 150 34) h = some (setH h 150 36 (-1000 * 1 - (p : Int))) := w1
  have pb := P.2.1
  unfold VTm
  rw [good_m P, Option.bind_some, if_neg (by decide), top_m P, Option.bind_some, hs, if_neg (by decide), w1', OK_bindE, OK_some, OK_some]
  exact ⟨F5_s (by omega), by rw [setH_s]; omega, by omega, by omega⟩
theorem HL_go {h : Hp} {n p k d kk : Nat} {B : Nat → Int} {st : List Int} (P : PM h n B p k d st) (h42 : h 150 42 = 0) : HLm (kk + 1) 1 h = BFm kk FU h := by
  rw [HL_s]
  unfold X12_value_l5 BFm
  dsimp only
  rw [if_neg (by decide), good_m P, Option.bind_some, if_neg (by decide), if_neg (by rw [h42]; decide), bindA]
  have e : X12_factor h = (iter0 X12_factor_l0 FU h).bind ftailM := by
    rw [← iter_eq]
    rfl
  rw [e]
  rfl
theorem HL_jl {h : Hp} {n p k d kk : Nat} {B : Nat → Int} {st : List Int} (P : PM h n B p k d st) (h42 : h 150 42 = 1) : HLm (kk + 1) 1 h = JLm kk h := by
  rw [HL_s]
  unfold X12_value_l5 JLm
  dsimp only
  rw [if_neg (by decide), good_m P, Option.bind_some, if_neg (by decide), if_pos (by rw [h42]; decide)]
/-- a sign behind: what binds as close becomes steps, and on to the next factor -/
theorem JL_op {fl : Bool} {n q k d a kk : Nat} {B : Nat → Int} {h : Hp} {pd st : List Int} {v : Den} {Q : Hp → Prop} (P : PM h n B q k d (pd ++ st)) (t : if fl = true then SE h a k pd v else TE h a k pd v) (hc : if fl = true then plC (B q) else tmC (B q)) (h1 : ¬ tmC (st.headD 0)) (h2 : fl = true → ¬ plC (st.headD 0)) (cont : ∀ h3 k2, PM h3 n B (q + 1) k2 d (B q :: st) → F5 h h3 → KPm h h3 k → k ≤ k2 → MS (h3 177) (h3 178) a k2 v False → OK (BFm kk FU h3) Q) : OK (JLm (kk + 1) h) Q := by
  have b := PM_B P q
  have P2 := PM_42 (z := 0) P (j := 42) (by omega)
  have t2 : if fl = true then SE (setH h 150 42 0) a k pd v else TE (setH h 150 42 0) a k pd v := by
    have kp : KPm h (setH h 150 42 0) k := KP_o (setH_o (by decide)) (setH_o (by decide))
    split
    · rename_i e
      rw [if_pos e] at t
      exact SPm_cg kp t
    · rename_i e
      rw [if_neg e] at t
      exact TPm_cg kp t
  have hq : q < n := PM_lt P (by split at hc <;> omega)
  have j9 : OK (X12_stays_j9 (B q) (setH h 150 42 0)) (fun z => z.1 = 1 ∧ ∃ k2, PM z.2 n B (q + 1) k2 d (B q :: st) ∧ F5 h z.2 ∧ KPm h z.2 k ∧ k ≤ k2 ∧ MS (z.2 177) (z.2 178) a k2 v False ∧ z.2 150 42 = 0) := by
    unfold X12_stays_j9
    have e1 : (if plC (B q) then (1 : Int) else 0) = if fl = true then 1 else 0 := by
      by_cases e : fl = true
      · rw [if_pos e] at hc ⊢
        rw [if_pos hc]
      · rw [if_neg e] at hc ⊢
        rw [if_neg (by omega)]
    rw [isPlus_s (by omega), e1, OK_bindE, OK_some, OK_bindE]
    refine OK_mono (sums_m P2 t2 h1 h2) (fun y hy => ?_)
    obtain ⟨k2, y1, y2, y3, y4, y5⟩ := hy
    rw [OK_bindE]
    refine OK_mono (puts_m y1 hq (c := B q) (by omega)) (fun z hz => ?_)
    obtain ⟨z1, z2, z3, z4⟩ := hz
    rw [OK_some]
    refine ⟨rfl, k2, z1, F5_tr (F5_s (by omega)) (F5_tr (F5_3 y3) (F5_3 z2)), ?_, y2, by dsimp only; rw [z3, z4]; exact y5, ?_⟩
    · exact KP_tr (KP_tr (KP_o (setH_o (by decide)) (setH_o (by decide))) y4 (Nat.le_refl _)) (KP_o z3 z4) (Nat.le_refl _)
    · dsimp only
      rw [z2 150 42 (by omega) (by decide) (by decide) (by decide), y3 150 42 (by omega) (by decide) (by decide) (by decide), setH_s]
  have st9 : X12_stays (setH h 150 42 0) = X12_stays_j9 (B q) (setH h 150 42 0) := by
    unfold X12_stays
    rw [here_m P2, Option.bind_some, isTimes_s (by omega), Option.bind_some, isPlus_s (by omega), Option.bind_some]
    by_cases e : fl = true
    · rw [if_pos e] at hc
      rw [if_neg (show ¬ tmC (B q) by omega), if_neg (by decide), if_pos hc, if_neg (by decide)]
    · rw [if_neg e] at hc
      rw [if_pos hc, if_pos (by decide)]
  obtain ⟨z, ez, z0, k2, z1, z2, z3, z4, z5, z6⟩ := OK_ex j9
  unfold JLm X12_value_j15 X12_value_j26 X12_value_j27
  rw [good_m P2, Option.bind_some, if_neg (by decide), st9, ez, Option.bind_some, z0, if_neg (by decide), OK_bindE, OK_some]
  show OK (HLm (kk + 1) 1 z.2) Q
  rw [HL_go z1 z6]
  exact cont z.2 k2 z1 z2 z3 z4 z5
/-- no sign behind, and no ] : the E ends -/
theorem JL_end {n q k d a kk : Nat} {B : Nat → Int} {h : Hp} {pd st : List Int} {v : Den} {Q : Hp → Prop} (P : PM h n B q k d (pd ++ st)) (t : SE h a k pd v) (c1 : ¬ tmC (B q)) (c2 : ¬ plC (B q)) (c3 : B q ≠ 93) (h1 : ¬ tmC (st.headD 0)) (h2 : ¬ plC (st.headD 0)) (cont : ∀ h3 k2, PM h3 n B q k2 d st → F5 h h3 → KPm h h3 k → k ≤ k2 → MS (h3 177) (h3 178) a k2 v False → OK (VTm h3) Q) : OK (JLm (kk + 1) h) Q := by
  have b := PM_B P q
  have P2 := PM_42 (z := 0) P (j := 42) (by omega)
  obtain ⟨z, ez, k2, z1, z2, z3, z4, z5⟩ := OK_ex (sums_m (fl := true) P2 (by rw [if_pos rfl]; exact SPm_cg (KP_o (setH_o (by decide)) (setH_o (by decide))) t) h1 (fun _ => h2))
  have ez' : X12_sums 1 (setH h 150 42 0) = some z := ez
  have st9 : X12_stays (setH h 150 42 0) = some (0, z) := by
    unfold X12_stays
    rw [here_m P2, Option.bind_some, isTimes_s (by omega), Option.bind_some, isPlus_s (by omega), Option.bind_some, if_neg c1, if_neg (by decide), if_neg c2, if_pos (by decide), ez', Option.bind_some, if_neg (by rw [w32_id (by omega) (by omega)]; exact c3)]
  unfold JLm X12_value_j15 X12_value_j26 X12_value_j27
  rw [good_m P2, Option.bind_some, if_neg (by decide), st9, Option.bind_some]
  dsimp only
  rw [if_pos (by decide), OK_bindE, OK_some]
  show OK (HLm (kk + 1) 0 z) Q
  rw [HL_0]
  exact cont z k2 z1 (F5_tr (F5_s (by omega)) (F5_3 z3)) (KP_tr (KP_o (setH_o (by decide)) (setH_o (by decide))) z4 (Nat.le_refl _)) z2 z5
/-- ] behind, and its [ : on behind it -/
theorem JL_close {n q k d a kk : Nat} {B : Nat → Int} {h : Hp} {pd st : List Int} {v : Den} {Q : Hp → Prop} (P : PM h n B q k (d + 1) (pd ++ (91 :: st))) (t : SE h a k pd v) (c3 : B q = 93) (cont : ∀ h3 k2, PM h3 n B (q + 1) k2 d st → F5 h h3 → KPm h h3 k → k ≤ k2 → MS (h3 177) (h3 178) a k2 v False → OK (JLm kk h3) Q) : OK (JLm (kk + 1) h) Q := by
  have b := PM_B P q
  have P2 := PM_42 (z := 0) P (j := 42) (by omega)
  obtain ⟨z, ez, k2, z1, z2, z3, z4, z5⟩ := OK_ex (sums_m (fl := true) P2 (by rw [if_pos rfl]; exact SPm_cg (KP_o (setH_o (by decide)) (setH_o (by decide))) t) (by show ¬ tmC 91; decide) (fun _ => by show ¬ plC 91; decide))
  have ez' : X12_sums 1 (setH h 150 42 0) = some z := ez
  have hq : q < n := PM_lt P (by omega)
  have st9 : X12_stays (setH h 150 42 0) = some (1, setH (setH (setH (setH z 150 40 ((z 150 40) - 1)) 150 39 (((setH z 150 40 ((z 150 40) - 1)) 150 39) - 1)) 150 34 (((setH (setH z 150 40 ((z 150 40) - 1)) 150 39 (((setH z 150 40 ((z 150 40) - 1)) 150 39) - 1)) 150 34) + 1)) 150 42 1) := by
    unfold X12_stays
    rw [here_m P2, Option.bind_some, isTimes_s (by omega), Option.bind_some, isPlus_s (by omega), Option.bind_some, if_neg (show ¬ tmC (B q) by omega), if_neg (by decide), if_neg (show ¬ plC (B q) by omega), if_pos (by decide), ez', Option.bind_some, if_pos (by rw [c3]), top_m z1, Option.bind_some]
    exact if_pos rfl
  obtain ⟨⟨p1, p2, p3, p4, p5, p6⟩, ⟨q1, q2, q3, q4⟩, hB, ⟨s1, s2⟩, hd⟩ := z1
  have el : (91 :: st : List Int).length = st.length + 1 := by simp
  generalize hg : setH (setH (setH (setH z 150 40 ((z 150 40) - 1)) 150 39 (((setH z 150 40 ((z 150 40) - 1)) 150 39) - 1)) 150 34 (((setH (setH z 150 40 ((z 150 40) - 1)) 150 39 (((setH z 150 40 ((z 150 40) - 1)) 150 39) - 1)) 150 34) + 1)) 150 42 1 = y at st9
  have fy : F5 z y := by
    rw [← hg]
    exact F5_tr (F5_tr (F5_tr (F5_s (by omega)) (F5_s (by omega))) (F5_s (by omega))) (F5_s (by omega))
  have yo : ∀ c, c ≠ 150 → y c = z c := fun c hc => by
    rw [← hg, setH_o hc, setH_o hc, setH_o hc, setH_o hc]
  have Py : PM y n B (q + 1) k2 d st := by
    refine ⟨⟨?_, ?_, ?_, ?_, ?_, ?_⟩, ⟨by omega, by omega, q3, by omega⟩, ?_, ⟨SKx_o (yo 179 (by decide)) s1.2, fun e he => s2 e (List.mem_cons_of_mem _ he)⟩, ?_⟩
    · rw [← hg]
      simp (disch := decide) only [setH_s, setH_n]
      omega
    · rw [← hg]
      simp (disch := decide) only [setH_s, setH_n]
      exact p2
    · rw [← hg]
      simp (disch := decide) only [setH_s, setH_n]
      exact p3
    · rw [← hg]
      simp (disch := decide) only [setH_s, setH_n]
      exact p4
    · rw [← hg]
      simp (disch := decide) only [setH_s, setH_n]
      omega
    · rw [← hg]
      simp (disch := decide) only [setH_s, setH_n]
      omega
    · rw [yo 151 (by decide)]
      exact hB
    · unfold DKm
      rw [yo 177 (by decide), yo 178 (by decide)]
      exact hd
  have y42 : y 150 42 = 1 := by rw [← hg, setH_s]
  unfold JLm X12_value_j15 X12_value_j26 X12_value_j27
  rw [good_m P2, Option.bind_some, if_neg (by decide), st9, Option.bind_some]
  dsimp only
  rw [if_neg (by decide), OK_bindE, OK_some]
  show OK (HLm (kk + 1) 1 y) Q
  rw [HL_jl Py y42]
  refine cont y k2 Py (F5_tr (F5_s (by omega)) (F5_tr (F5_3 z3) fy)) (KP_tr (KP_tr (KP_o (setH_o (by decide)) (setH_o (by decide))) z4 (Nat.le_refl _)) (KP_o (yo 177 (by decide)) (yo 178 (by decide))) (Nat.le_refl _)) z2 ?_
  rw [yo 177 (by decide), yo 178 (by decide)]
  exact z5
/-- ] behind, but no [ : the E ends there -/
theorem JL_wrong {n q k d a kk : Nat} {B : Nat → Int} {h : Hp} {pd st : List Int} {v : Den} {Q : Hp → Prop} (P : PM h n B q k d (pd ++ st)) (t : SE h a k pd v) (c3 : B q = 93) (h1 : ¬ tmC (st.headD 0)) (h2 : ¬ plC (st.headD 0)) (h3 : st.headD 0 ≠ 91) (cont : ∀ h3, F5 h h3 → BDm (-1000 - (q : Int)) h3 → Q h3) : OK (JLm (kk + 1) h) Q := by
  have b := PM_B P q
  have P2 := PM_42 (z := 0) P (j := 42) (by omega)
  obtain ⟨z, ez, k2, z1, z2, z3, z4, z5⟩ := OK_ex (sums_m (fl := true) P2 (by rw [if_pos rfl]; exact SPm_cg (KP_o (setH_o (by decide)) (setH_o (by decide))) t) h1 (fun _ => h2))
  have ez' : X12_sums 1 (setH h 150 42 0) = some z := ez
  have bz := hd_b z1
  obtain ⟨w1, w2, w3, w4⟩ := wrongs_m z1 (c := 1) (by omega)
  have w1' : X12_wrongs 1 (z 150 34) z = some (setH z 150 36 (-1000 * 1 - (q : Int))) := w1
  have bd : BDm (-1000 - (q : Int)) (setH z 150 36 (-1000 * 1 - (q : Int))) := ⟨by rw [setH_s]; omega, by have := P.2.1; omega, by omega⟩
  have st9 : X12_stays (setH h 150 42 0) = some (0, setH z 150 36 (-1000 * 1 - (q : Int))) := by
    unfold X12_stays
    rw [here_m P2, Option.bind_some, isTimes_s (by omega), Option.bind_some, isPlus_s (by omega), Option.bind_some, if_neg (show ¬ tmC (B q) by omega), if_neg (by decide), if_neg (show ¬ plC (B q) by omega), if_pos (by decide), ez', Option.bind_some, if_pos (by rw [c3]), top_m z1, Option.bind_some, if_neg (by rw [w32_id (by omega) (by omega)]; exact h3), w1', Option.bind_some]
  unfold JLm X12_value_j15 X12_value_j26 X12_value_j27
  rw [good_m P2, Option.bind_some, if_neg (by decide), st9, Option.bind_some]
  dsimp only
  rw [if_pos (by decide), OK_bindE, OK_some]
  show OK (HLm (kk + 1) 0 (setH z 150 36 (-1000 * 1 - (q : Int)))) Q
  rw [HL_f (BD_ne bd), OK_some]
  exact cont _ (F5_tr (F5_s (by omega)) (F5_tr (F5_3 z3) (F5_s (by omega)))) bd
