/-! the loop over a C's pieces -/
noncomputable def LCm (k : Nat) (w : Int) (h : Hp) : Option Hp := iter0 X12_condition_l20 k (w, h)
noncomputable def KCm (k : Nat) (r : (Int × Hp) ⊕ Hp) : Option Hp := match r with
  | .inl s => LCm k s.1 s.2
  | .inr r => some r
noncomputable def GBm (k : Nat) (w : Int) (h : Hp) : Option Hp := (X12_condition_j30 w h).bind (KCm k)
noncomputable def ptailM (x5 : Hp) : Option Hp := (X12_isGood x5).bind fun r6 => if w32 r6 = 0 then X12_pieceOfC_j19 x5 else (X12_value x5).bind fun r17 => X12_pieceOfC_j19 r17
noncomputable def BPm (k j : Nat) (h : Hp) : Option Hp := ((iter0 X12_pieceOfC_l0 j h).bind ptailM).bind (GBm k 1)
theorem LC_s (k : Nat) (w : Int) (h : Hp) : LCm (k + 1) w h = (X12_condition_l20 (w, h)).bind (KCm k) := by
  unfold LCm
  rw [iter0_s]
  congr 1
  funext r
  cases r <;> rfl
theorem LC_f {k : Nat} {w : Int} {h : Hp} (hf : w32 (h 150 36) ≠ 0) : LCm (k + 1) w h = some h := by
  rw [LC_s]
  unfold X12_condition_l20
  dsimp only
  rw [good_f hf, Option.bind_some, if_pos (by decide)]
  rfl
theorem GB_f {k : Nat} {w : Int} {h : Hp} (hf : w32 (h 150 36) ≠ 0) : GBm (k + 1) w h = some h := by
  unfold GBm X12_condition_j30
  rw [good_f hf, Option.bind_some, if_pos (by decide), Option.bind_some]
  exact LC_f hf
theorem j19_f {h : Hp} (hf : w32 (h 150 36) ≠ 0) : X12_pieceOfC_j19 h = some h := by
  unfold X12_pieceOfC_j19
  rw [good_f hf, Option.bind_some, if_neg (by decide)]
theorem BP_f {k j : Nat} {h : Hp} (hf : w32 (h 150 36) ≠ 0) : BPm (k + 1) (j + 1) h = some h := by
  have e : X12_pieceOfC_l0 h = some (.inr h) := by
    unfold X12_pieceOfC_l0
    rw [good_f hf, Option.bind_some, if_pos (by decide)]
  have e2 : ptailM h = some h := by
    unfold ptailM
    rw [good_f hf, Option.bind_some, if_pos (by decide), j19_f hf]
  unfold BPm
  rw [iter0_s, e, Option.bind_some]
  show ((some h).bind ptailM).bind (GBm (k + 1) 1) = _
  rw [Option.bind_some, e2, Option.bind_some, GB_f hf]
theorem LC_1 {h : Hp} {n p k d kk : Nat} {B : Nat → Int} {st : List Int} (P : PM h n B p k d st) (h41 : h 150 41 = 0) : LCm (kk + 1) 1 h = BPm kk FU h := by
  have e : X12_pieceOfC h = (iter0 X12_pieceOfC_l0 FU h).bind ptailM := by
    rw [← iter_eq]
    rfl
  rw [LC_s]
  unfold X12_condition_l20 BPm
  dsimp only
  rw [good_m P, Option.bind_some, if_neg (by decide), if_neg (by rw [h41]; decide), if_neg (by decide), bindA, e]
  rfl
theorem LC_0 {h : Hp} {n p k d kk : Nat} {B : Nat → Int} {st : List Int} (P : PM h n B p k d st) (h41 : h 150 41 = 0) : LCm (kk + 1) 0 h = GBm kk 0 h := by
  rw [LC_s]
  unfold X12_condition_l20
  dsimp only
  rw [good_m P, Option.bind_some, if_neg (by decide), if_neg (by rw [h41]; decide), if_pos (by decide)]
  rfl
theorem LC_e {h : Hp} {n p k d kk : Nat} {w : Int} {B : Nat → Int} {st : List Int} (P : PM h n B p k d st) (h41 : h 150 41 = 1) : LCm (kk + 1) w h = some h := by
  rw [LC_s]
  unfold X12_condition_l20
  dsimp only
  rw [good_m P, Option.bind_some, if_neg (by decide), if_pos (by rw [h41]; decide)]
  rfl
theorem GB_o {h : Hp} {n p k d kk : Nat} {w : Int} {B : Nat → Int} {st : List Int} (P : PM h n B p k d st) {z : Int × Hp} (e : X12_goesBehind h = some z) : GBm (kk + 1) w h = LCm (kk + 1) z.1 z.2 := by
  unfold GBm X12_condition_j30
  rw [good_m P, Option.bind_some, if_neg (by decide), e]
  rfl
/-- & or | behind -/
theorem GB_op {fl : Bool} {n q k d a kk : Nat} {w : Int} {B : Nat → Int} {h : Hp} {pd st : List Int} {v : Den} {Q : Hp → Prop} (P : PM h n B q k d (pd ++ st)) (h41 : h 150 41 = 0) (t : if fl = true then SC h a k pd v else TC h a k pd v) (hc : if fl = true then orC (B q) else anC (B q)) (h1 : st.headD 0 ≠ 38) (h2 : fl = true → st.headD 0 ≠ 124) (cont : ∀ h3 k2, PM h3 n B (q + 1) k2 d (B q :: st) → F5 h h3 → KPm h h3 k → k ≤ k2 → MS (h3 177) (h3 178) a k2 v True → OK (BPm kk FU h3) Q) : OK (GBm (kk + 1) w h) Q := by
  have b := PM_B P q
  have hq : q < n := PM_lt P (by split at hc <;> omega)
  have j9 : OK (X12_goesBehind h) (fun z => z.1 = 1 ∧ ∃ k2, PM z.2 n B (q + 1) k2 d (B q :: st) ∧ F5 h z.2 ∧ KPm h z.2 k ∧ k ≤ k2 ∧ MS (z.2 177) (z.2 178) a k2 v True) := by
    have js : OK (X12_goesBehind_j16 (B q) (if fl = true then 1 else 0) h) (fun z => z.1 = 1 ∧ ∃ k2, PM z.2 n B (q + 1) k2 d (B q :: st) ∧ F5 h z.2 ∧ KPm h z.2 k ∧ k ≤ k2 ∧ MS (z.2 177) (z.2 178) a k2 v True) := by
      unfold X12_goesBehind_j16
      rw [OK_bindE]
      refine OK_mono (joins_m P t h1 h2) (fun y hy => ?_)
      obtain ⟨k2, y1, y2, y3, y4, y5⟩ := hy
      rw [OK_bindE]
      refine OK_mono (puts_m y1 hq (c := B q) (by omega)) (fun z hz => ?_)
      obtain ⟨z1, z2, z3, z4⟩ := hz
      rw [OK_some]
      exact ⟨rfl, k2, z1, F5_tr (F5_3 y3) (F5_3 z2), KP_tr y4 (KP_o z3 z4) (Nat.le_refl _), y2, by dsimp only; rw [z3, z4]; exact y5⟩
    unfold X12_goesBehind X12_goesBehind_j9
    rw [here_m P, OK_bindE, OK_some]
    by_cases e : fl = true
    · rw [if_pos e] at hc js
      have hc' : B q = 124 := hc
      rw [hc'] at js ⊢
      refine OK_gn (by decide) (OK_gn (by decide) (OK_gn (by decide) js))
    · rw [if_neg e] at hc js
      have hc' : B q = 38 := hc
      rw [hc'] at js ⊢
      refine OK_gd (by decide) (OK_gd (by decide) js)
  obtain ⟨z, ez, z0, k2, z1, z2, z3, z4, z5⟩ := OK_ex j9
  rw [GB_o P ez, z0, LC_1 z1 ((F5_41 z2).trans h41)]
  exact cont z.2 k2 z1 z2 z3 z4 z5
/-- nothing that goes on behind -/
theorem GB_wrong {n q k d kk : Nat} {w : Int} {B : Nat → Int} {h : Hp} {st : List Int} {Q : Hp → Prop} (P : PM h n B q k d st) (c1 : B q ≠ 38) (c2 : B q ≠ 124) (c3 : B q ≠ 41) (cont : ∀ h3, F6 h h3 → BDm (-1000 - (q : Int)) h3 → Q h3) : OK (GBm (kk + 1) w h) Q := by
  have b := PM_B P q
  have pb := P.2.1
  obtain ⟨w1, w2, w3, w4⟩ := wrongs_m P (c := 1) (by omega)
  have w1' : X12_wrongs 1 (h 150 34) h = some (setH h 150 36 (-1000 * 1 - (q : Int))) := w1
  have bd : BDm (-1000 - (q : Int)) (setH h 150 36 (-1000 * 1 - (q : Int))) := ⟨by rw [setH_s]; omega, by omega, by omega⟩
  have e : X12_goesBehind h = some (0, setH h 150 36 (-1000 * 1 - (q : Int))) := by
    unfold X12_goesBehind
    have wq := w32_id (z := B q) (by omega) (by omega)
    rw [here_m P, Option.bind_some, if_neg (by rw [wq]; exact c1), if_pos (by rw [wq]; exact c2), if_neg (by rw [wq]; exact c3), w1']
    rfl
  rw [GB_o P e, LC_f (BD_ne bd), OK_some]
  exact cont _ (F6_s (by omega)) bd
/-- the ) of a ( : the top ( is left -/
theorem close_m {n q k d a : Nat} {B : Nat → Int} {h : Hp} {pd st : List Int} {v : Den} (P : PM h n B q k (d + 1) (pd ++ (40 :: st))) (h41 : h 150 41 = 0) (t : SC h a k pd v) (hc : B q = 41) : ∃ (y : Hp) (k2 : Nat), X12_goesBehind h = X12_goesBehind_j60 (if st = [] then 1 else 0) y ∧ PM y n B (q + 1) k2 d st ∧ F5 h y ∧ KPm h y k ∧ k ≤ k2 ∧ MS (y 177) (y 178) a k2 v True := by
  have hq : q < n := PM_lt P (by omega)
  obtain ⟨z, ez, k2, z1, z2, z3, z4, z5⟩ := OK_ex (joins_m (fl := true) P (by rw [if_pos rfl]; exact t) (by show (40 : Int) ≠ 38; decide) (fun _ => by show (40 : Int) ≠ 124; decide))
  have ez' : X12_joins 1 h = some z := ez
  obtain ⟨⟨p1, p2, p3, p4, p5, p6⟩, ⟨q1, q2, q3, q4⟩, hB, ⟨s1, s2⟩, hd⟩ := z1
  have el : (40 :: st : List Int).length = st.length + 1 := by simp
  refine ⟨setH (setH (setH z 150 40 ((z 150 40) - 1)) 150 39 ((z 150 39) - 1)) 150 34 ((z 150 34) + 1), k2, ?_, ?_, ?_, ?_, z2, ?_⟩
  · unfold X12_goesBehind
    rw [here_m P, Option.bind_some, hc, if_neg (by decide), if_pos (by decide), if_pos (by decide), ez', Option.bind_some]
    have e0 : z 150 40 - 1 = (st.length : Int) := by omega
    by_cases e : st = []
    · rw [if_neg (by rw [e0, e]; decide), if_pos e]
    · have hl : 1 ≤ st.length := by
        cases st with
        | nil => exact absurd rfl e
        | cons c r => simp
      rw [if_pos (by rw [e0, w32_id (by omega) (by omega)]; omega), if_neg e]
  · refine ⟨⟨?_, ?_, ?_, ?_, ?_, ?_⟩, ⟨by omega, by omega, q3, by omega⟩, ?_, ⟨SKx_o (h := z) (by simp (disch := decide) only [setH_o]) s1.2, fun e he => s2 e (List.mem_cons_of_mem _ he)⟩, ?_⟩
    · simp (disch := decide) only [setH_s, setH_n]
      omega
    · simp (disch := decide) only [setH_s, setH_n]
      exact p2
    · simp (disch := decide) only [setH_s, setH_n]
      exact p3
    · simp (disch := decide) only [setH_s, setH_n]
      exact p4
    · simp (disch := decide) only [setH_s, setH_n]
      omega
    · simp (disch := decide) only [setH_s, setH_n]
      omega
    · simp (disch := decide) only [setH_o]
      exact hB
    · unfold DKm
      simp (disch := decide) only [setH_o]
      exact hd
  · exact F5_tr (F5_3 z3) (F5_tr (F5_tr (F5_s (by omega)) (F5_s (by omega))) (F5_s (by omega)))
  · exact KP_tr z4 (KP_o (by simp (disch := decide) only [setH_o]) (by simp (disch := decide) only [setH_o])) (Nat.le_refl _)
  · simp (disch := decide) only [setH_o]
    exact z5
theorem GB_close {n q k d a m kk : Nat} {w : Int} {B : Nat → Int} {h : Hp} {pd st : List Int} {v : Den} {Q : Hp → Prop} (P : PM h n B q k (d + m + 1) (pd ++ (40 :: (List.replicate m 33 ++ st)))) (h41 : h 150 41 = 0) (t : SC h a k pd v) (hc : B q = 41) (hs : st ≠ []) (h1 : st.headD 0 ≠ 33) (cont : ∀ h3 k2, PM h3 n B (q + 1) k2 d st → F6 h h3 → h3 150 41 = 0 → KPm h h3 k → k ≤ k2 → MS (h3 177) (h3 178) a k2 (nots m v) True → OK (GBm kk 0 h3) Q) : OK (GBm (kk + 1) w h) Q := by
  obtain ⟨y, k2, e, y1, y2, y3, y4, y5⟩ := close_m P h41 t hc
  have hne : ¬ (List.replicate m 33 ++ st = []) := fun q => hs (List.append_eq_nil_iff.mp q).2
  rw [if_neg hne] at e
  have P2 := PM_42 (z := 0) y1 (j := 41) (by omega)
  obtain ⟨z, ez, z1, z2, z3, z4⟩ := OK_ex (ends_m P2 (by rw [setH_o (by decide), setH_o (by decide)]; exact y5) h1)
  have eg : X12_goesBehind h = some (0, z) := by
    rw [e]
    unfold X12_goesBehind_j60
    rw [if_pos (Or.inl rfl), if_neg (by decide), ez]
    rfl
  have z41 : z 150 41 = 0 := by rw [F5_41 (F5_3 z2), setH_s]
  rw [GB_o P eg, LC_0 z1 z41]
  exact cont z (k2 + m) z1 (F6_tr (F6_5 y2) (F6_tr (F6_s (by omega)) (F6_3 z2))) z41 (KP_tr (KP_tr y3 (KP_o (setH_o (by decide)) (setH_o (by decide))) (Nat.le_refl _)) z3 y4) (by omega) z4
theorem GB_last {n q k a kk : Nat} {w : Int} {B : Nat → Int} {h : Hp} {pd : List Int} {v : Den} {Q : Hp → Prop} (P : PM h n B q k 1 (pd ++ [40])) (h41 : h 150 41 = 0) (t : SC h a k pd v) (hc : B q = 41) (cont : ∀ h3 k2, PM h3 n B (q + 1) k2 0 [] → F6 h h3 → KPm h h3 k → k ≤ k2 → MS (h3 177) (h3 178) a k2 v True → Q h3) : OK (GBm (kk + 1) w h) Q := by
  obtain ⟨y, k2, e, y1, y2, y3, y4, y5⟩ := close_m P h41 t hc
  rw [if_pos rfl] at e
  have P2 := PM_42 (z := 1) y1 (j := 41) (by omega)
  have eg : X12_goesBehind h = some (0, setH y 150 41 1) := by
    rw [e]
    unfold X12_goesBehind_j60
    rw [if_pos (Or.inr rfl), if_pos (by decide)]
  rw [GB_o P eg, LC_e P2 (by rw [setH_s]), OK_some]
  refine cont _ k2 P2 (F6_tr (F6_5 y2) (F6_s (by omega))) (KP_tr y3 (KP_o (setH_o (by decide)) (setH_o (by decide))) (Nat.le_refl _)) y4 ?_
  rw [setH_o (by decide), setH_o (by decide)]
  exact y5
