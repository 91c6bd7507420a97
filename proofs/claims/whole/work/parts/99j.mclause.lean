/-! THE MODEL READS A TEXT -/
def QM (h : Hp) (n : Nat) (B : Nat → Int) (p k : Nat) : Prop := (h 150 34 = (p : Int) ∧ h 150 35 = (n : Int) ∧ h 150 36 = 0 ∧ h 150 38 = (k : Int)) ∧ (k ≤ p ∧ p ≤ n ∧ n ≤ 160) ∧ (∀ j, B j = if j < n then h 151 j % 256 else 0) ∧ DKm h k
theorem QM_P {h : Hp} {n p k d : Nat} {B : Nat → Int} {st : List Int} (P : PM h n B p k d st) : QM h n B p k := ⟨⟨P.1.1, P.1.2.1, P.1.2.2.1, P.1.2.2.2.1⟩, ⟨by have := P.2.1; omega, P.2.1.2.1, P.2.1.2.2.1⟩, P.2.2.1, P.2.2.2.2⟩
theorem PM_Q {h : Hp} {n p k : Nat} {B : Nat → Int} (P : QM h n B p k) : PM (setH (setH h 150 40 0) 150 39 0) n B p k 0 [] := by
  obtain ⟨⟨p1, p2, p3, p4⟩, ⟨q1, q2, q3⟩, hB, hd⟩ := P
  refine ⟨⟨?_, ?_, ?_, ?_, ?_, ?_⟩, ⟨by simpa using q1, q2, q3, by omega⟩, ?_, ⟨trivial, fun c hc => by cases hc⟩, ?_⟩
  · simp (disch := decide) only [setH_n]
    exact p1
  · simp (disch := decide) only [setH_n]
    exact p2
  · simp (disch := decide) only [setH_n]
    exact p3
  · simp (disch := decide) only [setH_n]
    exact p4
  · rw [setH_s]
    rfl
  · simp (disch := decide) only [setH_n, setH_s]
    rfl
  · simp (disch := decide) only [setH_o]
    exact hB
  · unfold DKm
    simp (disch := decide) only [setH_o]
    exact hd
theorem PMe_cg {h h' : Hp} {n p k d : Nat} {B : Nat → Int} {st : List Int} (P : PM h n B p k d st) (e0 : ∀ j, 34 ≤ j → j ≤ 40 → h' 150 j = h 150 j) (e1 : h' 151 = h 151) (e7 : h' 177 = h 177) (e8 : h' 178 = h 178) (e9 : h' 179 = h 179) : PM h' n B p k d st := by
  obtain ⟨⟨p1, p2, p3, p4, p5, p6⟩, q, hB, ⟨s1, s2⟩, hd⟩ := P
  refine ⟨⟨?_, ?_, ?_, ?_, ?_, ?_⟩, q, by rw [e1]; exact hB, ⟨SKx_o e9 s1, s2⟩, by unfold DKm; rw [e7, e8]; exact hd⟩
  · exact (e0 34 (by decide) (by decide)).trans p1
  · exact (e0 35 (by decide) (by decide)).trans p2
  · exact (e0 36 (by decide) (by decide)).trans p3
  · exact (e0 38 (by decide) (by decide)).trans p4
  · exact (e0 39 (by decide) (by decide)).trans p5
  · exact (e0 40 (by decide) (by decide)).trans p6
theorem here_q {h : Hp} {n p k : Nat} {B : Nat → Int} (P : QM h n B p k) : X12_here h = some (B p) := by
  have e := here_m (PM_Q P)
  unfold X12_here at e ⊢
  simp (disch := decide) only [setH_o, setH_n] at e
  exact e
theorem QM_B {h : Hp} {n p k : Nat} {B : Nat → Int} (P : QM h n B p k) (j : Nat) : 0 ≤ B j ∧ B j ≤ 255 ∧ (n ≤ j → B j = 0) := PM_B (PM_Q P) j
theorem good_q {h : Hp} {n p k : Nat} {B : Nat → Int} (P : QM h n B p k) : X12_isGood h = some 1 := by
  unfold X12_isGood
  rw [P.1.2.2.1]
  rfl
theorem wrongs_q {h : Hp} {n p k : Nat} {B : Nat → Int} (P : QM h n B p k) {c : Nat} (hc : 1 ≤ c ∧ c ≤ 5) : X12_wrongs (c : Int) (h 150 34) h = some (setH h 150 36 (-1000 * (c : Int) - (p : Int))) ∧ BDm (-1000 * (c : Int) - (p : Int)) (setH h 150 36 (-1000 * (c : Int) - (p : Int))) := by
  obtain ⟨⟨p1, p2, p3, p4⟩, ⟨q1, q2, q3⟩, -⟩ := P
  refine ⟨?_, by rw [setH_s], by omega, by omega⟩
  unfold X12_wrongs X12_wrongs_j12
  rw [p3, p1]
  exact if_pos (by decide)
def F7 (h h' : Hp) : Prop := ∀ c j, ¬ (c = 150 ∧ (j = 34 ∨ (36 ≤ j ∧ j ≤ 42))) → ¬ (173 ≤ c ∧ c ≤ 179) → h' c j = h c j
theorem F7_rf {h : Hp} : F7 h h := fun _ _ _ _ => rfl
theorem F7_tr {a b c : Hp} (f : F7 a b) (g : F7 b c) : F7 a c := fun x j h1 h2 => (g x j h1 h2).trans (f x j h1 h2)
theorem F7_6 {a b : Hp} (f : F6 a b) : F7 a b := fun x j h1 h2 => f x j (by omega) (by omega) (by omega) (by omega)
theorem F7_5 {a b : Hp} (f : F5 a b) : F7 a b := F7_6 (F6_5 f)
theorem F7_s {h : Hp} {j : Nat} {z : Int} (hj : j = 34 ∨ (36 ≤ j ∧ j ≤ 42)) : F7 h (setH h 150 j z) := fun c i h1 _ => setH_f (by omega)
theorem F7_o {h : Hp} {c j : Nat} {z : Int} (hc : 173 ≤ c ∧ c ≤ 179) : F7 h (setH h c j z) := fun e i _ h2 => setH_f (by omega)
def wdT (T : Nat) : Nat := if T < 8 then 0 else if T = 8 then 7 else if T = 9 then 8 else 9
theorem isClause_all : ∀ T : Fin 11, ∀ c : Fin 256, X12_isClause (T.val : Int) (c.val : Int) = some (if inSg (wdT T.val) (c.val : Int) = true then 1 else 0) := by decide +kernel
theorem isClause_s {T : Nat} {c : Int} (hT : T ≤ 10) (hc : 0 ≤ c ∧ c ≤ 255) : X12_isClause (T : Int) c = some (if inSg (wdT T) c = true then 1 else 0) := by
  obtain ⟨n, rfl⟩ := Int.eq_ofNat_of_zero_le hc.1
  exact isClause_all ⟨T, by omega⟩ ⟨n, by omega⟩
theorem pK_eq (B : Nat → Int) (w c p : Nat) : pK B w c p = if inSg w (B p) = true then (if c < 12 then (match pE B 60 2 0 (p + 1) with
    | .inl f => .inl f
    | .inr (q, v) => match pKC B q with
      | .inl f => .inl f
      | .inr (r, u) => .inr (r, B p, v, u)) else .inl (-4000 - (p : Int))) else .inl (-1000 - (p : Int)) := by
  unfold pK
  by_cases a : inSg w (B p) = true
  · rw [if_pos a, if_pos a]
    by_cases b : c < 12
    · rw [if_pos b, if_pos b]
      cases pE B 60 2 0 (p + 1) with
      | inl f => rfl
      | inr z =>
        obtain ⟨q, v⟩ := z
        dsimp only
        unfold pKC
        by_cases d : B q = 40
        · rw [if_pos d, if_pos d]
          cases pC B 60 2 1 (q + 1) with
          | inl f => rfl
          | inr y =>
            obtain ⟨r, u⟩ := y
            dsimp only
            by_cases e : B r = 41
            · rw [if_pos e, if_pos e]
            · rw [if_neg e, if_neg e]
        · rw [if_neg d, if_neg d]
    · rw [if_neg b, if_neg b]
  · rw [if_neg a, if_neg a]
/-- the clauses read so far -/
def KMm (h : Hp) (l : List CL) (k : Nat) : Prop := ∀ i c, l[i]? = some c → ∃ a b e : Nat, (h 173 i = c.1 ∧ 0 ≤ c.1 ∧ c.1 ≤ 255) ∧ (h 174 i = (a : Int) ∧ h 175 i = (b : Int) ∧ h 176 i = (e : Int)) ∧ e ≤ k ∧ MS (h 177) (h 178) a b c.2.1 False ∧ MS (h 177) (h 178) b e c.2.2 True
def RKm (n : Nat) (B : Nat → Int) (p : Nat) (l : List CL) (h : Hp) (r : Int ⊕ (Nat × CL)) (h' : Hp) : Prop := F7 h h' ∧ match r with
  | .inl f => BDm f h'
  | .inr (q, c) => l.length < 12 ∧ p < q ∧ ∃ k', QM h' n B q k' ∧ h' 150 37 = ((l.length + 1 : Nat) : Int) ∧ KMm h' (l ++ [c]) k'
theorem j65_f {h : Hp} (hk : 0 ≤ h 150 37 ∧ h 150 37 < 12) : OK (X12_clause_j65 h) (fun h' => F7 h h' ∧ h' 150 36 = h 150 36) := by
  unfold X12_clause_j65
  refine OK_gi (by omega) (by omega) (by omega) ?_
  rw [OK_some]
  exact ⟨F7_tr (F7_o (by omega)) (F7_s (by omega)), by simp (disch := decide) only [setH_o, setH_n]⟩
theorem clause_m {T n p k : Nat} {B : Nat → Int} {h : Hp} {l : List CL} (hT : T ≤ 10) (P : QM h n B p k) (hc : h 150 37 = (l.length : Int)) (hl : l.length ≤ 12) (K : KMm h l k) : OK (X12_clause (T : Int) h) (RKm n B p l h (pK B (wdT T) l.length p)) := by
  have b := QM_B P p
  have pb := P.2.1
  rw [pK_eq]
  have bad : ∀ (f : Int) (y : Hp) (v2 : Int) (r : Int ⊕ (Nat × CL)), r = .inl f → F7 h y → BDm f y → OK (X12_clause_j22 v2 y) (RKm n B p l h r) := fun f y v2 r er fy bd => by
    unfold X12_clause_j22
    rw [good_f (BD_ne bd), OK_bindE, OK_some]
    refine OK_gn (by decide) ?_
    rw [OK_some, er]
    exact ⟨fy, bd⟩
  unfold X12_clause
  rw [here_q P, OK_bindE, OK_some, isClause_s hT (by omega), OK_bindE, OK_some]
  by_cases c1 : inSg (wdT T) (B p) = true
  · rw [if_pos c1, if_pos c1]
    refine OK_gd (by decide) ?_
    by_cases c2 : l.length < 12
    · rw [if_pos c2]
      refine OK_gd (by rw [hc, w32_id (by omega) (by omega), show w32 12 = 12 from rfl]; omega) ?_
      unfold X12_clause_j22
      rw [good_q P, OK_bindE, OK_some]
      refine OK_gd (by decide) ?_
      rw [hc, wtn l.length rfl (by omega), P.1.2.2.2, P.1.1]
      refine OK_gi (by omega) (by omega) (by omega) (OK_gi (by omega) (by omega) (by omega) ?_)
      have hp : p < n := by
        by_cases q : p < n
        · exact q
        · rw [b.2.2 (by omega)] at c1
          have hw : wdT T < 10 := by unfold wdT; split; omega; split; omega; split <;> omega
          rw [inSg_0 ⟨wdT T, hw⟩] at c1
          cases c1
      generalize hg : setH (setH (setH (setH (setH h 173 l.length (B p)) 174 l.length (k : Int)) 150 34 ((p : Int) + 1)) 150 40 0) 150 39 0 = g
      have gf : F7 h g := by
        rw [← hg]
        exact F7_tr (F7_tr (F7_tr (F7_tr (F7_o (by omega)) (F7_o (by omega))) (F7_s (by omega))) (F7_s (by omega))) (F7_s (by omega))
      have Pg : PM g n B (p + 1) k 0 [] := by
        have P1 := PM_up (PM_Q P) hp
        refine PMe_cg P1 (fun j h1 h2 => ?_) ?_ ?_ ?_ ?_
        · rw [← hg]
          have e34 : (setH (setH h 150 40 0) 150 39 0) 150 34 = (p : Int) := by
            simp (disch := decide) only [setH_n]
            exact P.1.1
          rw [e34]
          simp (disch := decide) only [setH_at]
          by_cases a39 : j = 39
          · subst a39
            simp
          · by_cases a40 : j = 40
            · subst a40
              simp
            · simp [a39, a40]
        · rw [← hg]
          simp (disch := decide) only [setH_o]
        · rw [← hg]
          simp (disch := decide) only [setH_o]
        · rw [← hg]
          simp (disch := decide) only [setH_o]
        · rw [← hg]
          simp (disch := decide) only [setH_o]
      have g37 : g 150 37 = (l.length : Int) := by
        rw [← hg]
        simp (disch := decide) only [setH_o, setH_n]
        exact hc
      have g17 : g 177 = h 177 ∧ g 178 = h 178 ∧ g 175 = h 175 ∧ g 176 = h 176 ∧ g 173 = setH h 173 l.length (B p) 173 ∧ g 174 = setH h 174 l.length (k : Int) 174 := by
        rw [← hg]
        refine ⟨?_, ?_, ?_, ?_, ?_, ?_⟩
        · simp (disch := decide) only [setH_o]
        · simp (disch := decide) only [setH_o]
        · simp (disch := decide) only [setH_o]
        · simp (disch := decide) only [setH_o]
        · simp (disch := decide) only [setH_o]
        · rw [setH_o (by decide), setH_o (by decide), setH_o (by decide)]
          funext i
          simp only [setH_at]
          by_cases e : i = l.length <;> simp [e]
      rw [OK_bindE]
      refine OK_mono (value_m Pg (by show ¬ tmC 0; decide) (by show ¬ plC 0; decide) (by show (0 : Int) ≠ 91; decide)) (fun y hy => ?_)
      obtain ⟨y1, y2⟩ := hy
      have y37 : y 150 37 = (l.length : Int) := (y1 150 37 (by omega) (by decide) (by decide) (by decide)).trans g37
      have fy : F7 h y := F7_tr gf (F7_5 y1)
      rw [y37, wtn l.length rfl (by omega)]
      refine OK_gi (by omega) (by omega) (by omega) ?_
      have s37 : (setH y 175 l.length (y 150 38)) 150 37 = (l.length : Int) := by rw [setH_o (by decide)]; exact y37
      have fs : F7 h (setH y 175 l.length (y 150 38)) := F7_tr fy (F7_o (by omega))
      have bad2 : ∀ (f : Int) (r : Int ⊕ (Nat × CL)), r = .inl f → BDm f y → OK ((X12_isGood (setH y 175 l.length (y 150 38))).bind fun r8 => if w32 r8 = 0 then X12_clause_j65 (setH y 175 l.length (y 150 38)) else (X12_condition (setH y 175 l.length (y 150 38))).bind fun r10 => X12_clause_j65 r10) (RKm n B p l h r) := fun f r er bd => by
        have bd' : BDm f (setH y 175 l.length (y 150 38)) := ⟨by rw [setH_o (by decide)]; exact bd.1, bd.2⟩
        rw [good_f (BD_ne bd'), OK_bindE, OK_some]
        refine OK_gd (by decide) ?_
        refine OK_mono (j65_f (by omega)) (fun z hz => ?_)
        rw [er]
        exact ⟨F7_tr fs hz.1, by rw [show z 150 36 = _ from hz.2]; exact bd'.1, bd.2⟩
      cases er : pE B 60 2 0 (p + 1) with
      | inl f =>
        rw [er] at y2
        exact bad2 f _ rfl y2
      | inr z =>
        obtain ⟨q, v⟩ := z
        rw [er] at y2
        obtain ⟨hpq, y2⟩ := y2
        dsimp only
        rcases y2 with ⟨e93, bd⟩ | ⟨e93, k', P', kp, hk, ms⟩
        · refine bad2 (-1000 - (q : Int)) _ ?_ bd
          unfold pKC
          rw [if_neg (by omega)]
        · have pb' := P'.2.1
          have y38 := P'.1.2.2.2.1
          rw [y38] at fs s37 ⊢
          have Ps : PM (setH y 175 l.length (k' : Int)) n B q k' 0 [] := PMe_cg P' (fun j _ _ => by rw [setH_o (by decide)]) (setH_o (by decide)) (setH_o (by decide)) (setH_o (by decide)) (setH_o (by decide))
          rw [good_m Ps, OK_bindE, OK_some]
          refine OK_gn (by decide) ?_
          rw [OK_bindE]
          refine OK_mono (condition_m Ps) (fun u hu => ?_)
          obtain ⟨u1, u2⟩ := hu
          have fu : F7 h u := F7_tr fs (F7_6 u1)
          have u37 : u 150 37 = (l.length : Int) := (u1 150 37 (by omega) (by decide) (by decide) (by decide)).trans s37
          cases er2 : pKC B q with
          | inl f =>
            rw [er2] at u2
            refine OK_mono (j65_f (by omega)) (fun z hz => ?_)
            exact ⟨F7_tr fu hz.1, by rw [show z 150 36 = _ from hz.2]; exact u2.1, u2.2⟩
          | inr z =>
            obtain ⟨r, uc⟩ := z
            rw [er2] at u2
            obtain ⟨hqr, k2, P2, kp2, hk2, ms2⟩ := u2
            dsimp only
            unfold X12_clause_j65
            rw [u37, wtn l.length rfl (by omega), P2.1.2.2.2.1]
            refine OK_gi (by omega) (by omega) (by omega) ?_
            rw [OK_some]
            have Q2 := QM_P P2
            obtain ⟨⟨a1, a2, a3, a4⟩, a5, a6, a7⟩ := Q2
            refine ⟨F7_tr fu (F7_tr (F7_o (by omega)) (F7_s (by omega))), c2, by omega, k2, ⟨⟨?_, ?_, ?_, ?_⟩, a5, ?_, ?_⟩, ?_, ?_⟩
            · simp (disch := decide) only [setH_o, setH_n]
              exact a1
            · simp (disch := decide) only [setH_o, setH_n]
              exact a2
            · simp (disch := decide) only [setH_o, setH_n]
              exact a3
            · simp (disch := decide) only [setH_o, setH_n]
              exact a4
            · simp (disch := decide) only [setH_o]
              exact a6
            · unfold DKm
              simp (disch := decide) only [setH_o]
              exact a7
            · rw [setH_s]
              rfl
            · have kpA : KPm h y k := KP_tr (KP_o g17.1 g17.2.1) kp (Nat.le_refl _)
              have kpB : KPm y u k' := KP_tr (KP_o (setH_o (by decide)) (setH_o (by decide))) kp2 (Nat.le_refl _)
              have kpC : KPm h u k := KP_tr kpA kpB hk
              have t1 := ms.1
              have t2 := ms2.1
              have c17 : ∀ i, u 173 i = (if i = l.length then B p else h 173 i) ∧ u 174 i = (if i = l.length then (k : Int) else h 174 i) ∧ u 175 i = (if i = l.length then (k' : Int) else h 175 i) ∧ u 176 i = h 176 i := fun i => by
                refine ⟨?_, ?_, ?_, ?_⟩
                · rw [u1 173 i (by omega) (by decide) (by decide) (by decide), setH_o (by decide), y1 173 i (by omega) (by decide) (by decide) (by decide), g17.2.2.2.2.1, setH_at]
                  simp
                · rw [u1 174 i (by omega) (by decide) (by decide) (by decide), setH_o (by decide), y1 174 i (by omega) (by decide) (by decide) (by decide), g17.2.2.2.2.2, setH_at]
                  simp
                · rw [u1 175 i (by omega) (by decide) (by decide) (by decide), setH_at, y1 175 i (by omega) (by decide) (by decide) (by decide), g17.2.2.1]
                  simp
                · rw [u1 176 i (by omega) (by decide) (by decide) (by decide), setH_o (by decide), y1 176 i (by omega) (by decide) (by decide) (by decide), g17.2.2.2.1]
              intro i cl hi
              simp (disch := decide) only [setH_o]
              by_cases hil : i < l.length
              · rw [List.getElem?_append_left hil] at hi
                obtain ⟨a, b', e', ⟨r1, r2, r3⟩, ⟨r4, r5, r6⟩, r7, r8, r9⟩ := K i cl hi
                have r8' := r8.1
                have r9' := r9.1
                have ci := c17 i
                rw [if_neg (by omega), if_neg (by omega), if_neg (by omega)] at ci
                refine ⟨a, b', e', ⟨ci.1.trans r1, r2, r3⟩, ⟨ci.2.1.trans r4, ci.2.2.1.trans r5, ?_⟩, by omega, MS_cg (fun p' _ h2 => kpC p' (by omega)) r8, MS_cg (fun p' _ h2 => kpC p' (by omega)) r9⟩
                rw [setH_n (by omega)]
                exact ci.2.2.2.trans r6
              · have hie : i = l.length := by
                  have := (List.getElem?_eq_some_iff.mp hi).1
                  rw [List.length_append] at this
                  have e1 : ([(B p, v, uc)] : List CL).length = 1 := rfl
                  omega
                subst hie
                rw [List.getElem?_append_right (by omega), Nat.sub_self] at hi
                have hcl : (B p, v, uc) = cl := Option.some.inj hi
                subst hcl
                have ci := c17 l.length
                rw [if_pos rfl, if_pos rfl, if_pos rfl] at ci
                refine ⟨k, k', k2, ⟨ci.1, b.1, b.2.1⟩, ⟨ci.2.1, ci.2.2.1, setH_s⟩, Nat.le_refl _, MS_cg (fun p' _ h2 => kpB p' h2) ms, ms2⟩
    · rw [if_neg c2]
      refine OK_gn (by rw [hc, w32_id (by omega) (by omega), show w32 12 = 12 from rfl]; omega) ?_
      obtain ⟨w1, w2, w3, w4⟩ := wrongs_q P (c := 4) (by omega)
      have w1' : X12_wrongs 4 (h 150 34) h = some (setH h 150 36 (-1000 * 4 - (p : Int))) := w1
      rw [w1', OK_bindE, OK_some]
      exact bad (-4000 - (p : Int)) _ _ _ rfl (F7_s (by omega)) ⟨by rw [setH_s]; omega, by omega, by omega⟩
  · rw [if_neg c1, if_neg c1]
    refine OK_gn (by decide) ?_
    obtain ⟨w1, w2, w3, w4⟩ := wrongs_q P (c := 1) (by omega)
    have w1' : X12_wrongs 1 (h 150 34) h = some (setH h 150 36 (-1000 * 1 - (p : Int))) := w1
    rw [w1', OK_bindE, OK_some]
    exact bad (-1000 - (p : Int)) _ _ _ rfl (F7_s (by omega)) ⟨by rw [setH_s]; omega, by omega, by omega⟩
