/-! a C, by the grammar -/
def SDc (tag : Nat) (c : Int) : Prop := (1 ≤ tag → c ≠ 38) ∧ (2 ≤ tag → c ≠ 124)
def PDc (tag : Nat) (h : Hp) (a k : Nat) (pd : List Int) (v : Den) : Prop := match tag with
  | 0 => pd = [] ∧ MS (h 177) (h 178) a k v True
  | 1 => TC h a k pd v
  | _ => SC h a k pd v
def HDc (c : Int) : Prop := c = 38 ∨ c = 40 ∨ c = 124
def CCm (n : Nat) (B : Nat → Int) (tag : Nat) (sp : Nat → PR) (d : Nat) : Prop := ∀ (p k m e : Nat) (st : List Int) (h : Hp) (kk j : Nat) (Q : Hp → Prop), PM h n B p k d (List.replicate m 33 ++ st) → (1 ≤ tag → m = 0) → d = e + m → HDc (st.headD 0) → SDc tag (st.headD 0) → h 150 41 = 0 → n + 2 ≤ kk + p → n + 2 ≤ j + p →
  (∀ f h', sp p = .inl f → F6 h h' → BDm f h' → Q h') →
  (∀ q v h', sp p = .inr (q, v) → B q = 93 → F6 h h' → BDm (-1000 - (q : Int)) h' → Q h') →
  (∀ q v h' k' pd kk' w, sp p = .inr (q, v) → p < q → SDc tag (B q) → F6 h h' → h' 150 41 = 0 → KPm h h' k → k ≤ k' → PM h' n B q k' e (pd ++ st) → PDc tag h' k k' pd (nots m v) → n + 2 ≤ kk' + q → OK (GBm kk' w h') Q) →
  OK (BPm kk j h) Q
theorem BP_open {h : Hp} {n p k d kk j : Nat} {B : Nat → Int} {st : List Int} (P : PM h n B p k d st) (c : B p = 33 ∨ B p = 40) : BPm kk (j + 1) h = (X12_opens h).bind (BPm kk j) := by
  have e : X12_pieceOfC_l0 h = (X12_opens h).bind fun r => some (.inl r) := by
    unfold X12_pieceOfC_l0 X12_pieceOfC_j11
    rw [good_m P, Option.bind_some, if_neg (by decide), here_m P, Option.bind_some]
    rcases c with c | c
    · rw [if_pos (by rw [c])]
    · rw [if_neg (by rw [c]; decide), Option.bind_some, if_neg (by rw [c]; decide)]
  unfold BPm
  rw [iter0_s, e]
  cases X12_opens h <;> rfl
theorem BP_atom {h : Hp} {n p k d kk j : Nat} {B : Nat → Int} {st : List Int} (P : PM h n B p k d st) (c1 : B p ≠ 33) (c2 : B p ≠ 40) : BPm kk (j + 1) h = (X12_value h).bind fun r => (X12_pieceOfC_j19 r).bind (GBm kk 1) := by
  have b := PM_B P p
  have e : X12_pieceOfC_l0 h = some (.inr h) := by
    have wq := w32_id (z := B p) (by omega) (by omega)
    unfold X12_pieceOfC_l0 X12_pieceOfC_j11
    rw [good_m P, Option.bind_some, if_neg (by decide), here_m P, Option.bind_some, if_neg (by rw [wq]; exact c1), Option.bind_some, if_pos (by rw [wq]; exact c2)]
  have e2 : ptailM h = (X12_value h).bind fun r17 => X12_pieceOfC_j19 r17 := by
    unfold ptailM
    rw [good_m P, Option.bind_some, if_neg (by decide)]
  unfold BPm
  rw [iter0_s, e, Option.bind_some]
  show ((some h).bind ptailM).bind (GBm kk 1) = _
  rw [Option.bind_some, e2, bindA]
theorem rep_hd {m : Nat} {st : List Int} : (List.replicate m 33 ++ st : List Int).headD 0 = 33 ∨ (List.replicate m 33 ++ st : List Int).headD 0 = st.headD 0 := by
  cases m with
  | zero => exact Or.inr rfl
  | succ m => exact Or.inl rfl
theorem piece_m {n d : Nat} {B : Nat → Int} {pc ch : Nat → Nat → PR} (h0 : d + 1 ≤ 6 → CCm n B 0 (pc (d + 1)) (d + 1)) (h2 : d + 1 ≤ 6 → CCm n B 2 (ch (d + 1)) (d + 1)) : CCm n B 0 (pP B pc ch d) d := by
  intro p k m e st h kk j Q P _ hde hhd _ h41 hkk hj hF hT hR
  have b := PM_B P p
  have pb := P.2.1
  have hs : st ≠ [] := fun q => by rw [q] at hhd; unfold HDc at hhd; simp at hhd
  have h33 : st.headD 0 ≠ 33 := by unfold HDc at hhd; omega
  have bad : ∀ f h', pP B pc ch d p = .inl f → F6 h h' → BDm f h' → ∀ kk w, 1 ≤ kk → OK (GBm kk w h') Q := fun f h' e f5 bd kk w hk => by
    obtain ⟨kk, rfl⟩ : ∃ m, kk = m + 1 := ⟨kk - 1, by omega⟩
    rw [GB_f (BD_ne bd), OK_some]
    exact hF f _ e f5 bd
  obtain ⟨j, rfl⟩ : ∃ m, j = m + 1 := ⟨j - 1, by omega⟩
  have opn : (B p = 33 ∨ B p = 40) → (∀ y, F3 h y → PM y n B (p + 1) k (d + 1) (B p :: (List.replicate m 33 ++ st)) → y 177 = h 177 → y 178 = h 178 → ¬ 6 < d + 1 → OK (BPm kk j y) Q) → (6 < d + 1 → pP B pc ch d p = .inl (-5000 - (p : Int))) → OK (BPm kk (j + 1) h) Q := by
    intro c hgo hbad
    have hp := PM_lt P (p := p) (by omega)
    rw [BP_open P c, OK_bindE]
    refine OK_mono (opens_m P hp) (fun y hy => ?_)
    obtain ⟨y1, y2⟩ := hy
    by_cases k6 : 6 < d + 1
    · rw [if_pos k6] at y2
      obtain ⟨j, rfl⟩ : ∃ m, j = m + 1 := ⟨j - 1, by omega⟩
      obtain ⟨kk, rfl⟩ : ∃ m, kk = m + 1 := ⟨kk - 1, by omega⟩
      rw [BP_f (BD_ne y2), OK_some]
      exact hF _ _ (hbad k6) (F6_3 y1) y2
    · rw [if_neg k6] at y2
      exact hgo y y1 y2.1 y2.2.1 y2.2.2 k6
  have y41 : ∀ y, F3 h y → y 150 41 = 0 := fun y f => (F5_41 (F5_3 f)).trans h41
  by_cases c33 : B p = 33
  · refine opn (Or.inl c33) (fun y y1 y2 y3 y4 k6 => ?_) (fun k6 => ?_)
    · rw [c33] at y2
      have ef : pP B pc ch d p = (match pc (d + 1) (p + 1) with
        | .inl f => .inl f
        | .inr (q, v) => .inr (q, vNot v)) := by
        unfold pP
        rw [if_pos c33, if_neg k6]
        cases pc (d + 1) (p + 1) <;> rfl
      refine h0 (by omega) (p + 1) k (m + 1) e st y kk j Q y2 (fun q => by omega) (by omega) hhd ⟨fun q => by omega, fun q => by omega⟩ (y41 y y1) (by omega) (by omega) (fun f h' er f5 bd => ?_) (fun q v h' er eb f5 bd => ?_) (fun q v h' k' pd kk' w er hpq sd f5 g41 kp hk P' pdm hkk' => ?_)
      · exact hF f h' (by rw [ef, er]) (F6_tr (F6_3 y1) f5) bd
      · exact hT q (vNot v) h' (by rw [ef, er]) eb (F6_tr (F6_3 y1) f5) bd
      · exact hR q (vNot v) h' k' pd kk' w (by rw [ef, er]) (by omega) ⟨fun q => by omega, fun q => by omega⟩ (F6_tr (F6_3 y1) f5) g41 (KP_tr (KP_o y3 y4) kp (Nat.le_refl _)) hk P' pdm hkk'
    · unfold pP
      rw [if_pos c33, if_pos k6]
  · by_cases c40 : B p = 40
    · refine opn (Or.inr c40) (fun y y1 y2 y3 y4 k6 => ?_) (fun k6 => ?_)
      · rw [c40] at y2
        have ef : pP B pc ch d p = (match ch (d + 1) (p + 1) with
          | .inl f => .inl f
          | .inr (q, v) => if B q = 41 then .inr (q + 1, v) else .inl (-1000 - (q : Int))) := by
          unfold pP
          rw [if_neg c33, if_pos c40, if_neg k6]
          cases ch (d + 1) (p + 1) <;> rfl
        refine h2 (by omega) (p + 1) k 0 (d + 1) (40 :: (List.replicate m 33 ++ st)) y kk j Q y2 (fun q => rfl) (by omega) (Or.inr (Or.inl rfl)) ⟨fun _ => by show (40 : Int) ≠ 38; decide, fun _ => by show (40 : Int) ≠ 124; decide⟩ (y41 y y1) (by omega) (by omega) (fun f h' er f5 bd => ?_) (fun q v h' er eb f5 bd => ?_) (fun q v h' k' pd kk' w er hpq sd f5 g41 kp hk P' pdm hkk' => ?_)
        · exact hF f h' (by rw [ef, er]) (F6_tr (F6_3 y1) f5) bd
        · exact hF (-1000 - (q : Int)) h' (by rw [ef, er]; exact if_neg (by omega)) (F6_tr (F6_3 y1) f5) bd
        · have pb' := P'.2.1
          have fr : F6 h h' := F6_tr (F6_3 y1) f5
          have kp2 : KPm h h' k := KP_tr (KP_o y3 y4) kp (Nat.le_refl _)
          obtain ⟨kk', rfl⟩ : ∃ m, kk' = m + 1 := ⟨kk' - 1, by omega⟩
          by_cases c3 : B q = 41
          · have hq := PM_lt P' (p := q) (by omega)
            refine GB_close (d := e) (m := m) (by rw [← hde]; exact P') g41 pdm c3 hs h33 (fun h3 k3 P3 f3 e41 kp3 hk3 m3 => ?_)
            exact hR (q + 1) v h3 k3 [] kk' 0 (by rw [ef, er]; exact if_pos c3) (by omega) ⟨fun q => by omega, fun q => by omega⟩ (F6_tr fr f3) e41 (KP_tr kp2 kp3 hk) (by omega) P3 ⟨rfl, m3⟩ (by omega)
          · exact GB_wrong P' (sd.1 (by omega)) (sd.2 (by omega)) c3 (fun h3 f3 bd => hF (-1000 - (q : Int)) h3 (by rw [ef, er]; exact if_neg c3) (F6_tr fr f3) bd)
      · unfold pP
        rw [if_neg c33, if_pos c40, if_pos k6]
    · have ef : pP B pc ch d p = pQ B d p := by
        unfold pP
        rw [if_neg c33, if_neg c40]
      have hS : ∀ c : Int, (c = 33 ∨ HDc c) → ¬ tmC c ∧ ¬ plC c ∧ c ≠ 91 := fun c hc => by
        unfold HDc at hc
        omega
      have hS1 := hS ((List.replicate m 33 ++ st : List Int).headD 0) (by
        rcases rep_hd (m := m) (st := st) with q | q
        · exact Or.inl q
        · rw [q]
          exact Or.inr hhd)
      rw [BP_atom P c33 c40, OK_bindE]
      refine OK_mono (value_m P hS1.1 hS1.2.1 hS1.2.2) (fun y hy => ?_)
      obtain ⟨y1, y2⟩ := hy
      cases er : pE B 60 2 d p with
      | inl f =>
        rw [er] at y2
        have eq : pP B pc ch d p = .inl f := by
          rw [ef]
          unfold pQ
          rw [er]
        rw [j19_f (BD_ne y2), OK_bindE, OK_some]
        exact bad f y eq (F6_5 y1) y2 kk 1 (by omega)
      | inr z =>
        obtain ⟨q, v⟩ := z
        rw [er] at y2
        obtain ⟨hpq, y2⟩ := y2
        have eq : pP B pc ch d p = if inSg 4 (B q) = true then (match pE B 60 2 d (q + 1) with
          | .inl f => .inl f
          | .inr (r, u) => .inr (r, vBin (B q) v u)) else .inl (-1000 - (q : Int)) := by
          rw [ef]
          unfold pQ
          rw [er]
          dsimp only
          cases pE B 60 2 d (q + 1) <;> rfl
        have bq := PM_B P q
        rcases y2 with ⟨e93, bd⟩ | ⟨e93, k', P', kp, hk, ms⟩
        · rw [j19_f (BD_ne bd), OK_bindE, OK_some]
          refine bad (-1000 - (q : Int)) y ?_ (F6_5 y1) bd kk 1 (by omega)
          rw [eq, if_neg]
          intro q4
          have := (inSg4 (by omega)).mp q4
          omega
        · have pb' := P'.2.1
          have y410 : y 150 41 = 0 := (F5_41 y1).trans h41
          unfold X12_pieceOfC_j19
          rw [good_m P', Option.bind_some, if_pos (by decide), here_m P', Option.bind_some, isSign_s (by omega), Option.bind_some]
          by_cases c4 : B q = 60 ∨ B q = 61 ∨ B q = 62
          · have hq := PM_lt P' (p := q) (by omega)
            rw [if_pos ((inSg4 (by omega)).mpr c4)] at eq
            rw [if_pos c4, if_pos (by decide), bindA, OK_bindE]
            refine OK_mono (puts_m P' hq (c := B q) (by omega)) (fun s hs2 => ?_)
            obtain ⟨s1, s2, s3, s4⟩ := hs2
            rw [bindA, OK_bindE]
            refine OK_mono (value_m s1 (by show ¬ tmC (B q); omega) (by show ¬ plC (B q); omega) (by show B q ≠ 91; omega)) (fun g hg => ?_)
            obtain ⟨g1, g2⟩ := hg
            have fr : F6 h g := F6_tr (F6_5 y1) (F6_tr (F6_3 s2) (F6_5 g1))
            cases er2 : pE B 60 2 d (q + 1) with
            | inl f =>
              rw [er2] at g2 eq
              rw [good_f (BD_ne g2), Option.bind_some, if_neg (by decide), OK_bindE, OK_some]
              exact bad f g eq fr g2 kk 1 (by omega)
            | inr z =>
              obtain ⟨r, u⟩ := z
              rw [er2] at g2 eq
              obtain ⟨hqr, g2⟩ := g2
              rcases g2 with ⟨e93, bd⟩ | ⟨e93, k2, P2, kp2, hk2, ms2⟩
              · rw [good_f (BD_ne bd), Option.bind_some, if_neg (by decide), OK_bindE, OK_some]
                obtain ⟨kk, rfl⟩ : ∃ m, kk = m + 1 := ⟨kk - 1, by omega⟩
                rw [GB_f (BD_ne bd), OK_some]
                exact hT r _ g eq e93 fr bd
              · have pb2 := P2.2.1
                rw [good_m P2, Option.bind_some, if_pos (by decide), top_m P2, Option.bind_some]
                show OK (((X12_emit (B q) 0 g).bind fun r14 => (X12_ends (setH r14 150 40 ((r14 150 40) - 1))).bind fun r15 => some r15).bind (GBm kk 1)) Q
                obtain ⟨z, ez, z1, z2, z3, z4⟩ := OK_ex (pop_m (v := B q) P2 (by omega))
                cases em : X12_emit (B q) 0 g with
                | none =>
                  rw [em] at ez
                  cases ez
                | some x =>
                  rw [em] at ez
                  have ez' : setH x 150 40 ((x 150 40) - 1) = z := Option.some.inj ez
                  rw [Option.bind_some, ez']
                  have kpz : KPm y z k' := KP_tr (KP_tr (KP_o s3 s4) kp2 (Nat.le_refl _)) z3 hk2
                  have mb : MS (z 177) (z 178) k (k2 + 1) (vBin (B q) v u) True := by
                    have t1 := ms.1
                    have x1 := MS_cg (fun p' _ h2 => kpz p' h2) ms
                    have x2 := MS_cg (fun p' _ h2 => z3 p' h2) ms2
                    have := MS_bin (C := True) x1 x2 (by rw [z4]; unfold isOp; omega) (fun _ => by rw [z4]; exact c4)
                    rw [z4] at this
                    exact this
                  obtain ⟨w, ew, w1, w2, w3, w4⟩ := OK_ex (ends_m (d := e) (m := m) (by rw [← hde]; exact z1) mb h33)
                  rw [ew, Option.bind_some, Option.bind_some]
                  have fz : F5 y z := F5_tr (F5_3 s2) (F5_tr g1 (F5_3 z2))
                  exact hR r (vBin (B q) v u) w (k2 + 1 + m) [] kk 1 eq (by omega) ⟨fun q => by omega, fun q => by omega⟩ (F6_tr (F6_5 y1) (F6_tr (F6_5 fz) (F6_3 w2))) ((F5_41 (F5_3 w2)).trans ((F5_41 fz).trans y410)) (KP_tr (KP_tr kp kpz hk) w3 (by omega)) (by omega) w1 ⟨rfl, w4⟩ (by omega)
          · rw [if_neg (fun z => c4 ((inSg4 (by omega)).mp z))] at eq
            obtain ⟨w1, w2, w3, w4⟩ := wrongs_m P' (c := 1) (by omega)
            have w1' : X12_wrongs 1 (y 150 34) y = some (setH y 150 36 (-1000 * 1 - (q : Int))) := w1
            rw [if_neg c4, if_neg (by decide), w1', Option.bind_some, OK_bindE, OK_some]
            exact bad _ _ eq (F6_tr (F6_5 y1) (F6_s (by omega))) ⟨by rw [setH_s]; omega, by omega, by omega⟩ kk 1 (by omega)
theorem chainC_m {n d w t0 : Nat} {fl : Bool} {B : Nat → Int} {sp : Nat → PR} {op : Den → Den → Den} (hw : (fl = false ∧ w = 5 ∧ t0 = 0 ∧ op = vAnd) ∨ (fl = true ∧ w = 6 ∧ t0 = 1 ∧ op = vOr)) (hsub : CCm n B t0 sp d) : CCm n B (t0 + 1) (pU B w op sp) d := by
  intro p k m0 e st h kk j Q P hm hde hhd hst h41 hkk hj hF hT hR
  have hm0 : m0 = 0 := hm (by omega)
  subst hm0
  have hde2 : d = e := by omega
  have h1 : st.headD 0 ≠ 38 := hst.1 (by omega)
  have h2 : fl = true → st.headD 0 ≠ 124 := fun e => by
    rcases hw with ⟨a, _, _, _⟩ | ⟨_, _, c, _⟩
    · rw [a] at e
      cases e
    · exact hst.2 (by omega)
  have loop : ∀ (m q : Nat) (v : Den) (h' : Hp) (k' : Nat) (pd : List Int) (kk' : Nat) (wi : Int), n < q + m → PM h' n B q k' d (pd ++ st) → PDc (t0 + 1) h' k k' pd v → F6 h h' → h' 150 41 = 0 → KPm h h' k → k ≤ k' → p < q → SDc t0 (B q) → n + 2 ≤ kk' + q → pU B w op sp p = pJ B w op sp m q v → OK (GBm kk' wi h') Q := by
    intro m
    induction m with
    | zero => intro q v h' k' pd kk' wi hq P'; have := P'.2.1; omega
    | succ m ih =>
      intro q v h' k' pd kk' wi hq P' pdm f5 e41 kp hk hpq sd hkk' er
      have b := PM_B P' q
      have pb' := P'.2.1
      have wS : inSg w (B q) = true ↔ (if fl = true then orC (B q) else anC (B q)) := by
        rcases hw with ⟨e1, e2, e3, e4⟩ | ⟨e1, e2, e3, e4⟩
        · rw [e1, e2]
          exact inSgA (by omega)
        · rw [e1, e2]
          exact inSgO (by omega)
      rw [pJ_s] at er
      by_cases c : inSg w (B q) = true
      · rw [if_pos c] at er
        have cs := wS.mp c
        have hqn : q < n := PM_lt P' (fun z => by rw [z] at cs; split at cs <;> omega)
        obtain ⟨kk', rfl⟩ : ∃ m, kk' = m + 1 := ⟨kk' - 1, by omega⟩
        have t : if fl = true then SC h' k k' pd v else TC h' k k' pd v := by
          rcases hw with ⟨e1, e2, e3, e4⟩ | ⟨e1, e2, e3, e4⟩
          · subst e3
            rw [e1]
            exact pdm
          · subst e3
            rw [e1]
            exact pdm
        have hdc : HDc (B q) := by
          unfold HDc
          split at cs <;> omega
        refine GB_op P' e41 t cs h1 h2 (fun h3 k2 P3 f3 kp3 hk3 m3 => ?_)
        have g41 : h3 150 41 = 0 := (F5_41 f3).trans e41
        have fu : n + 2 ≤ FU + (q + 1) := by
          have : 1000 < FU := lt_FU (by omega)
          omega
        refine hsub (q + 1) k2 0 d (B q :: st) h3 kk' FU Q P3 (fun _ => rfl) (by omega) hdc sd g41 (by omega) fu (fun f h4 e f4 bd => ?_) (fun r u h4 e eb f4 bd => ?_) (fun r u h4 k4 pd4 kk4 w4 e hr sd4 f4 i41 kp4 hk4 P4 pdm4 hkk4 => ?_)
        · exact hF f h4 (by rw [er, e]) (F6_tr (F6_tr f5 (F6_5 f3)) f4) bd
        · refine hT r (op v u) h4 ?_ eb (F6_tr (F6_tr f5 (F6_5 f3)) f4) bd
          rw [er, e]
          dsimp only
          have hr2 : inSg w (B r) ≠ true := by
            rw [eb]
            rcases hw with ⟨e1, e2, e3, e4⟩ | ⟨e1, e2, e3, e4⟩
            · rw [e2]
              exact fun z => absurd ((inSgA (by omega)).mp z) (by decide)
            · rw [e2]
              exact fun z => absurd ((inSgO (by omega)).mp z) (by decide)
          cases m with
          | zero => rfl
          | succ m =>
            rw [pJ_s]
            exact if_neg hr2
        · have s3 := m3.1
          have mv : MS (h4 177) (h4 178) k k2 v True := MS_cg (fun p' _ hp2 => kp4 p' hp2) m3
          refine ih r (op v u) h4 k4 (pd4 ++ [B q]) kk4 w4 (by omega) (by rw [List.append_assoc]; exact P4) ?_ (F6_tr (F6_tr f5 (F6_5 f3)) f4) i41 (KP_tr (KP_tr kp kp3 (by omega)) kp4 (by omega)) (by omega) (by omega) sd4 hkk4 (by rw [er, e])
          rcases hw with ⟨e1, e2, e3, e4⟩ | ⟨e1, e2, e3, e4⟩
          · subst e3
            rw [e1, if_neg (by decide)] at cs
            obtain ⟨g1, g2⟩ := pdm4
            subst g1
            refine Or.inr ⟨B q, k2, v, u, rfl, cs, mv, g2, ?_⟩
            rw [e4]
            exact (if_pos cs).symm
          · subst e3
            rw [e1, if_pos rfl] at cs
            refine Or.inr ⟨B q, k2, v, u, pd4, rfl, cs, mv, pdm4, ?_⟩
            rw [e4]
            exact (if_neg (by omega)).symm
      · rw [if_neg c] at er
        have P'' : PM h' n B q k' e (pd ++ st) := by rw [← hde2]; exact P'
        refine hR q v h' k' pd kk' wi er hpq ?_ f5 e41 kp hk P'' pdm hkk'
        have cs : ¬ (if fl = true then orC (B q) else anC (B q)) := fun z => c (wS.mpr z)
        rcases hw with ⟨e1, e2, e3, e4⟩ | ⟨e1, e2, e3, e4⟩
        · subst e3
          rw [e1, if_neg (by decide)] at cs
          exact ⟨fun _ => cs, fun q => by omega⟩
        · subst e3
          rw [e1, if_pos rfl] at cs
          exact ⟨fun _ => sd.1 (by omega), fun _ => cs⟩
  refine hsub p k 0 e st h kk j Q P (fun _ => rfl) (by omega) hhd ⟨fun q => h1, fun q => hst.2 (by omega)⟩ h41 hkk hj (fun f h' e f5 bd => ?_) (fun q v h' e eb f5 bd => ?_) (fun q v h' k' pd kk' wi er hpq sd f5 e41 kp hk P' pdm hkk' => ?_)
  · refine hF f h' ?_ f5 bd
    unfold pU
    rw [e]
  · refine hT q v h' ?_ eb f5 bd
    unfold pU
    rw [e]
    dsimp only
    rw [show (200 : Nat) = 199 + 1 from rfl, pJ_s]
    refine if_neg ?_
    rw [eb]
    rcases hw with ⟨e1, e2, e3, e4⟩ | ⟨e1, e2, e3, e4⟩
    · rw [e2]
      exact fun z => absurd ((inSgA (by omega)).mp z) (by decide)
    · rw [e2]
      exact fun z => absurd ((inSgO (by omega)).mp z) (by decide)
  · refine loop 200 q v h' k' pd kk' wi (by have := P'.2.1; omega) (by rw [hde2]; exact P') ?_ f5 e41 kp hk hpq sd hkk' (by unfold pU; rw [er])
    rcases hw with ⟨e1, e2, e3, e4⟩ | ⟨e1, e2, e3, e4⟩
    · subst e3
      exact Or.inl pdm
    · subst e3
      exact Or.inl pdm
theorem C_m {n : Nat} {B : Nat → Int} : ∀ (k tag d : Nat), tag ≤ 2 → d ≤ 6 → 3 * (6 - d) + tag + 1 ≤ k → CCm n B tag (fun p => pC B k tag d p) d
  | 0, tag, d, h1, h2, h3 => by omega
  | k + 1, tag, d, h1, h2, h3 => by
    match tag, h1, h3 with
    | 0, h1, h3 => exact piece_m (fun hd => C_m k 0 (d + 1) (by omega) hd (by omega)) (fun hd => C_m k 2 (d + 1) (by omega) hd (by omega))
    | 1, h1, h3 => exact chainC_m (fl := false) (w := 5) (t0 := 0) (Or.inl ⟨rfl, rfl, rfl, rfl⟩) (C_m k 0 d (by omega) h2 (by omega))
    | 2, h1, h3 => exact chainC_m (fl := true) (w := 6) (t0 := 1) (Or.inr ⟨rfl, rfl, rfl, rfl⟩) (C_m k 1 d (by omega) h2 (by omega))
    | t + 3, h1, h3 => omega
/-- the rest of a clause behind its E -/
def pKC (B : Nat → Int) (q : Nat) : PR := if B q = 40 then (match pC B 60 2 1 (q + 1) with
  | .inl f => .inl f
  | .inr (r, u) => if B r = 41 then .inr (r + 1, u) else .inl (-1000 - (r : Int))) else .inl (-1000 - (q : Int))
theorem condition_m {n q k : Nat} {B : Nat → Int} {h : Hp} (P : PM h n B q k 0 []) : OK (X12_condition h) (fun h' => F6 h h' ∧ match pKC B q with
    | .inl f => BDm f h'
    | .inr (r, u) => q < r ∧ ∃ k', PM h' n B r k' 0 [] ∧ KPm h h' k ∧ k ≤ k' ∧ MS (h' 177) (h' 178) k k' u True) := by
  have b := PM_B P q
  have pb := P.2.1
  have P2 := PM_42 (z := 0) P (j := 41) (by omega)
  unfold X12_condition
  rw [here_m P2, OK_bindE, OK_some, w32_id (z := B q) (by omega) (by omega), show w32 40 = 40 from rfl]
  by_cases c : B q = 40
  · have hq := PM_lt P (p := q) (by omega)
    have ek : pKC B q = (match pC B 60 2 1 (q + 1) with
        | .inl f => .inl f
        | .inr (r, u) => if B r = 41 then .inr (r + 1, u) else .inl (-1000 - (r : Int))) := by
      unfold pKC
      rw [if_pos c]
    refine OK_gd c ?_
    unfold X12_condition_j12
    rw [good_m P2, OK_bindE, OK_some]
    refine OK_gd (by decide) ?_
    rw [OK_bindE]
    refine OK_mono (opens_m P2 hq) (fun y hy => ?_)
    obtain ⟨y1, y2⟩ := hy
    rw [if_neg (by omega), c] at y2
    obtain ⟨y3, y4, y5⟩ := y2
    have y41 : y 150 41 = 0 := by rw [F5_41 (F5_3 y1), setH_s]
    obtain ⟨kk, hkk, hkk2⟩ : ∃ m, FU = m + 1 ∧ 999 ≤ m := ⟨FU - 1, by have : 1000 < FU := lt_FU (by omega); omega, by have : 1000 < FU := lt_FU (by omega); omega⟩
    have ei : iter X12_condition_l20 FU (1, y) = LCm FU 1 y := by
      rw [iter_eq]
      rfl
    have fy : F6 h y := F6_tr (F6_s (by omega)) (F6_3 y1)
    have kpy : KPm h y k := KP_o (by rw [y4, setH_o (by decide)]) (by rw [y5, setH_o (by decide)])
    rw [ei, hkk, LC_1 y3 y41, OK_bindE]
    have G : OK (BPm kk FU y) (fun h' => F6 h h' ∧ match pKC B q with
    | .inl f => BDm f h'
    | .inr (r, u) => q < r ∧ ∃ k', PM h' n B r k' 0 [] ∧ KPm h h' k ∧ k ≤ k' ∧ MS (h' 177) (h' 178) k k' u True) := by
      refine C_m 60 2 1 (by omega) (by omega) (by omega) (q + 1) k 0 1 [40] y kk FU _ y3 (fun _ => rfl) rfl (Or.inr (Or.inl rfl)) ⟨fun _ => by show (40 : Int) ≠ 38; decide, fun _ => by show (40 : Int) ≠ 124; decide⟩ y41 (by omega) (by omega) (fun f h' e f5 bd => ?_) (fun r u h' e eb f5 bd => ?_) (fun r u h' k' pd kk' w e hr sd f5 g41 kp hk P' pdm hkk' => ?_)
      · dsimp only at e
        rw [ek, e]
        exact ⟨F6_tr fy f5, bd⟩
      · dsimp only at e
        rw [ek, e]
        dsimp only
        rw [if_neg (by omega)]
        exact ⟨F6_tr fy f5, bd⟩
      · dsimp only at e
        have pb' := P'.2.1
        obtain ⟨kk', rfl⟩ : ∃ m, kk' = m + 1 := ⟨kk' - 1, by omega⟩
        rw [ek, e]
        dsimp only
        by_cases c3 : B r = 41
        · rw [if_pos c3]
          exact GB_last P' g41 pdm c3 (fun h3 k3 P3 f3 kp3 hk3 m3 => ⟨F6_tr fy (F6_tr f5 f3), by omega, k3, P3, KP_tr kpy (KP_tr kp kp3 hk) (Nat.le_refl _), by omega, m3⟩)
        · rw [if_neg c3]
          exact GB_wrong P' (sd.1 (by omega)) (sd.2 (by omega)) c3 (fun h3 f3 bd => ⟨F6_tr fy (F6_tr f5 f3), bd⟩)
    exact OK_mono G (fun z hz => by rw [OK_some]; exact hz)
  · have ek : pKC B q = .inl (-1000 - (q : Int)) := by
      unfold pKC
      rw [if_neg c]
    refine OK_gn c ?_
    obtain ⟨w1, w2, w3, w4⟩ := wrongs_m P2 (c := 1) (by omega)
    rw [setH_n (by decide)] at w1
    have w1' : X12_wrongs 1 (h 150 34) (setH h 150 41 0) = some (setH (setH h 150 41 0) 150 36 (-1000 * 1 - (q : Int))) := w1
    have bd : BDm (-1000 - (q : Int)) (setH (setH h 150 41 0) 150 36 (-1000 * 1 - (q : Int))) := ⟨by rw [setH_s]; omega, by omega, by omega⟩
    unfold X12_condition_j12
    rw [w1', OK_bindE, OK_some, good_f (BD_ne bd), OK_bindE, OK_some]
    refine OK_gn (by decide) ?_
    rw [OK_some, ek]
    exact ⟨F6_tr (F6_s (by omega)) (F6_s (by omega)), bd⟩
